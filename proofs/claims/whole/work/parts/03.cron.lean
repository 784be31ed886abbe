theorem xc_144 (W t rs : Nat) (st nd np no nm : Int32) (made kin dur pri ovl mis per mnt hrs day mon wkd nxt sta los msd mss wai req bsy wjb wen kjb kst kdu : Nat → Int32) (x4 x5 z0 : Int32) (a b c : Prop) (ha : (x4 = 1 ∧ a) ∨ (x4 = 0 ∧ ¬ a)) (hb : (x5 = 1 ∧ b) ∨ (x5 = 0 ∧ ¬ b)) (hc : (z0 = 1 ∧ c) ∨ (z0 = 0 ∧ ¬ c)) (post : Int32 → Prop) (h1 : ((c ∧ a ∧ b) ∨ (¬ c ∧ (a ∨ b))) → post 1) (h0 : ¬ ((c ∧ a ∧ b) ∨ (¬ c ∧ (a ∨ b))) → post 0) : wX_cronFits_144 post x4 x5 z0 (nI W) (nI t) st (nI rs) nd np no nm made kin dur pri ovl mis per mnt hrs day mon wkd nxt sta los msd mss wai req bsy wjb wen kjb kst kdu := by
  have n1 : ¬ (1 : Int32) = 0 := by decide
  rcases hc with ⟨rfl, c1⟩ | ⟨rfl, c0⟩
  · refine br_f n1 ?_
    rcases ha with ⟨rfl, a1⟩ | ⟨rfl, a0⟩
    · refine br_f n1 ?_
      rcases hb with ⟨rfl, b1⟩ | ⟨rfl, b0⟩
      · exact br_f n1 (h1 (Or.inl ⟨c1, a1, b1⟩))
      · exact br_t rfl (h0 (fun z => z.elim (fun y => b0 y.2.2) (fun y => y.1 c1)))
    · exact br_t rfl (h0 (fun z => z.elim (fun y => a0 y.2.1) (fun y => y.1 c1)))
  · refine br_t rfl ?_
    rcases ha with ⟨rfl, a1⟩ | ⟨rfl, a0⟩
    · exact br_f n1 (h1 (Or.inr ⟨c0, Or.inl a1⟩))
    · refine br_t rfl ?_
      rcases hb with ⟨rfl, b1⟩ | ⟨rfl, b0⟩
      · exact br_f n1 (h1 (Or.inr ⟨c0, Or.inr b1⟩))
      · exact br_t rfl (h0 (fun z => z.elim (fun y => c0 y.1) (fun y => y.2.elim a0 b0)))
theorem xc_114 (W t rs : Nat) (st nd np no nm : Int32) (made kin dur pri ovl mis per mnt hrs day mon wkd nxt sta los msd mss wai req bsy wjb wen kjb kst kdu : Nat → Int32) (j : Nat) (hj : j < 12) (x4 x5 : Int32) (a b : Prop) (ha : (x4 = 1 ∧ a) ∨ (x4 = 0 ∧ ¬ a)) (hb : (x5 = 1 ∧ b) ∨ (x5 = 0 ∧ ¬ b)) (post : Int32 → Prop) (h1 : (((day j = 1023 ∨ wkd j = 127) ∧ a ∧ b) ∨ (¬ (day j = 1023 ∨ wkd j = 127) ∧ (a ∨ b))) → post 1) (h0 : ¬ (((day j = 1023 ∨ wkd j = 127) ∧ a ∧ b) ∨ (¬ (day j = 1023 ∨ wkd j = 127) ∧ (a ∨ b))) → post 0) : wX_cronFits_114 post (nI j) x4 x5 (nI W) (nI t) st (nI rs) nd np no nm made kin dur pri ovl mis per mnt hrs day mon wkd nxt sta los msd mss wai req bsy wjb wen kjb kst kdu :=
  ⟨ar_in, br_c (fun d => xc_144 _ _ _ _ _ _ _ _ _ _ _ _ _ _ _ _ _ _ _ _ _ _ _ _ _ _ _ _ _ _ _ _ _ x4 x5 1 a b _ ha hb (Or.inl ⟨rfl, Or.inl (ar_o d)⟩) post h1 h0) (fun d => ⟨ar_in, br_c (fun e => xc_144 _ _ _ _ _ _ _ _ _ _ _ _ _ _ _ _ _ _ _ _ _ _ _ _ _ _ _ _ _ _ _ _ _ x4 x5 1 a b _ ha hb (Or.inl ⟨rfl, Or.inr (ar_o e)⟩) post h1 h0) (fun e => xc_144 _ _ _ _ _ _ _ _ _ _ _ _ _ _ _ _ _ _ _ _ _ _ _ _ _ _ _ _ _ _ _ _ _ x4 x5 0 a b _ ha hb (Or.inr ⟨rfl, fun z => z.elim (ar_on d) (ar_on e)⟩) post h1 h0)⟩)⟩
theorem xc_fits (W t rs : Nat) (st nd np no nm : Int32) (made kin dur pri ovl mis per mnt hrs day mon wkd nxt sta los msd mss wai req bsy wjb wen kjb kst kdu : Nat → Int32) (j s : Nat) (hj : j < 12) (hs : s < 2147483648) (post : Int32 → Prop) (h1 : ca_fit (mnt j) (hrs j) (day j) (mon j) (wkd j) s → post 1) (h0 : ¬ ca_fit (mnt j) (hrs j) (day j) (mon j) (wkd j) s → post 0) : wpX_cronFits post ((nI W), (nI t), st, (nI rs), nd, np, no, nm, made, kin, dur, pri, ovl, mis, per, mnt, hrs, day, mon, wkd, nxt, sta, los, msd, mss, wai, req, bsy, wjb, wen, kjb, kst, kdu) (nI j) (nI s) := by
  have hk : (nI j).toNatClampNeg = j := ar_k
  refine And.intro ar_in (xr_minute _ _ _ _ _ _ _ _ _ _ _ _ _ _ _ _ _ _ _ _ _ _ _ _ _ _ _ _ _ _ _ _ _ s hs _ (br_c (fun a => ⟨ar_in, xr_hour _ _ _ _ _ _ _ _ _ _ _ _ _ _ _ _ _ _ _ _ _ _ _ _ _ _ _ _ _ _ _ _ _ s hs _ (br_c (fun b => ⟨ar_in, xr_month _ _ _ _ _ _ _ _ _ _ _ _ _ _ _ _ _ _ _ _ _ _ _ _ _ _ _ _ _ _ _ _ _ s hs _ (br_c (fun c => ?_) (fun c => ?_))⟩) (fun b => ?_))⟩) (fun a => ?_)))
  · rw [hk] at a b c
    refine br_f (by decide) ⟨ar_in, xr_day _ _ _ _ _ _ _ _ _ _ _ _ _ _ _ _ _ _ _ _ _ _ _ _ _ _ _ _ _ _ _ _ _ s hs _ ?_⟩
    have fin : ∀ x4 x5 : Int32, ((x4 = 1 ∧ ca_has (day j) (nI (s / 80 % 10))) ∨ (x4 = 0 ∧ ¬ ca_has (day j) (nI (s / 80 % 10)))) → ((x5 = 1 ∧ ca_has (wkd j) (nI (s / 80 % 7))) ∨ (x5 = 0 ∧ ¬ ca_has (wkd j) (nI (s / 80 % 7)))) → wX_cronFits_114 post (nI j) x4 x5 (nI W) (nI t) st (nI rs) nd np no nm made kin dur pri ovl mis per mnt hrs day mon wkd nxt sta los msd mss wai req bsy wjb wen kjb kst kdu := fun x4 x5 ha hb => xc_114 _ _ _ _ _ _ _ _ _ _ _ _ _ _ _ _ _ _ _ _ _ _ _ _ _ _ _ _ _ _ _ _ _ j hj x4 x5 _ _ ha hb post (fun z => h1 ⟨a, b, c, z⟩) (fun z => h0 (fun y => z y.2.2.2))
    have fin2 : ∀ x4 : Int32, ((x4 = 1 ∧ ca_has (day j) (nI (s / 80 % 10))) ∨ (x4 = 0 ∧ ¬ ca_has (day j) (nI (s / 80 % 10)))) → wX_cronFits_89 post (nI j) (nI s) x4 (nI W) (nI t) st (nI rs) nd np no nm made kin dur pri ovl mis per mnt hrs day mon wkd nxt sta los msd mss wai req bsy wjb wen kjb kst kdu := fun x4 ha => And.intro ar_in (xr_week _ _ _ _ _ _ _ _ _ _ _ _ _ _ _ _ _ _ _ _ _ _ _ _ _ _ _ _ _ _ _ _ _ s hs _ (br_c (fun w => fin x4 1 ha (Or.inl ⟨rfl, by rw [hk] at w; exact w⟩)) (fun w => fin x4 0 ha (Or.inr ⟨rfl, by rw [hk] at w; exact w⟩))))
    exact br_c (fun w => fin2 1 (Or.inl ⟨rfl, by rw [hk] at w; exact w⟩)) (fun w => fin2 0 (Or.inr ⟨rfl, by rw [hk] at w; exact w⟩))
  · exact br_t rfl (h0 (fun y => by rw [hk] at c; exact c y.2.2.1))
  · exact br_t rfl (h0 (fun y => by rw [hk] at b; exact b y.2.1))
  · exact br_t rfl (h0 (fun y => by rw [hk] at a; exact a y.1))
theorem xc_next (W t rs : Nat) (st nd np no nm : Int32) (made kin dur pri ovl mis per mnt hrs day mon wkd nxt sta los msd mss wai req bsy wjb wen kjb kst kdu : Nat → Int32) (j : Nat) (hj : j < 12) (ht : t ≤ 1000000) (post : Int32 → Prop) (h1 : ∀ d, t + 1 ≤ d → d ≤ t + 22400 → ca_fit (mnt j) (hrs j) (day j) (mon j) (wkd j) d → (∀ s, t + 1 ≤ s → s < d → ¬ ca_fit (mnt j) (hrs j) (day j) (mon j) (wkd j) s) → post (nI d)) (h0 : (∀ s, t + 1 ≤ s → ¬ ca_fit (mnt j) (hrs j) (day j) (mon j) (wkd j) s) → post (-2)) : wpX_nextCronTime post ((nI W), (nI t), st, (nI rs), nd, np, no, nm, made, kin, dur, pri, ovl, mis, per, mnt, hrs, day, mon, wkd, nxt, sta, los, msd, mss, wai, req, bsy, wjb, wen, kjb, kst, kdu) (nI j) := by
  have key : ∀ d i, 1 ≤ i → i + d = 22401 → (∀ s, t + 1 ≤ s → s < t + i → ¬ ca_fit (mnt j) (hrs j) (day j) (mon j) (wkd j) s) → wX_nextCronTime_2 post (nI j) (nI W) (nI t) st (nI rs) nd np no nm made kin dur pri ovl mis per mnt hrs day mon wkd nxt sta los msd mss wai req bsy wjb wen kjb kst kdu (d + 1) (nI i) := by
    intro d
    induction d with
    | zero =>
      intro i h1i hi hn
      exact pk_lt 22400 i (fun _ => h0 (ca_nev (fun s ha hb => hn s ha (by omega)))) (fun h => absurd h (by omega))
    | succ d ih =>
      intro i h1i hi hn
      refine pk_lt 22400 i (fun h => absurd h (by omega)) (fun h => ?_)
      rw [nI_add]
      refine xc_fits _ _ _ _ _ _ _ _ _ _ _ _ _ _ _ _ _ _ _ _ _ _ _ _ _ _ _ _ _ _ _ _ _ j (t + i) hj (by omega) _ (fun y => br_f (by decide) (h1 (t + i) (by omega) (by omega) y hn)) (fun y => br_t rfl (nm_r (nI_1 i) (ih (i + 1) (by omega) (by omega) ?_)))
      intro s hs1 hs2
      rcases Nat.lt_or_ge s (t + i) with hh | hh
      · exact hn s hs1 hh
      · rw [show s = t + i by omega]; exact y
  exact ⟨_, key 22400 1 (by omega) (by omega) (fun s ha hb => absurd hb (by omega))⟩
theorem yc_has (W t rs : Nat) (st nd np no nm ask : Int32) (knd dur pri ovl mis nex prd sets sta los msd mnw wai wdu doi ens his fld : Nat → Int32) (j k : Nat) (hj : j < 12) (hk : k < 5) (post : Int32 → Prop) (h1 : ca_has (sets (5 * j + k)) (fld k) → post 1) (h0 : ¬ ca_has (sets (5 * j + k)) (fld k) → post 0) : wpY_has post ((nI W), (nI t), (nI rs), st, nd, np, no, nm, ask, knd, dur, pri, ovl, mis, nex, prd, sets, sta, los, msd, mnw, wai, wdu, doi, ens, his, fld) (nI j) (nI k) := by
  have e : 5 * nI j + nI k = nI (5 * j + k) := by rw [ar_5x, nI_add]
  have k1 : (5 * nI j + nI k).toNatClampNeg = 5 * j + k := by rw [e]; exact ar_k
  have k2 : (nI k).toNatClampNeg = k := ar_k
  refine And.intro (by rw [e]; exact ar_in) ⟨ar_in, br_c (fun z => h1 ?_) (fun z => h0 ?_)⟩
  · rw [k1, k2] at z; exact z
  · rw [k1, k2] at z; exact z
theorem yc_65 (W t rs : Nat) (st nd np no nm ask : Int32) (knd dur pri ovl mis nex prd sets sta los msd mnw wai wdu doi ens his fld : Nat → Int32) (j : Nat) (hj : j < 12) (z0 : Int32) (c : Prop) (hc : (z0 = 1 ∧ c) ∨ (z0 = 0 ∧ ¬ c)) (post : Int32 → Prop) (h1 : ((c ∧ ca_has (sets (5 * j + 2)) (fld 2) ∧ ca_has (sets (5 * j + 4)) (fld 4)) ∨ (¬ c ∧ (ca_has (sets (5 * j + 2)) (fld 2) ∨ ca_has (sets (5 * j + 4)) (fld 4)))) → post 1) (h0 : ¬ ((c ∧ ca_has (sets (5 * j + 2)) (fld 2) ∧ ca_has (sets (5 * j + 4)) (fld 4)) ∨ (¬ c ∧ (ca_has (sets (5 * j + 2)) (fld 2) ∨ ca_has (sets (5 * j + 4)) (fld 4)))) → post 0) : wY_fits_65 post (nI j) z0 (nI W) (nI t) (nI rs) st nd np no nm ask knd dur pri ovl mis nex prd sets sta los msd mnw wai wdu doi ens his fld := by
  have n1 : ¬ (1 : Int32) = 0 := by decide
  refine yc_has _ _ _ _ _ _ _ _ _ _ _ _ _ _ _ _ _ _ _ _ _ _ _ _ _ _ _ j 2 hj (by omega) _ (fun a => yc_has _ _ _ _ _ _ _ _ _ _ _ _ _ _ _ _ _ _ _ _ _ _ _ _ _ _ _ j 4 hj (by omega) _ (fun b => ?_) (fun b => ?_)) (fun a => yc_has _ _ _ _ _ _ _ _ _ _ _ _ _ _ _ _ _ _ _ _ _ _ _ _ _ _ _ j 4 hj (by omega) _ (fun b => ?_) (fun b => ?_))
  · rcases hc with ⟨rfl, c1⟩ | ⟨rfl, c0⟩
    · exact br_f n1 (br_f n1 (br_f n1 (h1 (Or.inl ⟨c1, a, b⟩))))
    · exact br_t rfl (br_f n1 (h1 (Or.inr ⟨c0, Or.inl a⟩)))
  · rcases hc with ⟨rfl, c1⟩ | ⟨rfl, c0⟩
    · exact br_f n1 (br_f n1 (br_t rfl (h0 (fun z => z.elim (fun y => b y.2.2) (fun y => y.1 c1)))))
    · exact br_t rfl (br_f n1 (h1 (Or.inr ⟨c0, Or.inl a⟩)))
  · rcases hc with ⟨rfl, c1⟩ | ⟨rfl, c0⟩
    · exact br_f n1 (br_t rfl (h0 (fun z => z.elim (fun y => a y.2.1) (fun y => y.1 c1))))
    · exact br_t rfl (br_t rfl (br_f n1 (h1 (Or.inr ⟨c0, Or.inr b⟩))))
  · rcases hc with ⟨rfl, c1⟩ | ⟨rfl, c0⟩
    · exact br_f n1 (br_t rfl (h0 (fun z => z.elim (fun y => a y.2.1) (fun y => y.1 c1))))
    · exact br_t rfl (br_t rfl (br_t rfl (h0 (fun z => z.elim (fun y => c0 y.1) (fun y => y.2.elim a b)))))
theorem yc_fits (W t rs : Nat) (st nd np no nm ask : Int32) (knd dur pri ovl mis nex prd sets sta los msd mnw wai wdu doi ens his fld : Nat → Int32) (j s : Nat) (hj : j < 12) (hF : ca_F s fld) (post : Int32 → Prop) (h1 : ca_fit (sets (5 * j)) (sets (5 * j + 1)) (sets (5 * j + 2)) (sets (5 * j + 3)) (sets (5 * j + 4)) s → post 1) (h0 : ¬ ca_fit (sets (5 * j)) (sets (5 * j + 1)) (sets (5 * j + 2)) (sets (5 * j + 3)) (sets (5 * j + 4)) s → post 0) : wpY_fits post ((nI W), (nI t), (nI rs), st, nd, np, no, nm, ask, knd, dur, pri, ovl, mis, nex, prd, sets, sta, los, msd, mnw, wai, wdu, doi, ens, his, fld) (nI j) := by
  have f0 : fld 0 = nI (s % 10) := hF 0 (by omega)
  have f1 : fld 1 = nI (s / 10 % 8) := hF 1 (by omega)
  have f2 : fld 2 = nI (s / 80 % 10) := hF 2 (by omega)
  have f3 : fld 3 = nI (s / 800 % 4) := hF 3 (by omega)
  have f4 : fld 4 = nI (s / 80 % 7) := hF 4 (by omega)
  have n1 : ¬ (1 : Int32) = 0 := by decide
  have e2 : 5 * nI j + 2 = nI (5 * j + 2) := by rw [ar_5x]; exact nI_add _ 2
  have e4 : 5 * nI j + 4 = nI (5 * j + 4) := by rw [ar_5x]; exact nI_add _ 4
  have k2 : (5 * nI j + 2).toNatClampNeg = 5 * j + 2 := by rw [e2]; exact ar_k
  have k4 : (5 * nI j + 4).toNatClampNeg = 5 * j + 4 := by rw [e4]; exact ar_k
  unfold ca_fit at h1 h0
  rw [← f0, ← f1, ← f2, ← f3, ← f4] at h1 h0
  unfold wpY_fits
  dsimp only
  refine yc_has _ _ _ _ _ _ _ _ _ _ _ _ _ _ _ _ _ _ _ _ _ _ _ _ _ _ _ j 0 hj (by omega) _ (fun a => br_f n1 (yc_has _ _ _ _ _ _ _ _ _ _ _ _ _ _ _ _ _ _ _ _ _ _ _ _ _ _ _ j 1 hj (by omega) _ (fun b => br_f n1 (yc_has _ _ _ _ _ _ _ _ _ _ _ _ _ _ _ _ _ _ _ _ _ _ _ _ _ _ _ j 3 hj (by omega) _ (fun c => br_f n1 ?_) (fun c => br_t rfl (h0 (fun y => c y.2.2.1))))) (fun b => br_t rfl (h0 (fun y => b y.2.1))))) (fun a => br_t rfl (h0 (fun y => a y.1)))
  have fin : ∀ z0 : Int32, ((z0 = 1 ∧ (sets (5 * j + 2) = 1023 ∨ sets (5 * j + 4) = 127)) ∨ (z0 = 0 ∧ ¬ (sets (5 * j + 2) = 1023 ∨ sets (5 * j + 4) = 127))) → wY_fits_65 post (nI j) z0 (nI W) (nI t) (nI rs) st nd np no nm ask knd dur pri ovl mis nex prd sets sta los msd mnw wai wdu doi ens his fld := fun z0 hc => yc_65 _ _ _ _ _ _ _ _ _ _ _ _ _ _ _ _ _ _ _ _ _ _ _ _ _ _ _ j hj z0 _ hc post (fun y => h1 ⟨a, b, c, y⟩) (fun y => h0 (fun x => y x.2.2.2))
  refine ⟨by rw [e2]; exact ar_in, br_c (fun d => fin 1 (Or.inl ⟨rfl, Or.inl (by rw [k2] at d; exact d)⟩)) (fun d => ⟨by rw [e4]; exact ar_in, br_c (fun e => fin 1 (Or.inl ⟨rfl, Or.inr (by rw [k4] at e; exact e)⟩)) (fun e => fin 0 (Or.inr ⟨rfl, ?_⟩))⟩)⟩
  rw [k2] at d
  rw [k4] at e
  exact fun z => z.elim d e
theorem yc_dueAt (W t rs : Nat) (st nd np no nm ask : Int32) (knd dur pri ovl mis nex prd sets sta los msd mnw wai wdu doi ens his fld : Nat → Int32) (j s : Nat) (hj : j < 12) (hs : s < 2147483648) (post : Int32 → SY → Prop) (h1 : ∀ fld', ca_fit (sets (5 * j)) (sets (5 * j + 1)) (sets (5 * j + 2)) (sets (5 * j + 3)) (sets (5 * j + 4)) s → post 1 ((nI W), (nI t), (nI rs), st, nd, np, no, nm, ask, knd, dur, pri, ovl, mis, nex, prd, sets, sta, los, msd, mnw, wai, wdu, doi, ens, his, fld')) (h0 : ∀ fld', ¬ ca_fit (sets (5 * j)) (sets (5 * j + 1)) (sets (5 * j + 2)) (sets (5 * j + 3)) (sets (5 * j + 4)) s → post 0 ((nI W), (nI t), (nI rs), st, nd, np, no, nm, ask, knd, dur, pri, ovl, mis, nex, prd, sets, sta, los, msd, mnw, wai, wdu, doi, ens, his, fld')) : wpY_isDueAt post ((nI W), (nI t), (nI rs), st, nd, np, no, nm, ask, knd, dur, pri, ovl, mis, nex, prd, sets, sta, los, msd, mnw, wai, wdu, doi, ens, his, fld) (nI j) (nI s) := by
  refine yr_read _ _ _ _ _ _ _ _ _ _ _ _ _ _ _ _ _ _ _ _ _ _ _ _ _ _ _ s hs _ (fun fld' hF => ?_)
  exact yc_fits _ _ _ _ _ _ _ _ _ _ _ _ _ _ _ _ _ _ _ _ _ _ _ _ _ _ fld' j s hj hF _ (fun y => ⟨ar_nw1, h1 fld' y⟩) (fun y => ⟨ar_nw0, h0 fld' y⟩)
theorem yc_isDue (W t rs : Nat) (st nd np no nm ask : Int32) (knd dur pri ovl mis nex prd sets sta los msd mnw wai wdu doi ens his fld : Nat → Int32) (j : Nat) (hj : j < 12) (hF : ca_F t fld) (post : Int32 → Prop) (h1 : ((knd j = 3 ∧ ca_fit (sets (5 * j)) (sets (5 * j + 1)) (sets (5 * j + 2)) (sets (5 * j + 3)) (sets (5 * j + 4)) t) ∨ (¬ knd j = 3 ∧ ¬ knd j < 0 ∧ nex j = nI t)) → post 1) (h0 : ¬ ((knd j = 3 ∧ ca_fit (sets (5 * j)) (sets (5 * j + 1)) (sets (5 * j + 2)) (sets (5 * j + 3)) (sets (5 * j + 4)) t) ∨ (¬ knd j = 3 ∧ ¬ knd j < 0 ∧ nex j = nI t)) → post 0) : wpY_isDue post ((nI W), (nI t), (nI rs), st, nd, np, no, nm, ask, knd, dur, pri, ovl, mis, nex, prd, sets, sta, los, msd, mnw, wai, wdu, doi, ens, his, fld) (nI j) := by
  have hk : (nI j).toNatClampNeg = j := ar_k
  refine And.intro ar_in (br_c (fun a => ?_) (fun a => ⟨ar_in, br_c (fun b => ?_) (fun b => ⟨ar_in, br_c (fun c => ?_) (fun c => ?_)⟩)⟩))
  · have a' := ar_o a
    exact yc_fits _ _ _ _ _ _ _ _ _ _ _ _ _ _ _ _ _ _ _ _ _ _ _ _ _ _ _ j t hj hF _ (fun y => ⟨ar_nw1, h1 (Or.inl ⟨a', y⟩)⟩) (fun y => ⟨ar_nw0, h0 (fun z => z.elim (fun x => y x.2) (fun x => x.1 a'))⟩)
  · rw [hk] at a b
    exact h0 (fun z => z.elim (fun x => a x.1) (fun x => x.2.1 b))
  · rw [hk] at a b c
    exact h1 (Or.inr ⟨a, b, c⟩)
  · rw [hk] at a b c
    exact h0 (fun z => z.elim (fun x => a x.1) (fun x => c x.2.2))
theorem yc_due63 (W t rs : Nat) (st nd np no nm ask : Int32) (knd dur pri ovl mis nex prd sets sta los msd mnw wai wdu doi ens his fld : Nat → Int32) (j s0 : Nat) (hj : j < 12) (hs0 : s0 ≤ 1000001) (post : Int32 → SY → Prop) (h1 : ∀ s fld', s0 ≤ s → s ≤ 1000000 → ca_fit (sets (5 * j)) (sets (5 * j + 1)) (sets (5 * j + 2)) (sets (5 * j + 3)) (sets (5 * j + 4)) s → (∀ s', s0 ≤ s' → s' < s → ¬ ca_fit (sets (5 * j)) (sets (5 * j + 1)) (sets (5 * j + 2)) (sets (5 * j + 3)) (sets (5 * j + 4)) s') → post (nI s) ((nI W), (nI t), (nI rs), st, nd, np, no, nm, ask, knd, dur, pri, ovl, mis, nex, prd, sets, sta, los, msd, mnw, wai, wdu, doi, ens, his, fld')) (h0 : ∀ fld', (∀ s', s0 ≤ s' → s' ≤ 1000000 → ¬ ca_fit (sets (5 * j)) (sets (5 * j + 1)) (sets (5 * j + 2)) (sets (5 * j + 3)) (sets (5 * j + 4)) s') → post (-2) ((nI W), (nI t), (nI rs), st, nd, np, no, nm, ask, knd, dur, pri, ovl, mis, nex, prd, sets, sta, los, msd, mnw, wai, wdu, doi, ens, his, fld')) : ∃ n, wY_due_63 post (nI j) n (nI s0) (nI W) (nI t) (nI rs) st nd np no nm ask knd dur pri ovl mis nex prd sets sta los msd mnw wai wdu doi ens his fld := by
  have key : ∀ d s fld, s0 ≤ s → s + d = 1000001 → (∀ s', s0 ≤ s' → s' < s → ¬ ca_fit (sets (5 * j)) (sets (5 * j + 1)) (sets (5 * j + 2)) (sets (5 * j + 3)) (sets (5 * j + 4)) s') → wY_due_63 post (nI j) (d + 1) (nI s) (nI W) (nI t) (nI rs) st nd np no nm ask knd dur pri ovl mis nex prd sets sta los msd mnw wai wdu doi ens his fld := by
    intro d
    induction d with
    | zero =>
      intro s fld hb hs hn
      exact pk_lt 1000000 s (fun h => pk_lt 1000000 s (fun _ => h0 fld (fun s' g1 g2 => hn s' g1 (by omega))) (fun h => absurd h (by omega))) (fun h => absurd h (by omega))
    | succ d ih =>
      intro s fld hb hs hn
      refine pk_lt 1000000 s (fun h => absurd h (by omega)) (fun h => ?_)
      refine yc_dueAt _ _ _ _ _ _ _ _ _ _ _ _ _ _ _ _ _ _ _ _ _ _ _ _ _ _ _ j s hj (by omega) _ (fun fld' y => br_f (by decide) (pk_lt 1000000 s (fun h => absurd h (by omega)) (fun _ => h1 s fld' hb (by omega) y hn))) (fun fld' y => br_t rfl (nm_r (nI_1 s) (ih (s + 1) fld' (by omega) (by omega) ?_)))
      intro s' g1 g2
      rcases Nat.lt_or_ge s' s with hh | hh
      · exact hn s' g1 hh
      · rw [show s' = s by omega]; exact y
  exact ⟨_, key (1000001 - s0) s0 fld (by omega) (by omega) (fun s' g1 g2 => absurd g2 (by omega))⟩
