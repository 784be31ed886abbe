theorem ar_ge0 {x : Int32} {n : Nat} (h : nI n ≤ x) (hn : n < 2147483648 := by omega) : ¬ x < 0 := fun z => nI_pos hn (Int32.lt_of_le_of_lt h z)
theorem sm_run (W t rs : Nat) (st nd np no nm ask : Int32) (made kin dur pri ovl mis per mnt hrs day mon wkd nxt sta los msd mss wai req bsy wjb wen kjb kst kdu knd nex prd sets mnw wdu doi ens his fld : Nat → Int32) (hRs : rs < 2147483648) (hH : rl_H rs kjb kst kdu his) (v1 v2 : Int32) : ∃ r, (∀ post : Int32 → Prop, post r → wpX_run post ((nI W), (nI t), st, (nI rs), nd, np, no, nm, made, kin, dur, pri, ovl, mis, per, mnt, hrs, day, mon, wkd, nxt, sta, los, msd, mss, wai, req, bsy, wjb, wen, kjb, kst, kdu) v1 v2) ∧ (∀ post : Int32 → Prop, post r → wpY_run post ((nI W), (nI t), (nI rs), st, nd, np, no, nm, ask, knd, dur, pri, ovl, mis, nex, prd, sets, sta, los, msd, mnw, wai, wdu, doi, ens, his, fld) v1 v2) := by
  rcases pk_ix v1 (n := 16) (by omega) with h | h | ⟨k, hk, rfl⟩
  · exact ⟨-1, fun post hp => br_t h hp, fun post hp => br_t h hp⟩
  · have h0 : ¬ v1 < 0 := ar_ge0 h
    have h15 : 15 < v1 := Int32.lt_of_lt_of_le (by decide) h
    exact ⟨-1, fun post hp => br_f h0 (br_t h hp), fun post hp => br_f h0 (br_t h15 hp)⟩
  · have h0 : ¬ nI k < 0 := nI_pos (by omega)
    have h16 : ¬ (16 : Int32) ≤ nI k := ar_nle (a := 16) hk
    have h15 : ¬ (15 : Int32) < nI k := ar_nlt (b := k) (a := 15) (by omega)
    by_cases hr : k < rs
    · have e : nI rs - 1 - nI k = nI (rs - 1 - k) := by
        show nI rs - nI 1 - nI k = _
        rw [pk_sub (by omega), pk_sub (by omega)]
      have e2 : (nI rs - 1 - nI k) - (nI rs - 1 - nI k) / 16 * 16 = nI ((rs - 1 - k) % 16) := by
        rw [e]; exact ar_rem (d := 16) (by omega) (by omega) (by omega)
      have hm : (rs - 1 - k) % 16 < 16 := Nat.mod_lt _ (by omega)
      obtain ⟨g0, g1, g2⟩ := hH k hk hr
      have X1 : ∀ post : Int32 → Prop, ∀ r : Int32, ((v2 < 0 → post (-1)) ∧ (¬ v2 < 0 → (((2 < v2 → post (-1)) ∧ (¬ 2 < v2 → (((v2 = 0 → (vp_in (nI ((rs - 1 - k) % 16)) 16 ∧ post (kjb (nI ((rs - 1 - k) % 16)).toNatClampNeg))) ∧ (¬ v2 = 0 → (((v2 = 1 → (vp_in (nI ((rs - 1 - k) % 16)) 16 ∧ post (kst (nI ((rs - 1 - k) % 16)).toNatClampNeg))) ∧ (¬ v2 = 1 → (((v2 = 2 → (vp_in (nI ((rs - 1 - k) % 16)) 16 ∧ post (kdu (nI ((rs - 1 - k) % 16)).toNatClampNeg))) ∧ (¬ v2 = 2 → True)))))))))))))) → wpX_run post ((nI W), (nI t), st, (nI rs), nd, np, no, nm, made, kin, dur, pri, ovl, mis, per, mnt, hrs, day, mon, wkd, nxt, sta, los, msd, mss, wai, req, bsy, wjb, wen, kjb, kst, kdu) (nI k) v2 := fun post r hh => br_f h0 (br_f h16 (pk_lt k rs (fun _ => ⟨by decide, nm_r e2 hh⟩) (fun z => absurd z (by omega))))
      have Y1 : ∀ post : Int32 → Prop, wpY_within (fun r_4 => (((r_4 = 0 → (post (-1))) ∧ (¬ r_4 = 0 → (vp_in ((3 * nI k) + v2) 48 ∧ (post (his ((3 * nI k) + v2).toNatClampNeg))))))) v2 0 2 → wpY_run post ((nI W), (nI t), (nI rs), st, nd, np, no, nm, ask, knd, dur, pri, ovl, mis, nex, prd, sets, sta, los, msd, mnw, wai, wdu, doi, ens, his, fld) (nI k) v2 := fun post hh => br_f h0 (br_f h15 (pk_le rs k (fun z => absurd z (by omega)) (fun _ => hh)))
      rcases pk_ix v2 (n := 3) (by omega) with h | h | ⟨q, hq, rfl⟩
      · exact ⟨-1, fun post hp => X1 post 0 (br_t h hp), fun post hp => Y1 post (yr_within _ _ _ _ (fun a _ => absurd h a) (fun _ => br_t rfl hp))⟩
      · have g0 : ¬ v2 < 0 := ar_ge0 h
        have g2 : 2 < v2 := Int32.lt_of_lt_of_le (by decide) h
        exact ⟨-1, fun post hp => X1 post 0 (br_f g0 (br_t g2 hp)), fun post hp => Y1 post (yr_within _ _ _ _ (fun _ a => absurd g2 a) (fun _ => br_t rfl hp))⟩
      · have es : 3 * nI k + nI q = nI (3 * k + q) := by rw [ar_3x, nI_add]
        have Y2 : ∀ post : Int32 → Prop, post (his (3 * k + q)) → wpY_run post ((nI W), (nI t), (nI rs), st, nd, np, no, nm, ask, knd, dur, pri, ovl, mis, nex, prd, sets, sta, los, msd, mnw, wai, wdu, doi, ens, his, fld) (nI k) (nI q) := fun post hh => Y1 post (yr_within _ _ _ _ (fun _ _ => br_f (by decide) (by rw [es, ar_k]; exact ⟨ar_in, hh⟩)) (fun z => z.elim (fun a => absurd a (nI_pos (by omega))) (fun a => absurd a (ar_nlt (b := q) (a := 2) (by omega)))))
        have hq3 : q = 0 ∨ q = 1 ∨ q = 2 := by omega
        rcases hq3 with rfl | rfl | rfl
        · exact ⟨his (3 * k), fun post hp => X1 post 0 (br_f (by decide) (br_f (by decide) (br_t rfl ⟨ar_in, by rw [ar_k, ← g0]; exact hp⟩))), fun post hp => Y2 post hp⟩
        · exact ⟨his (3 * k + 1), fun post hp => X1 post 0 (br_f (by decide) (br_f (by decide) (br_f (by decide) (br_t rfl ⟨ar_in, by rw [ar_k, ← g1]; exact hp⟩)))), fun post hp => Y2 post hp⟩
        · exact ⟨his (3 * k + 2), fun post hp => X1 post 0 (br_f (by decide) (br_f (by decide) (br_f (by decide) (br_f (by decide) (br_t rfl ⟨ar_in, by rw [ar_k, ← g2]; exact hp⟩))))), fun post hp => Y2 post hp⟩
    · exact ⟨-1, fun post hp => br_f h0 (br_f h16 (pk_lt k rs (fun z => absurd z hr) (fun _ => hp))), fun post hp => br_f h0 (br_f h15 (pk_le rs k (fun _ => hp) (fun z => absurd z (by omega))))⟩
theorem sm_free (W t rs : Nat) (st nd np no nm ask : Int32) (made kin dur pri ovl mis per mnt hrs day mon wkd nxt sta los msd mss wai req bsy wjb wen kjb kst kdu knd nex prd sets mnw wdu doi ens his fld : Nat → Int32) (hW : W ≤ 3) (hK : rl_W 3 t W bsy wjb wen doi ens) : ∃ r, (∀ post : Int32 → Prop, post r → wpX_countFreeWorkers post ((nI W), (nI t), st, (nI rs), nd, np, no, nm, made, kin, dur, pri, ovl, mis, per, mnt, hrs, day, mon, wkd, nxt, sta, los, msd, mss, wai, req, bsy, wjb, wen, kjb, kst, kdu)) ∧ (∀ post : Int32 → Prop, post r → ∃ n, wY_state_63 post (nI W) (nI t) (nI rs) st nd np no nm ask knd dur pri ovl mis nex prd sets sta los msd mnw wai wdu doi ens his fld n 0 0) := by
  have key : ∀ d i x, i + d = W → ∃ r, (∀ post : Int32 → Prop, post r → wX_countFreeWorkers_4 post (nI W) (nI t) st (nI rs) nd np no nm made kin dur pri ovl mis per mnt hrs day mon wkd nxt sta los msd mss wai req bsy wjb wen kjb kst kdu (d + 1) x (nI i)) ∧ (∀ post : Int32 → Prop, post r → wY_state_63 post (nI W) (nI t) (nI rs) st nd np no nm ask knd dur pri ovl mis nex prd sets sta los msd mnw wai wdu doi ens his fld (d + 1) x (nI i)) := by
    intro d
    induction d with
    | zero =>
      intro i x hi
      exact ⟨x, fun post hp => pk_le W i (fun _ => hp) (fun z => absurd z (by omega)), fun post hp => pk_le W i (fun _ => hp) (fun z => absurd z (by omega))⟩
    | succ d ih =>
      intro i x hi
      rcases hK i (by omega) with ⟨b0, e0⟩ | ⟨b1, _, ⟨e, e1, _, _, _, e5, e6⟩, _⟩
      · obtain ⟨r, hx, hy⟩ := ih (i + 1) (x + 1) (by omega)
        exact ⟨r, fun post hp => pk_le W i (fun z => absurd z (by omega)) (fun _ => ⟨ar_in, br_t (ar_c b0) (nm_e (nm_r (nI_1 i) (hx post hp)))⟩), fun post hp => pk_le W i (fun z => absurd z (by omega)) (fun _ => ⟨ar_in, br_t (ar_c e0) (nm_e (nm_r (nI_1 i) (hy post hp)))⟩)⟩
      · obtain ⟨r, hx, hy⟩ := ih (i + 1) x (by omega)
        refine ⟨r, fun post hp => pk_le W i (fun z => absurd z (by omega)) (fun _ => ⟨ar_in, br_f (ar_n (by rw [b1]; decide)) (nm_r (Int32.add_zero x) (nm_r (nI_1 i) (hx post hp)))⟩), fun post hp => pk_le W i (fun z => absurd z (by omega)) (fun _ => ⟨ar_in, br_f (ar_n (by rw [e1]; exact nI_ne0 (by omega) (by omega))) (nm_r (nI_1 i) (hy post hp))⟩)⟩
  obtain ⟨r, hx, hy⟩ := key W 0 0 (by omega)
  exact ⟨r, fun post hp => ⟨_, hx post hp⟩, fun post hp => ⟨_, hy post hp⟩⟩
theorem sm_wait (W t rs : Nat) (st nd np no nm ask : Int32) (made kin dur pri ovl mis per mnt hrs day mon wkd nxt sta los msd mss wai req bsy wjb wen kjb kst kdu knd nex prd sets mnw wdu doi ens his fld : Nat → Int32) : ∃ r, (∀ post : Int32 → Prop, post r → wpX_countWaiting post ((nI W), (nI t), st, (nI rs), nd, np, no, nm, made, kin, dur, pri, ovl, mis, per, mnt, hrs, day, mon, wkd, nxt, sta, los, msd, mss, wai, req, bsy, wjb, wen, kjb, kst, kdu)) ∧ (∀ post : Int32 → Prop, post r → ∃ n, wY_state_93 post (nI W) (nI t) (nI rs) st nd np no nm ask knd dur pri ovl mis nex prd sets sta los msd mnw wai wdu doi ens his fld n 0 0) := by
  have key : ∀ d i x, i + d = 12 → ∃ r, (∀ post : Int32 → Prop, post r → wX_countWaiting_4 post (nI W) (nI t) st (nI rs) nd np no nm made kin dur pri ovl mis per mnt hrs day mon wkd nxt sta los msd mss wai req bsy wjb wen kjb kst kdu (d + 1) x (nI i)) ∧ (∀ post : Int32 → Prop, post r → wY_state_93 post (nI W) (nI t) (nI rs) st nd np no nm ask knd dur pri ovl mis nex prd sets sta los msd mnw wai wdu doi ens his fld (d + 1) x (nI i)) := by
    intro d
    induction d with
    | zero =>
      intro i x hi
      exact ⟨x, fun post hp => pk_le 12 i (fun _ => hp) (fun z => absurd z (by omega)), fun post hp => pk_le 12 i (fun _ => hp) (fun z => absurd z (by omega))⟩
    | succ d ih =>
      intro i x hi
      obtain ⟨r, hx, hy⟩ := ih (i + 1) (x + wai i) (by omega)
      have e : x + wai (nI i).toNatClampNeg = x + wai i := by rw [ar_k]
      exact ⟨r, fun post hp => pk_le 12 i (fun z => absurd z (by omega)) (fun _ => ⟨ar_in, nm_r e (nm_r (nI_1 i) (hx post hp))⟩), fun post hp => pk_le 12 i (fun z => absurd z (by omega)) (fun _ => ⟨ar_in, nm_r e (nm_r (nI_1 i) (hy post hp))⟩)⟩
  obtain ⟨r, hx, hy⟩ := key 12 0 0 (by omega)
  exact ⟨r, fun post hp => ⟨_, hx post hp⟩, fun post hp => ⟨_, hy post hp⟩⟩
theorem sm_nextEnd (W t rs : Nat) (st nd np no nm ask : Int32) (made kin dur pri ovl mis per mnt hrs day mon wkd nxt sta los msd mss wai req bsy wjb wen kjb kst kdu knd nex prd sets mnw wdu doi ens his fld : Nat → Int32) (hW : W ≤ 3) (hK : rl_W 3 t W bsy wjb wen doi ens) : ∃ r, (∀ post : Int32 → Prop, post r → wpX_nextEnd post ((nI W), (nI t), st, (nI rs), nd, np, no, nm, made, kin, dur, pri, ovl, mis, per, mnt, hrs, day, mon, wkd, nxt, sta, los, msd, mss, wai, req, bsy, wjb, wen, kjb, kst, kdu)) ∧ (∀ post : Int32 → Prop, post r → wpY_nextEnd post ((nI W), (nI t), (nI rs), st, nd, np, no, nm, ask, knd, dur, pri, ovl, mis, nex, prd, sets, sta, los, msd, mnw, wai, wdu, doi, ens, his, fld)) := by
  have tail : ∀ d i x, i + d = 3 → W ≤ i → (∀ post : Int32 → Prop, post x → wX_nextEnd_5 post (nI W) (nI t) st (nI rs) nd np no nm made kin dur pri ovl mis per mnt hrs day mon wkd nxt sta los msd mss wai req bsy wjb wen kjb kst kdu (d + 1) x (nI i)) := by
    intro d
    induction d with
    | zero =>
      intro i x hi hw post hp
      exact pk_le 3 i (fun _ => hp) (fun z => absurd z (by omega))
    | succ d ih =>
      intro i x hi hw post hp
      rcases hK i (by omega) with ⟨b0, e0⟩ | ⟨b1, g, _⟩
      · exact pk_le 3 i (fun z => absurd z (by omega)) (fun _ => ⟨ar_in, br_t (ar_c b0) (nm_r (nI_1 i) (ih (i + 1) x (by omega) (by omega) post hp))⟩)
      · exact absurd g (by omega)
  have key : ∀ d i x, i + d = W → (x = -2 ∨ ∃ e, x = nI e ∧ e < 2147483648) → ∃ r, (∀ post : Int32 → Prop, post r → wX_nextEnd_5 post (nI W) (nI t) st (nI rs) nd np no nm made kin dur pri ovl mis per mnt hrs day mon wkd nxt sta los msd mss wai req bsy wjb wen kjb kst kdu (3 - i + 1) x (nI i)) ∧ (∀ post : Int32 → Prop, post r → wY_nextEnd_5 post (nI W) (nI t) (nI rs) st nd np no nm ask knd dur pri ovl mis nex prd sets sta los msd mnw wai wdu doi ens his fld (d + 1) x (nI i)) := by
    intro d
    induction d with
    | zero =>
      intro i x hi hx
      exact ⟨x, tail (3 - i) i x (by omega) (by omega), fun post hp => pk_le W i (fun _ => hp) (fun z => absurd z (by omega))⟩
    | succ d ih =>
      intro i x hi hx
      have e3 : 3 - i + 1 = (3 - (i + 1) + 1) + 1 := by omega
      rw [e3]
      have hk : (nI i).toNatClampNeg = i := ar_k
      rcases hK i (by omega) with ⟨b0, e0⟩ | ⟨b1, _, ⟨e, e1, e2, _, _, e5, e6⟩, _⟩
      · obtain ⟨r, hx, hy⟩ := ih (i + 1) x (by omega) hx
        exact ⟨r, fun post hp => pk_le 3 i (fun z => absurd z (by omega)) (fun _ => ⟨ar_in, br_t (ar_c b0) (nm_r (nI_1 i) (hx post hp))⟩), fun post hp => pk_le W i (fun z => absurd z (by omega)) (fun _ => ⟨ar_in, br_t (by rw [hk, e0]; decide) (nm_r (nI_1 i) (hy post hp))⟩)⟩
      · have nb : ¬ bsy (nI i).toNatClampNeg = 0 := ar_n (by rw [b1]; decide)
        have ne : ¬ ens (nI i).toNatClampNeg ≤ 0 := by rw [hk, e1]; exact nI_nle (by omega) (by omega)
        have w1 : wen (nI i).toNatClampNeg = nI e := ar_c e2
        have w2 : ens (nI i).toNatClampNeg = nI e := ar_c e1
        rcases hx with rfl | ⟨f, rfl, hf⟩
        · obtain ⟨r, hx, hy⟩ := ih (i + 1) (nI e) (by omega) (Or.inr ⟨e, rfl, by omega⟩)
          exact ⟨r, fun post hp => pk_le 3 i (fun z => absurd z (by omega)) (fun _ => ⟨ar_in, br_f nb (br_t rfl ⟨ar_in, nm_r w1 (nm_r (nI_1 i) (hx post hp))⟩)⟩), fun post hp => pk_le W i (fun z => absurd z (by omega)) (fun _ => ⟨ar_in, br_f ne (br_t (by decide) ⟨ar_in, nm_r w2 (nm_r (nI_1 i) (hy post hp))⟩)⟩)⟩
        · by_cases hfe : f ≤ e
          · obtain ⟨r, hx, hy⟩ := ih (i + 1) (nI f) (by omega) (Or.inr ⟨f, rfl, hf⟩)
            exact ⟨r, fun post hp => pk_le 3 i (fun z => absurd z (by omega)) (fun _ => ⟨ar_in, br_f nb (br_f (ar_ne2 hf) ⟨ar_in, br_t (by rw [w1]; exact ar_le hfe) (nm_r (nI_1 i) (hx post hp))⟩)⟩), fun post hp => pk_le W i (fun z => absurd z (by omega)) (fun _ => ⟨ar_in, br_f ne (br_f (nI_pos hf) ⟨ar_in, br_t (by rw [w2]; exact ar_le hfe) (nm_r (nI_1 i) (hy post hp))⟩)⟩)⟩
          · obtain ⟨r, hx, hy⟩ := ih (i + 1) (nI e) (by omega) (Or.inr ⟨e, rfl, by omega⟩)
            exact ⟨r, fun post hp => pk_le 3 i (fun z => absurd z (by omega)) (fun _ => ⟨ar_in, br_f nb (br_f (ar_ne2 hf) ⟨ar_in, br_f (by rw [w1]; exact ar_nle (by omega) hf) ⟨ar_in, nm_r w1 (nm_r (nI_1 i) (hx post hp))⟩⟩)⟩), fun post hp => pk_le W i (fun z => absurd z (by omega)) (fun _ => ⟨ar_in, br_f ne (br_f (nI_pos hf) ⟨ar_in, br_f (by rw [w2]; exact ar_nle (by omega) hf) ⟨ar_in, nm_r w2 (nm_r (nI_1 i) (hy post hp))⟩⟩)⟩)⟩
  obtain ⟨r, hx, hy⟩ := key W 0 (-2) (by omega) (Or.inl rfl)
  exact ⟨r, fun post hp => ⟨_, hx post hp⟩, fun post hp => ⟨_, hy post hp⟩⟩
theorem sm_state (W t rs : Nat) (st nd np no nm ask : Int32) (made kin dur pri ovl mis per mnt hrs day mon wkd nxt sta los msd mss wai req bsy wjb wen kjb kst kdu knd nex prd sets mnw wdu doi ens his fld : Nat → Int32) (ht : t ≤ 1000000) (hW : W ≤ 3) (hst : st = 0 ∨ st = 1) (hK : rl_W 3 t W bsy wjb wen doi ens) (v1 : Int32) : ∃ r, (∀ post : Int32 → Prop, post r → wpX_state post ((nI W), (nI t), st, (nI rs), nd, np, no, nm, made, kin, dur, pri, ovl, mis, per, mnt, hrs, day, mon, wkd, nxt, sta, los, msd, mss, wai, req, bsy, wjb, wen, kjb, kst, kdu) v1) ∧ (∀ post : Int32 → Prop, post r → wpY_state post ((nI W), (nI t), (nI rs), st, nd, np, no, nm, ask, knd, dur, pri, ovl, mis, nex, prd, sets, sta, los, msd, mnw, wai, wdu, doi, ens, his, fld) v1) := by
  rcases pk_ix v1 (n := 10) (by omega) with h | h | ⟨k, hk, rfl⟩
  · exact ⟨-1, fun post hp => br_t h hp, fun post hp => br_t h hp⟩
  · have h0 : ¬ v1 < 0 := ar_ge0 h
    have h9 : 9 < v1 := Int32.lt_of_lt_of_le (by decide) h
    exact ⟨-1, fun post hp => br_f h0 (br_t h9 hp), fun post hp => br_f h0 (br_t h9 hp)⟩
  · have hk10 : k = 0 ∨ k = 1 ∨ k = 2 ∨ k = 3 ∨ k = 4 ∨ k = 5 ∨ k = 6 ∨ k = 7 ∨ k = 8 ∨ k = 9 := by omega
    rcases hk10 with rfl | rfl | rfl | rfl | rfl | rfl | rfl | rfl | rfl | rfl
    · exact ⟨nI t, fun post hp => (br_f (by decide) (br_f (by decide) (br_t rfl hp))), fun post hp => (br_f (by decide) (br_f (by decide) (br_t rfl hp)))⟩
    · obtain ⟨r, hx, hy⟩ := sm_free W t rs st nd np no nm ask made kin dur pri ovl mis per mnt hrs day mon wkd nxt sta los msd mss wai req bsy wjb wen kjb kst kdu knd nex prd sets mnw wdu doi ens his fld hW hK
      exact ⟨r, fun post hp => (br_f (by decide) (br_f (by decide) (br_f (by decide) (br_t rfl (hx _ hp))))), fun post hp => (br_f (by decide) (br_f (by decide) (br_f (by decide) (br_t rfl (hy _ hp)))))⟩
    · obtain ⟨r, hx, hy⟩ := sm_wait W t rs st nd np no nm ask made kin dur pri ovl mis per mnt hrs day mon wkd nxt sta los msd mss wai req bsy wjb wen kjb kst kdu knd nex prd sets mnw wdu doi ens his fld
      exact ⟨r, fun post hp => (br_f (by decide) (br_f (by decide) (br_f (by decide) (br_f (by decide) (br_t rfl (hx _ hp)))))), fun post hp => (br_f (by decide) (br_f (by decide) (br_f (by decide) (br_f (by decide) (br_t rfl (hy _ hp))))))⟩
    · exact ⟨nI rs, fun post hp => (br_f (by decide) (br_f (by decide) (br_f (by decide) (br_f (by decide) (br_f (by decide) (br_t rfl hp)))))), fun post hp => (br_f (by decide) (br_f (by decide) (br_f (by decide) (br_f (by decide) (br_f (by decide) (br_t rfl hp))))))⟩
    · rcases hst with rfl | rfl
      · exact ⟨0, fun post hp => (br_f (by decide) (br_f (by decide) (br_f (by decide) (br_f (by decide) (br_f (by decide) (br_f (by decide) (br_t rfl (br_t rfl hp)))))))), fun post hp => (br_f (by decide) (br_f (by decide) (br_f (by decide) (br_f (by decide) (br_f (by decide) (br_f (by decide) (br_t rfl (br_t rfl hp))))))))⟩
      · exact ⟨1, fun post hp => (br_f (by decide) (br_f (by decide) (br_f (by decide) (br_f (by decide) (br_f (by decide) (br_f (by decide) (br_t rfl (br_f (by decide) hp)))))))), fun post hp => (br_f (by decide) (br_f (by decide) (br_f (by decide) (br_f (by decide) (br_f (by decide) (br_f (by decide) (br_t rfl (br_f (by decide) hp))))))))⟩
    · exact ⟨ca_f t 0, fun post hp => (br_f (by decide) (br_f (by decide) (br_f (by decide) (br_f (by decide) (br_f (by decide) (br_f (by decide) (br_f (by decide) (br_t rfl (xr_minute _ _ _ _ _ _ _ _ _ _ _ _ _ _ _ _ _ _ _ _ _ _ _ _ _ _ _ _ _ _ _ _ _ t (by omega) _ hp))))))))), fun post hp => (br_f (by decide) (br_f (by decide) (br_f (by decide) (br_f (by decide) (br_f (by decide) (br_f (by decide) (br_f (by decide) (br_t rfl (yr_field t 0 (by omega) (by omega) _ hp)))))))))⟩
    · exact ⟨ca_f t 1, fun post hp => (br_f (by decide) (br_f (by decide) (br_f (by decide) (br_f (by decide) (br_f (by decide) (br_f (by decide) (br_f (by decide) (br_f (by decide) (br_t rfl (xr_hour _ _ _ _ _ _ _ _ _ _ _ _ _ _ _ _ _ _ _ _ _ _ _ _ _ _ _ _ _ _ _ _ _ t (by omega) _ hp)))))))))), fun post hp => (br_f (by decide) (br_f (by decide) (br_f (by decide) (br_f (by decide) (br_f (by decide) (br_f (by decide) (br_f (by decide) (br_f (by decide) (br_t rfl (yr_field t 1 (by omega) (by omega) _ hp))))))))))⟩
    · exact ⟨ca_f t 2 + 1, fun post hp => (br_f (by decide) (br_f (by decide) (br_f (by decide) (br_f (by decide) (br_f (by decide) (br_f (by decide) (br_f (by decide) (br_f (by decide) (br_f (by decide) (br_t rfl (xr_day _ _ _ _ _ _ _ _ _ _ _ _ _ _ _ _ _ _ _ _ _ _ _ _ _ _ _ _ _ _ _ _ _ t (by omega) _ hp))))))))))), fun post hp => (br_f (by decide) (br_f (by decide) (br_f (by decide) (br_f (by decide) (br_f (by decide) (br_f (by decide) (br_f (by decide) (br_f (by decide) (br_f (by decide) (br_t rfl (yr_field t 2 (by omega) (by omega) _ hp)))))))))))⟩
    · exact ⟨ca_f t 3 + 1, fun post hp => (br_f (by decide) (br_f (by decide) (br_f (by decide) (br_f (by decide) (br_f (by decide) (br_f (by decide) (br_f (by decide) (br_f (by decide) (br_f (by decide) (br_f (by decide) (br_t rfl (xr_month _ _ _ _ _ _ _ _ _ _ _ _ _ _ _ _ _ _ _ _ _ _ _ _ _ _ _ _ _ _ _ _ _ t (by omega) _ hp)))))))))))), fun post hp => (br_f (by decide) (br_f (by decide) (br_f (by decide) (br_f (by decide) (br_f (by decide) (br_f (by decide) (br_f (by decide) (br_f (by decide) (br_f (by decide) (br_f (by decide) (br_t rfl (yr_field t 3 (by omega) (by omega) _ hp))))))))))))⟩
    · exact ⟨ca_f t 4, fun post hp => (br_f (by decide) (br_f (by decide) (br_f (by decide) (br_f (by decide) (br_f (by decide) (br_f (by decide) (br_f (by decide) (br_f (by decide) (br_f (by decide) (br_f (by decide) (br_f (by decide) (br_t rfl (xr_week _ _ _ _ _ _ _ _ _ _ _ _ _ _ _ _ _ _ _ _ _ _ _ _ _ _ _ _ _ _ _ _ _ t (by omega) _ hp))))))))))))), fun post hp => (br_f (by decide) (br_f (by decide) (br_f (by decide) (br_f (by decide) (br_f (by decide) (br_f (by decide) (br_f (by decide) (br_f (by decide) (br_f (by decide) (br_f (by decide) (br_f (by decide) (br_t rfl (yr_field t 4 (by omega) (by omega) _ hp)))))))))))))⟩
theorem i_vc_run {k : Nat} {u : SX} {v : SY} (I : i_Rel k u v) (hk : k + 6 ≤ 3073) (v1 : Int32) (v2 : Int32) : wpX_run (fun r => wpY_run (fun r' => r' = r ∧ i_Rel (k + 6) u v) v v1 v2) u v1 v2 := by
  obtain ⟨W, t, rs, st, nd, np, no, nm, ask, made, kin, dur, pri, ovl, mis, per, mnt, hrs, day, mon, wkd, nxt, sta, los, msd, mss, wai, req, bsy, wjb, wen, kjb, kst, kdu, knd, nex, prd, sets, mnw, wdu, doi, ens, his, fld, rfl, rfl, h⟩ := I
  have h' := rl_mk W t rs st nd np no nm ask made kin dur pri ovl mis per mnt hrs day mon wkd nxt sta los msd mss wai req bsy wjb wen kjb kst kdu knd nex prd sets mnw wdu doi ens his fld _ (rl_up W t rs st nd np no nm ask made kin dur pri ovl mis per mnt hrs day mon wkd nxt sta los msd mss wai req bsy wjb wen kjb kst kdu knd nex prd sets mnw wdu doi ens his fld (m := k + 6) (by omega) h)
  obtain ⟨hW1, hW3, ht, hRs, hst, hnd, hnm, hJ, hK, hQ, hA, hH, hT⟩ := h
  obtain ⟨r, hx, hy⟩ := sm_run W t rs st nd np no nm ask made kin dur pri ovl mis per mnt hrs day mon wkd nxt sta los msd mss wai req bsy wjb wen kjb kst kdu knd nex prd sets mnw wdu doi ens his fld (by omega) hH v1 v2
  exact hx _ (hy _ ⟨rfl, h'⟩)
theorem i_vc_state {k : Nat} {u : SX} {v : SY} (I : i_Rel k u v) (hk : k + 6 ≤ 3073) (v1 : Int32) : wpX_state (fun r => wpY_state (fun r' => r' = r ∧ i_Rel (k + 6) u v) v v1) u v1 := by
  obtain ⟨W, t, rs, st, nd, np, no, nm, ask, made, kin, dur, pri, ovl, mis, per, mnt, hrs, day, mon, wkd, nxt, sta, los, msd, mss, wai, req, bsy, wjb, wen, kjb, kst, kdu, knd, nex, prd, sets, mnw, wdu, doi, ens, his, fld, rfl, rfl, h⟩ := I
  have h' := rl_mk W t rs st nd np no nm ask made kin dur pri ovl mis per mnt hrs day mon wkd nxt sta los msd mss wai req bsy wjb wen kjb kst kdu knd nex prd sets mnw wdu doi ens his fld _ (rl_up W t rs st nd np no nm ask made kin dur pri ovl mis per mnt hrs day mon wkd nxt sta los msd mss wai req bsy wjb wen kjb kst kdu knd nex prd sets mnw wdu doi ens his fld (m := k + 6) (by omega) h)
  obtain ⟨hW1, hW3, ht, hRs, hst, hnd, hnm, hJ, hK, hQ, hA, hH, hT⟩ := h
  obtain ⟨r, hx, hy⟩ := sm_state W t rs st nd np no nm ask made kin dur pri ovl mis per mnt hrs day mon wkd nxt sta los msd mss wai req bsy wjb wen kjb kst kdu knd nex prd sets mnw wdu doi ens his fld ht hW3 hst hK v1
  exact hx _ (hy _ ⟨rfl, h'⟩)
theorem i_vc_nextEnd {k : Nat} {u : SX} {v : SY} (I : i_Rel k u v) (hk : k + 6 ≤ 3073) : wpX_nextEnd (fun r => wpY_nextEnd (fun r' => r' = r ∧ i_Rel (k + 6) u v) v) u := by
  obtain ⟨W, t, rs, st, nd, np, no, nm, ask, made, kin, dur, pri, ovl, mis, per, mnt, hrs, day, mon, wkd, nxt, sta, los, msd, mss, wai, req, bsy, wjb, wen, kjb, kst, kdu, knd, nex, prd, sets, mnw, wdu, doi, ens, his, fld, rfl, rfl, h⟩ := I
  have h' := rl_mk W t rs st nd np no nm ask made kin dur pri ovl mis per mnt hrs day mon wkd nxt sta los msd mss wai req bsy wjb wen kjb kst kdu knd nex prd sets mnw wdu doi ens his fld _ (rl_up W t rs st nd np no nm ask made kin dur pri ovl mis per mnt hrs day mon wkd nxt sta los msd mss wai req bsy wjb wen kjb kst kdu knd nex prd sets mnw wdu doi ens his fld (m := k + 6) (by omega) h)
  obtain ⟨hW1, hW3, ht, hRs, hst, hnd, hnm, hJ, hK, hQ, hA, hH, hT⟩ := h
  obtain ⟨r, hx, hy⟩ := sm_nextEnd W t rs st nd np no nm ask made kin dur pri ovl mis per mnt hrs day mon wkd nxt sta los msd mss wai req bsy wjb wen kjb kst kdu knd nex prd sets mnw wdu doi ens his fld hW3 hK
  exact hx _ (hy _ ⟨rfl, h'⟩)
