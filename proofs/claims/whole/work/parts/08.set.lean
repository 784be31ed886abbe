theorem yi_stop (W t rs : Nat) (st nd np no nm ask : Int32) (knd dur pri ovl mis nex prd sets sta los msd mnw wai wdu doi ens his fld : Nat → Int32) (post : Int32 → SY → Prop) (h : ∀ mnw', (∀ j, j < 12 → mnw' j = 0) → post 1 ((nI W), (nI t), (nI rs), st, nd, np, no, nm, ask, knd, dur, pri, ovl, mis, nex, prd, sets, sta, los, msd, mnw', wai, wdu, doi, ens, his, fld)) : ∃ n, wY_stop_16 post (nI W) (nI t) (nI rs) st nd np no nm ask n 0 knd dur pri ovl mis nex prd sets sta los msd mnw wai wdu doi ens his fld := by
  have key : ∀ d i mnw, i + d = 12 → (∀ j, j < i → mnw j = 0) → wY_stop_16 post (nI W) (nI t) (nI rs) st nd np no nm ask (d + 1) (nI i) knd dur pri ovl mis nex prd sets sta los msd mnw wai wdu doi ens his fld := by
    intro d
    induction d with
    | zero => intro i mnw hi hn; exact pk_le 12 i (fun _ => h mnw (fun j hj => hn j (by omega))) (fun z => absurd z (by omega))
    | succ d ih =>
      intro i mnw hi hn
      refine pk_le 12 i (fun z => absurd z (by omega)) (fun _ => ⟨ar_in, nm_r ar_u (nm_r (nI_1 i) (ih (i + 1) _ (by omega) ?_))⟩)
      refine lt_s (fun j hj => ?_) pk_us
      rw [pk_un (by omega)]
      exact hn j hj
  exact ⟨_, key 12 0 mnw (by omega) lt_0⟩
theorem yi_init (W t rs : Nat) (st nd np no nm ask : Int32) (knd dur pri ovl mis nex prd sets sta los msd mnw wai wdu doi ens his fld : Nat → Int32) (post : SY → Prop) (h : ∀ knd', (∀ j, j < 12 → knd' j = -1) → post ((nI W), (nI t), (nI rs), st, nd, np, no, nm, ask, knd', dur, pri, ovl, mis, nex, prd, sets, sta, los, msd, mnw, wai, wdu, doi, ens, his, fld)) : ∃ n, wY_init_175 post (nI W) (nI t) (nI rs) st nd np no nm ask n 0 knd dur pri ovl mis nex prd sets sta los msd mnw wai wdu doi ens his fld := by
  have key : ∀ d i knd, i + d = 12 → (∀ j, j < i → knd j = -1) → wY_init_175 post (nI W) (nI t) (nI rs) st nd np no nm ask (d + 1) (nI i) knd dur pri ovl mis nex prd sets sta los msd mnw wai wdu doi ens his fld := by
    intro d
    induction d with
    | zero => intro i knd hi hn; exact pk_le 12 i (fun _ => h knd (fun j hj => hn j (by omega))) (fun z => absurd z (by omega))
    | succ d ih =>
      intro i knd hi hn
      refine pk_le 12 i (fun z => absurd z (by omega)) (fun _ => ⟨ar_in, nm_r ar_u (nm_r (nI_1 i) (ih (i + 1) _ (by omega) ?_))⟩)
      refine lt_s (fun j hj => ?_) pk_us
      rw [pk_un (by omega)]
      exact hn j hj
  exact ⟨_, key 12 0 knd (by omega) lt_0⟩
theorem i_vc_stop {k : Nat} {u : SX} {v : SY} (I : i_Rel k u v) (hk : k + 6 ≤ 3073) : wpX_stop (fun r u' => wpY_stop (fun r' v' => r' = r ∧ i_Rel (k + 6) u' v') v) u := by
  obtain ⟨W, t, rs, st, nd, np, no, nm, ask, made, kin, dur, pri, ovl, mis, per, mnt, hrs, day, mon, wkd, nxt, sta, los, msd, mss, wai, req, bsy, wjb, wen, kjb, kst, kdu, knd, nex, prd, sets, mnw, wdu, doi, ens, his, fld, rfl, rfl, h⟩ := I
  have h0 := rl_up W t rs st nd np no nm ask made kin dur pri ovl mis per mnt hrs day mon wkd nxt sta los msd mss wai req bsy wjb wen kjb kst kdu knd nex prd sets mnw wdu doi ens his fld (m := k + 6) (by omega) h
  have h' := rl_mk W t rs st nd np no nm ask made kin dur pri ovl mis per mnt hrs day mon wkd nxt sta los msd mss wai req bsy wjb wen kjb kst kdu knd nex prd sets mnw wdu doi ens his fld _ h0
  obtain ⟨hW1, hW3, ht, hRs, hst, hnd, hnm, hJ, hK, hQ, hA, hH, hT⟩ := h0
  rcases hst with rfl | rfl
  · refine br_t rfl (br_t rfl (yi_stop W t rs 1 nd np no nm ask knd dur pri ovl mis nex prd sets sta los msd mnw wai wdu doi ens his fld _ (fun mnw' hm => ⟨rfl, ?_⟩)))
    refine rl_mk W t rs 1 nd np no nm ask made kin dur pri ovl mis per mnt hrs day mon wkd nxt sta los msd mss wai req bsy wjb wen kjb kst kdu knd nex prd sets mnw' wdu doi ens his fld _ ?_
    refine ⟨hW1, hW3, ht, hRs, Or.inr rfl, hnd, hnm, ?_, hK, hQ, hA, hH, hT⟩
    intro j hj
    rcases hJ j hj with g | ⟨g1, g2, g3, g4, g5, g6, g7, g8⟩
    · exact Or.inl g
    · exact Or.inr ⟨g1, g2, by rw [g3, hm j hj]; exact g5 rfl, ⟨0, hm j hj, by omega⟩, fun z => hm j hj, g6, g7, g8⟩
  · exact br_f (by decide) (br_f (by decide) ⟨rfl, h'⟩)
theorem i_vc0 (k0 : Int32) : wpX_init (fun u => wpY_init (fun v => i_Rel 1 u v) k0) k0 := by
  have key : ∀ w, 1 ≤ w → w ≤ 3 → ∀ knd' : Nat → Int32, (∀ j, j < 12 → knd' j = -1) → i_Rel 1 (nI w, 0, 0, 0, 1, 0, 0, 0, (fun _ => 0), (fun _ => 0), (fun _ => 0), (fun _ => 0), (fun _ => 0), (fun _ => 0), (fun _ => 0), (fun _ => 0), (fun _ => 0), (fun _ => 0), (fun _ => 0), (fun _ => 0), (fun _ => 0), (fun _ => 0), (fun _ => 0), (fun _ => 0), (fun _ => 0), (fun _ => 0), (fun _ => 0), (fun _ => 0), (fun _ => 0), (fun _ => 0), (fun _ => 0), (fun _ => 0), (fun _ => 0)) (nI w, 0, 0, 0, 1, 0, 0, 0, 0, knd', (fun _ => 0), (fun _ => 0), (fun _ => 0), (fun _ => 0), (fun _ => 0), (fun _ => 0), (fun _ => 0), (fun _ => 0), (fun _ => 0), (fun _ => 0), (fun _ => 0), (fun _ => 0), (fun _ => 0), (fun _ => 0), (fun _ => 0), (fun _ => 0), (fun _ => 0)) := by
    intro w h1 h3 knd' hk
    refine rl_mk w 0 0 0 1 0 0 0 0 (fun _ => 0) (fun _ => 0) (fun _ => 0) (fun _ => 0) (fun _ => 0) (fun _ => 0) (fun _ => 0) (fun _ => 0) (fun _ => 0) (fun _ => 0) (fun _ => 0) (fun _ => 0) (fun _ => 0) (fun _ => 0) (fun _ => 0) (fun _ => 0) (fun _ => 0) (fun _ => 0) (fun _ => 0) (fun _ => 0) (fun _ => 0) (fun _ => 0) (fun _ => 0) (fun _ => 0) (fun _ => 0) knd' (fun _ => 0) (fun _ => 0) (fun _ => 0) (fun _ => 0) (fun _ => 0) (fun _ => 0) (fun _ => 0) (fun _ => 0) (fun _ => 0) 1 ?_
    refine ⟨h1, h3, by omega, by omega, Or.inl rfl, ⟨1, rfl, by omega, by omega⟩, Or.inl rfl, ?_, ?_, ?_, ?_, ?_, ?_⟩
    · intro j hj
      exact Or.inl ⟨rfl, hk j hj, rfl⟩
    · intro j hj
      exact Or.inl ⟨rfl, rfl⟩
    · intro j hj
      exact ⟨0, rfl, by omega, fun i hi => absurd hi (by omega)⟩
    · decide
    · intro j hj hj2
      exact absurd hj2 (by omega)
    · intro j hj
      exact ⟨0, rfl, by omega⟩
  have fin : ∀ w, 1 ≤ w → w ≤ 3 → ∃ n, wY_init_175 (fun v => i_Rel 1 (nI w, 0, 0, 0, 1, 0, 0, 0, (fun _ => 0), (fun _ => 0), (fun _ => 0), (fun _ => 0), (fun _ => 0), (fun _ => 0), (fun _ => 0), (fun _ => 0), (fun _ => 0), (fun _ => 0), (fun _ => 0), (fun _ => 0), (fun _ => 0), (fun _ => 0), (fun _ => 0), (fun _ => 0), (fun _ => 0), (fun _ => 0), (fun _ => 0), (fun _ => 0), (fun _ => 0), (fun _ => 0), (fun _ => 0), (fun _ => 0), (fun _ => 0)) v) (nI w) 0 0 0 1 0 0 0 0 n 0 (fun _ => 0) (fun _ => 0) (fun _ => 0) (fun _ => 0) (fun _ => 0) (fun _ => 0) (fun _ => 0) (fun _ => 0) (fun _ => 0) (fun _ => 0) (fun _ => 0) (fun _ => 0) (fun _ => 0) (fun _ => 0) (fun _ => 0) (fun _ => 0) (fun _ => 0) (fun _ => 0) := by
    intro w h1 h3
    exact yi_init w 0 0 0 1 0 0 0 0 (fun _ => 0) (fun _ => 0) (fun _ => 0) (fun _ => 0) (fun _ => 0) (fun _ => 0) (fun _ => 0) (fun _ => 0) (fun _ => 0) (fun _ => 0) (fun _ => 0) (fun _ => 0) (fun _ => 0) (fun _ => 0) (fun _ => 0) (fun _ => 0) (fun _ => 0) (fun _ => 0) _ (fun knd' hk => key w h1 h3 knd' hk)
  by_cases h1 : (1 : Int32) ≤ k0
  · by_cases h3 : k0 ≤ 3
    · obtain ⟨w, hw, rfl⟩ := nI_of2 (x := k0) (M := 3) (n := 3) (by decide) (fun z => absurd (Int32.lt_of_le_of_lt h1 z) (by decide)) h3
      have hw1 : 1 ≤ w := (nI_leI (a := 1) (by omega) (by omega)).mp h1
      exact br_t h1 (br_t h3 (br_t h1 (br_t h3 (fin w hw1 hw))))
    · exact br_t h1 (br_f h3 (br_t h1 (br_f h3 (fin 3 (by omega) (by omega)))))
  · exact br_f h1 (br_f h1 (fin 1 (by omega) (by omega)))
theorem i_vc_manner {k : Nat} {u : SX} {v : SY} (I : i_Rel k u v) (hk : k + 6 ≤ 3073) (v1 : Int32) (v2 : Int32) (v3 : Int32) (v4 : Int32) : wpX_manner (fun r u' => wpY_manner (fun r' v' => r' = r ∧ i_Rel (k + 6) u' v') v v1 v2 v3 v4) u v1 v2 v3 v4 := by
  obtain ⟨W, t, rs, st, nd, np, no, nm, ask, made, kin, dur, pri, ovl, mis, per, mnt, hrs, day, mon, wkd, nxt, sta, los, msd, mss, wai, req, bsy, wjb, wen, kjb, kst, kdu, knd, nex, prd, sets, mnw, wdu, doi, ens, his, fld, rfl, rfl, h⟩ := I
  have h0 := rl_up W t rs st nd np no nm ask made kin dur pri ovl mis per mnt hrs day mon wkd nxt sta los msd mss wai req bsy wjb wen kjb kst kdu knd nex prd sets mnw wdu doi ens his fld (m := k + 6) (by omega) h
  have h' := rl_mk W t rs st nd np no nm ask made kin dur pri ovl mis per mnt hrs day mon wkd nxt sta los msd mss wai req bsy wjb wen kjb kst kdu knd nex prd sets mnw wdu doi ens his fld _ h0
  obtain ⟨hW1, hW3, ht, hRs, hst, hnd, hnm, hJ, hK, hQ, hA, hH, hT⟩ := h0
  have n1 : ¬ (1 : Int32) = 0 := by decide
  unfold wpX_manner wpY_manner
  dsimp only
  by_cases a1 : v1 < 1
  · exact br_t a1 (yr_within _ _ _ _ (fun z _ => absurd a1 z) (fun _ => br_t rfl ⟨rfl, h'⟩))
  refine br_f a1 ?_
  by_cases a2 : 200 < v1
  · exact br_t a2 (yr_within _ _ _ _ (fun _ z => absurd a2 z) (fun _ => br_t rfl ⟨rfl, h'⟩))
  refine br_f a2 ?_
  by_cases b1 : v2 < 0
  · exact br_t b1 (yr_within _ _ _ _ (fun _ _ => br_f n1 (yr_within _ _ _ _ (fun z _ => absurd b1 z) (fun _ => br_t rfl ⟨rfl, h'⟩))) (fun z => absurd z (by simp only [not_or]; exact ⟨a1, a2⟩)))
  refine br_f b1 ?_
  by_cases b2 : v2 ≤ 9
  case neg => exact br_f b2 (yr_within _ _ _ _ (fun _ _ => br_f n1 (yr_within _ _ _ _ (fun _ z => absurd (Int32.not_le.mp b2) z) (fun _ => br_t rfl ⟨rfl, h'⟩))) (fun z => absurd z (by simp only [not_or]; exact ⟨a1, a2⟩)))
  refine br_t b2 ?_
  have b2' : ¬ 9 < v2 := Int32.not_lt.mpr b2
  by_cases c1 : v3 < 0
  · exact br_t c1 (yr_within _ _ _ _ (fun _ _ => br_f n1 (yr_within _ _ _ _ (fun _ _ => br_f n1 (yr_within _ _ _ _ (fun z _ => absurd c1 z) (fun _ => br_t rfl ⟨rfl, h'⟩))) (fun z => absurd z (by simp only [not_or]; exact ⟨b1, b2'⟩)))) (fun z => absurd z (by simp only [not_or]; exact ⟨a1, a2⟩)))
  refine br_f c1 ?_
  by_cases c2 : 1 < v3
  · exact br_t c2 (yr_within _ _ _ _ (fun _ _ => br_f n1 (yr_within _ _ _ _ (fun _ _ => br_f n1 (yr_within _ _ _ _ (fun _ z => absurd c2 z) (fun _ => br_t rfl ⟨rfl, h'⟩))) (fun z => absurd z (by simp only [not_or]; exact ⟨b1, b2'⟩)))) (fun z => absurd z (by simp only [not_or]; exact ⟨a1, a2⟩)))
  refine br_f c2 ?_
  by_cases d1 : v4 < 0
  · exact br_t d1 (yr_within _ _ _ _ (fun _ _ => br_f n1 (yr_within _ _ _ _ (fun _ _ => br_f n1 (yr_within _ _ _ _ (fun _ _ => br_f n1 (yr_within _ _ _ _ (fun z _ => absurd d1 z) (fun _ => br_t rfl ⟨rfl, h'⟩))) (fun z => absurd z (by simp only [not_or]; exact ⟨c1, c2⟩)))) (fun z => absurd z (by simp only [not_or]; exact ⟨b1, b2'⟩)))) (fun z => absurd z (by simp only [not_or]; exact ⟨a1, a2⟩)))
  refine br_f d1 ?_
  by_cases d2 : v4 ≤ 2
  case neg => exact br_f d2 (yr_within _ _ _ _ (fun _ _ => br_f n1 (yr_within _ _ _ _ (fun _ _ => br_f n1 (yr_within _ _ _ _ (fun _ _ => br_f n1 (yr_within _ _ _ _ (fun _ z => absurd (Int32.not_le.mp d2) z) (fun _ => br_t rfl ⟨rfl, h'⟩))) (fun z => absurd z (by simp only [not_or]; exact ⟨c1, c2⟩)))) (fun z => absurd z (by simp only [not_or]; exact ⟨b1, b2'⟩)))) (fun z => absurd z (by simp only [not_or]; exact ⟨a1, a2⟩)))
  refine br_t d2 ?_
  have d2' : ¬ 2 < v4 := Int32.not_lt.mpr d2
  refine yr_within _ _ _ _ (fun _ _ => br_f n1 (yr_within _ _ _ _ (fun _ _ => br_f n1 (yr_within _ _ _ _ (fun _ _ => br_f n1 (yr_within _ _ _ _ (fun _ _ => br_f n1 ⟨rfl, ?_⟩) (fun z => absurd z (by simp only [not_or]; exact ⟨d1, d2'⟩)))) (fun z => absurd z (by simp only [not_or]; exact ⟨c1, c2⟩)))) (fun z => absurd z (by simp only [not_or]; exact ⟨b1, b2'⟩)))) (fun z => absurd z (by simp only [not_or]; exact ⟨a1, a2⟩))
  have e1 : ∃ d, v1 = nI d ∧ 1 ≤ d ∧ d ≤ 200 := by
    obtain ⟨d, hd, rfl⟩ := nI_of2 (x := v1) (M := 200) (n := 200) (by decide) (fun z => a1 (Int32.lt_trans z (by decide))) (Int32.not_lt.mp a2)
    refine ⟨d, rfl, ?_, hd⟩
    rcases Nat.eq_zero_or_pos d with z | z
    · exact absurd (by rw [z]; decide) a1
    · exact z
  have e4 : v4 = 0 ∨ v4 = 1 ∨ v4 = 2 := by
    obtain ⟨d, hd, rfl⟩ := nI_of2 (x := v4) (M := 2) (n := 2) (by decide) d1 d2
    have : d = 0 ∨ d = 1 ∨ d = 2 := by omega
    rcases this with rfl | rfl | rfl
    · exact Or.inl rfl
    · exact Or.inr (Or.inl rfl)
    · exact Or.inr (Or.inr rfl)
  exact rl_mk _ _ _ _ _ _ _ _ _ _ _ _ _ _ _ _ _ _ _ _ _ _ _ _ _ _ _ _ _ _ _ _ _ _ _ _ _ _ _ _ _ _ _ _ _ ⟨hW1, hW3, ht, hRs, hst, e1, e4, hJ, hK, hQ, hA, hH, hT⟩
