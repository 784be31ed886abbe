theorem ar_ub0 {a : Nat → Int32} {i : Nat} (hi : i < 1000 := by omega) : upd a (nI i).toNatClampNeg (vp_nar .boolean 0) = upd a i 0 := by rw [ar_nb0]; exact ar_u
theorem ar_ub1 {a : Nat → Int32} {i : Nat} (hi : i < 1000 := by omega) : upd a (nI i).toNatClampNeg (vp_nar .boolean 1) = upd a i 1 := by rw [ar_nb1]; exact ar_u
theorem xg_loop (W t rs : Nat) (st nd np no nm : Int32) (made kin dur pri ovl mis per mnt hrs day mon wkd nxt sta los msd mss wai req bsy wjb wen kjb kst kdu : Nat → Int32) (x : Int32) (post : Int32 → SX → Prop) (h : ∀ wjb', (∀ w, w < 3 → (wjb w = x → wjb' w = -1) ∧ (¬ wjb w = x → wjb' w = wjb w)) → post 1 ((nI W), (nI t), st, (nI rs), nd, np, no, nm, made, kin, dur, pri, ovl, mis, per, mnt, hrs, day, mon, wkd, nxt, sta, los, msd, mss, wai, req, bsy, wjb', wen, kjb, kst, kdu)) : ∃ n, wX_give_26 post x (nI W) (nI t) st (nI rs) nd np no nm n 0 made kin dur pri ovl mis per mnt hrs day mon wkd nxt sta los msd mss wai req bsy wjb wen kjb kst kdu := by
  have key : ∀ d i cur, i + d = 3 → (∀ w, w < i → (wjb w = x → cur w = -1) ∧ (¬ wjb w = x → cur w = wjb w)) → (∀ w, i ≤ w → cur w = wjb w) → wX_give_26 post x (nI W) (nI t) st (nI rs) nd np no nm (d + 1) (nI i) made kin dur pri ovl mis per mnt hrs day mon wkd nxt sta los msd mss wai req bsy cur wen kjb kst kdu := by
    intro d
    induction d with
    | zero => intro i cur hi hn _; exact pk_le 3 i (fun _ => h cur (fun w hw => hn w (by omega))) (fun z => absurd z (by omega))
    | succ d ih =>
      intro i cur hi hn hl
      have ec := hl i (by omega)
      refine pk_le 3 i (fun z => absurd z (by omega)) (fun _ => ⟨ar_in, br_c (fun e => ⟨ar_in, nm_r ar_u (nm_r (nI_1 i) (ih (i + 1) _ (by omega) ?_ ?_))⟩) (fun e => nm_r (nI_1 i) (ih (i + 1) cur (by omega) ?_ ?_))⟩)
      · refine lt_s (fun w hw => ?_) ⟨fun _ => pk_us, fun z => absurd (by rw [← ec]; exact ar_o e) z⟩
        rw [pk_un (by omega)]
        exact hn w hw
      · intro w hw
        rw [pk_un (by omega)]
        exact hl w (by omega)
      · refine lt_s hn ⟨fun z => absurd (by rw [ec]; exact z) (ar_on e), fun _ => ec⟩
      · intro w hw
        exact hl w (by omega)
  exact ⟨_, key 3 0 wjb (by omega) (fun w hw => absurd hw (by omega)) (fun w _ => rfl)⟩
theorem yg_loop (W t rs : Nat) (st nd np no nm ask : Int32) (knd dur pri ovl mis nex prd sets sta los msd mnw wai wdu doi ens his fld : Nat → Int32) (hW : W ≤ 3) (x : Int32) (post : Int32 → SY → Prop) (h : ∀ doi', (∀ w, w < W → (doi w = x → doi' w = -1) ∧ (¬ doi w = x → doi' w = doi w)) → post 1 ((nI W), (nI t), (nI rs), st, nd, np, no, nm, ask, knd, dur, pri, ovl, mis, nex, prd, sets, sta, los, msd, mnw, wai, wdu, doi', ens, his, fld)) : ∃ n, wY_give_41 post x (nI W) (nI t) (nI rs) st nd np no nm ask n 0 knd dur pri ovl mis nex prd sets sta los msd mnw wai wdu doi ens his fld := by
  have key : ∀ d i cur, i + d = W → (∀ w, w < i → (doi w = x → cur w = -1) ∧ (¬ doi w = x → cur w = doi w)) → (∀ w, i ≤ w → cur w = doi w) → wY_give_41 post x (nI W) (nI t) (nI rs) st nd np no nm ask (d + 1) (nI i) knd dur pri ovl mis nex prd sets sta los msd mnw wai wdu cur ens his fld := by
    intro d
    induction d with
    | zero => intro i cur hi hn _; exact pk_le W i (fun _ => h cur (fun w hw => hn w (by omega))) (fun z => absurd z (by omega))
    | succ d ih =>
      intro i cur hi hn hl
      have ec := hl i (by omega)
      refine pk_le W i (fun z => absurd z (by omega)) (fun _ => ⟨ar_in, br_c (fun e => ⟨ar_in, nm_r ar_u (nm_r (nI_1 i) (ih (i + 1) _ (by omega) ?_ ?_))⟩) (fun e => nm_r (nI_1 i) (ih (i + 1) cur (by omega) ?_ ?_))⟩)
      · refine lt_s (fun w hw => ?_) ⟨fun _ => pk_us, fun z => absurd (by rw [← ec]; exact ar_o e) z⟩
        rw [pk_un (by omega)]
        exact hn w hw
      · intro w hw
        rw [pk_un (by omega)]
        exact hl w (by omega)
      · refine lt_s hn ⟨fun z => absurd (by rw [ec]; exact z) (ar_on e), fun _ => ec⟩
      · intro w hw
        exact hl w (by omega)
  exact ⟨_, key W 0 doi (by omega) (fun w hw => absurd hw (by omega)) (fun w _ => rfl)⟩
theorem i_vc_give {k : Nat} {u : SX} {v : SY} (I : i_Rel k u v) (hk : k + 6 ≤ 3073) (v1 : Int32) : wpX_give (fun r u' => wpY_give (fun r' v' => r' = r ∧ i_Rel (k + 6) u' v') v v1) u v1 := by
  obtain ⟨W, t, rs, st, nd, np, no, nm, ask, made, kin, dur, pri, ovl, mis, per, mnt, hrs, day, mon, wkd, nxt, sta, los, msd, mss, wai, req, bsy, wjb, wen, kjb, kst, kdu, knd, nex, prd, sets, mnw, wdu, doi, ens, his, fld, rfl, rfl, h⟩ := I
  have h0 := rl_up W t rs st nd np no nm ask made kin dur pri ovl mis per mnt hrs day mon wkd nxt sta los msd mss wai req bsy wjb wen kjb kst kdu knd nex prd sets mnw wdu doi ens his fld (m := k + 6) (by omega) h
  have h' := rl_mk W t rs st nd np no nm ask made kin dur pri ovl mis per mnt hrs day mon wkd nxt sta los msd mss wai req bsy wjb wen kjb kst kdu knd nex prd sets mnw wdu doi ens his fld _ h0
  obtain ⟨hW1, hW3, ht, hRs, hst, hnd, hnm, hJ, hK, hQ, hA, hH, hT⟩ := h0
  have n1 : ¬ (1 : Int32) = 0 := by decide
  unfold wpX_give wpY_give
  dsimp only
  rcases sm_ex W t rs st nd np no nm ask made kin dur pri ovl mis per mnt hrs day mon wkd nxt sta los msd mss wai req bsy wjb wen kjb kst kdu knd nex prd sets mnw wdu doi ens his fld _ hJ v1 with ⟨hx, hy⟩ | ⟨j, hj, rfl, hm, hkn, hx, hy⟩
  · exact hx _ (br_t rfl (hy _ (br_t rfl ⟨rfl, h'⟩)))
  · have ea : ask - wai (nI j).toNatClampNeg = rl_S (upd wai j 0) 12 := by
      rw [ar_k, rl_Su, if_pos hj, hA, Int32.add_zero]
    refine hx _ (br_f n1 ⟨ar_in, nm_r ar_ub0 ⟨ar_in, nm_r ar_u (xg_loop _ _ _ _ _ _ _ _ _ _ _ _ _ _ _ _ _ _ _ _ _ _ _ _ _ _ _ _ _ _ _ _ _ (nI j) _ (fun wjb' hw => hy _ (br_f n1 ⟨ar_in, nm_r ar_u ⟨ar_in, nm_r ea ⟨ar_in, nm_r ar_u (yg_loop _ _ _ _ _ _ _ _ _ _ _ _ _ _ _ _ _ _ _ _ _ _ _ _ _ _ _ hW3 (nI j) _ (fun doi' hd => ⟨rfl, ?_⟩))⟩⟩⟩)))⟩⟩)
    refine rl_mk _ _ _ _ _ _ _ _ _ _ _ _ _ _ _ _ _ _ _ _ _ _ _ _ _ _ _ _ _ _ _ _ _ _ _ _ _ _ _ _ _ _ _ _ _ ⟨hW1, hW3, ht, hRs, hst, hnd, hnm, ?_, ?_, ?_, rfl, hH, hT⟩
    · intro i hi
      by_cases e : i = j
      · subst e
        simp only [pk_us]
        exact Or.inl ⟨rfl, rfl, rfl⟩
      · simp only [pk_un e]
        exact hJ i hi
    · intro w hw3
      rcases hK w hw3 with g | ⟨g1, g2, g3, g4, g5⟩
      · exact Or.inl g
      · obtain ⟨p1, p2⟩ := hw w hw3
        obtain ⟨q1, q2⟩ := hd w g2
        refine Or.inr ⟨g1, g2, g3, ?_⟩
        by_cases e : wjb w = nI j
        · rw [p1 e, q1 (by rw [← g4]; exact e)]
          exact ⟨rfl, Or.inl rfl⟩
        · rw [p2 e, q2 (by rw [← g4]; exact e)]
          exact ⟨g4, g5⟩
    · intro i hi
      by_cases e : i = j
      · subst e
        rw [pk_us]
        exact ⟨0, rfl, by omega, fun q hq => absurd hq (by omega)⟩
      · rw [pk_un e]
        exact hQ i hi
