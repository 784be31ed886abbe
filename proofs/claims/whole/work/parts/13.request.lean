theorem rl_jm {b : Nat} {st ma ki mi du pe mt hr dy mo wd nx ms kn ne pr s0 s1 s2 s3 s4 mn wa : Int32} (h : rl_j b st ma ki mi du pe mt hr dy mo wd nx ms kn ne pr s0 s1 s2 s3 s4 mn wa) (e : ¬ ma = 0) (wa' : Int32) : rl_j b st ma ki mi du pe mt hr dy mo wd nx ms kn ne pr s0 s1 s2 s3 s4 mn wa' := by
  rcases h with ⟨h, _⟩ | h
  · exact absurd h e
  · exact Or.inr h
theorem xa_add (W t rs : Nat) (st nd np no nm : Int32) (made kin dur pri ovl mis per mnt hrs day mon wkd nxt sta los msd mss wai req bsy wjb wen kjb kst kdu : Nat → Int32) (j n : Nat) (hj : j < 12) (en : wai j = nI n) (hn : n ≤ 3) (post : Int32 → SX → Prop) (h1 : n < 3 → post 1 ((nI W), (nI t), st, (nI rs), nd, np, no, nm, made, kin, dur, pri, ovl, mis, per, mnt, hrs, day, mon, wkd, nxt, sta, los, msd, mss, (upd wai j (wai j + 1)), (upd req (3 * j + n) (nI t)), bsy, wjb, wen, kjb, kst, kdu)) (h0 : n = 3 → post 0 ((nI W), (nI t), st, (nI rs), nd, np, no, nm, made, kin, dur, pri, ovl, mis, per, mnt, hrs, day, mon, wkd, nxt, sta, los, msd, mss, wai, req, bsy, wjb, wen, kjb, kst, kdu)) : wpX_addRequest post ((nI W), (nI t), st, (nI rs), nd, np, no, nm, made, kin, dur, pri, ovl, mis, per, mnt, hrs, day, mon, wkd, nxt, sta, los, msd, mss, wai, req, bsy, wjb, wen, kjb, kst, kdu) (nI j) := by
  have hk : (nI j).toNatClampNeg = j := ar_k
  have ei : nI j * 3 + wai (nI j).toNatClampNeg = nI (3 * j + n) := by rw [hk, en, ar_x3, nI_add]
  have ew : upd wai (nI j).toNatClampNeg (wai (nI j).toNatClampNeg + 1) = upd wai j (wai j + 1) := by rw [hk]
  exact And.intro ar_in (pk_lt n 3 (fun z => ⟨ar_in, by rw [ei]; exact ar_in, nm_r (ar_ue ei) ⟨ar_in, ar_in, nm_r ew (h1 z)⟩⟩) (fun z => h0 (by omega)) (by rw [hk]; exact en))
theorem ya_ask (W t rs : Nat) (st nd np no nm ask : Int32) (knd dur pri ovl mis nex prd sets sta los msd mnw wai wdu doi ens his fld : Nat → Int32) (j n : Nat) (hj : j < 12) (en : wai j = nI n) (hn : n < 3) (post : SY → Prop) (h : post ((nI W), (nI t), (nI rs), st, nd, np, no, nm, (ask + 1), knd, dur, pri, ovl, mis, nex, prd, sets, sta, los, msd, mnw, (upd wai j (wai j + 1)), (upd wdu (3 * j + n) (nI t)), doi, ens, his, fld)) : wpY_ask post ((nI W), (nI t), (nI rs), st, nd, np, no, nm, ask, knd, dur, pri, ovl, mis, nex, prd, sets, sta, los, msd, mnw, wai, wdu, doi, ens, his, fld) (nI j) := by
  have hk : (nI j).toNatClampNeg = j := ar_k
  have ei : 3 * nI j + wai (nI j).toNatClampNeg = nI (3 * j + n) := by rw [hk, en, ar_3x, nI_add]
  have ew : upd wai (nI j).toNatClampNeg (wai (nI j).toNatClampNeg + 1) = upd wai j (wai j + 1) := by rw [hk]
  exact And.intro ar_in ⟨by rw [ei]; exact ar_in, nm_r (ar_ue ei) ⟨ar_in, ar_in, nm_r ew (nm_e h)⟩⟩
theorem aq_rel (W t rs : Nat) (st nd np no nm ask : Int32) (made kin dur pri ovl mis per mnt hrs day mon wkd nxt sta los msd mss wai req bsy wjb wen kjb kst kdu knd nex prd sets mnw wdu doi ens his fld : Nat → Int32) (b : Nat → Nat) (h : st_H b W t rs st nd np no nm ask made kin dur pri ovl mis per mnt hrs day mon wkd nxt sta los msd mss wai req bsy wjb wen kjb kst kdu knd nex prd sets mnw wdu doi ens his fld) (j n : Nat) (hj : j < 12) (hm : ¬ made j = 0) (en : wai j = nI n) (hn : n < 3) (x : Int32) : st_H b W t rs st nd np no nm (ask + 1) made kin dur pri ovl mis per mnt hrs day mon wkd nxt sta los msd mss (upd wai j (wai j + 1)) (upd req (3 * j + n) x) bsy wjb wen kjb kst kdu knd nex prd sets mnw (upd wdu (3 * j + n) x) doi ens his fld := by
  obtain ⟨hJ, hK, hQ, hA, hH, hT⟩ := h
  refine ⟨?_, hK, ?_, ?_, hH, hT⟩
  · intro i hi
    by_cases e : i = j
    · subst e
      exact rl_jm (hJ i hi) hm _
    · rw [pk_un e]
      exact hJ i hi
  · intro i hi
    obtain ⟨m, em, hm3, hq⟩ := hQ i hi
    by_cases e : i = j
    · subst e
      rw [en] at em
      have := ar_eq em
      subst this
      rw [pk_us, en]
      refine ⟨n + 1, nI_1 n, by omega, ?_⟩
      refine lt_s (fun q hq2 => ?_) ?_
      · rw [pk_un (by omega), pk_un (by omega)]
        exact hq q hq2
      · rw [pk_us, pk_us]
    · rw [pk_un e]
      refine ⟨m, em, hm3, fun q hq2 => ?_⟩
      rw [pk_un (by omega), pk_un (by omega)]
      exact hq q hq2
  · rw [rl_Su, if_pos hj, hA]
    grind
theorem i_vc_request {k : Nat} {u : SX} {v : SY} (I : i_Rel k u v) (hk : k + 6 ≤ 3073) (v1 : Int32) : wpX_request (fun r u' => wpY_request (fun r' v' => r' = r ∧ i_Rel (k + 6) u' v') v v1) u v1 := by
  obtain ⟨W, t, rs, st, nd, np, no, nm, ask, made, kin, dur, pri, ovl, mis, per, mnt, hrs, day, mon, wkd, nxt, sta, los, msd, mss, wai, req, bsy, wjb, wen, kjb, kst, kdu, knd, nex, prd, sets, mnw, wdu, doi, ens, his, fld, rfl, rfl, h⟩ := I
  have h0 := rl_up W t rs st nd np no nm ask made kin dur pri ovl mis per mnt hrs day mon wkd nxt sta los msd mss wai req bsy wjb wen kjb kst kdu knd nex prd sets mnw wdu doi ens his fld (m := k + 6) (by omega) h
  have h' := rl_mk W t rs st nd np no nm ask made kin dur pri ovl mis per mnt hrs day mon wkd nxt sta los msd mss wai req bsy wjb wen kjb kst kdu knd nex prd sets mnw wdu doi ens his fld _ h0
  obtain ⟨hW1, hW3, ht, hRs, hst, hnd, hnm, hS⟩ := h
  have hJ := hS.1
  have hQ := hS.2.2.1
  have hT := hS.2.2.2.2.2
  have n1 : ¬ (1 : Int32) = 0 := by decide
  unfold wpX_request wpY_request
  dsimp only
  rcases sm_ex W t rs st nd np no nm ask made kin dur pri ovl mis per mnt hrs day mon wkd nxt sta los msd mss wai req bsy wjb wen kjb kst kdu knd nex prd sets mnw wdu doi ens his fld _ hJ v1 with ⟨hx, hy⟩ | ⟨j, hj, rfl, hm, hkn, hx, hy⟩
  · exact hx _ (br_t rfl (hy _ (br_t rfl ⟨rfl, h'⟩)))
  obtain ⟨n, en, hn, _⟩ := hQ j hj
  have kj : (nI j).toNatClampNeg = j := ar_k
  rcases hst with e | e
  case inr =>
    have ne : ¬ st = 0 := by rw [e]; decide
    exact hx _ (br_f n1 (br_f ne (hy _ (br_f n1 ⟨ar_in, br_c (fun _ => ⟨rfl, h'⟩) (fun _ => br_f ne ⟨rfl, h'⟩)⟩))))
  rcases Nat.lt_or_ge n 3 with g | g
  case inr =>
    have e3 : wai (nI j).toNatClampNeg = 3 := by rw [kj, en, show n = 3 by omega]; rfl
    exact hx _ (br_f n1 (br_t e (xa_add _ _ _ _ _ _ _ _ _ _ _ _ _ _ _ _ _ _ _ _ _ _ _ _ _ _ _ _ _ _ _ _ _ j n hj en hn _ (fun z => absurd z (by omega)) (fun _ => br_t rfl (hy _ (br_f n1 ⟨ar_in, br_t e3 ⟨rfl, h'⟩⟩))))))
  have e3 : ¬ wai (nI j).toNatClampNeg = 3 := by rw [kj, en]; exact ar_inj (b := 3) (by omega)
  have h2 := aq_rel W t rs st nd np no nm ask made kin dur pri ovl mis per mnt hrs day mon wkd nxt sta los msd mss wai req bsy wjb wen kjb kst kdu knd nex prd sets mnw wdu doi ens his fld _ hS j n hj hm en g (nI t)
  obtain ⟨rs', ask', sta', wai', req', bsy', wjb', wen', kjb', kst', kdu', wdu', doi', ens', his', q1, q2, q3, q4, q5⟩ := sm_start _ _ _ _ _ _ _ _ _ _ _ _ _ _ _ _ _ _ _ _ _ _ _ _ _ _ _ _ _ _ _ _ _ _ _ _ _ _ _ _ _ _ _ _ _ hW3 ht (Or.inl e) h2 (by omega)
  have fr : rl_R (k + 6) W t rs' st nd np no nm ask' made kin dur pri ovl mis per mnt hrs day mon wkd nxt sta' los msd mss wai' req' bsy' wjb' wen' kjb' kst' kdu' knd nex prd sets mnw wdu' doi' ens' his' fld := ⟨hW1, hW3, ht, by omega, Or.inl e, hnd, hnm, q1⟩
  have fin := rl_mk _ _ _ _ _ _ _ _ _ _ _ _ _ _ _ _ _ _ _ _ _ _ _ _ _ _ _ _ _ _ _ _ _ _ _ _ _ _ _ _ _ _ _ _ _ fr
  obtain ⟨m, em, hm2⟩ := hT j hj
  have hyy : ∀ r, (∀ post : Int32 → SY → Prop, post r ((nI W), (nI t), (nI rs'), st, nd, np, no, nm, ask', knd, dur, pri, ovl, mis, nex, prd, sets, sta', los, msd, mnw, wai', wdu', doi', ens', his', fld) → ((((wai' (nI j).toNatClampNeg) = wai j → (post 1 ((nI W), (nI t), (nI rs'), st, nd, np, no, nm, ask', knd, dur, pri, ovl, mis, nex, prd, sets, sta', los, msd, mnw, wai', wdu', doi', ens', his', fld))) ∧ (¬ (wai' (nI j).toNatClampNeg) = wai j → (post 0 ((nI W), (nI t), (nI rs'), st, nd, np, no, nm, ask', knd, dur, pri, ovl, mis, nex, prd, sets, sta', los, msd, mnw, wai', wdu', doi', ens', his', fld)))))) → wpY_request (fun r' v' => r' = r ∧ i_Rel (k + 6) ((nI W), (nI t), st, (nI rs'), nd, np, no, nm, made, kin, dur, pri, ovl, mis, per, mnt, hrs, day, mon, wkd, nxt, sta', los, msd, mss, wai', req', bsy', wjb', wen', kjb', kst', kdu') v') ((nI W), (nI t), (nI rs), st, nd, np, no, nm, ask, knd, dur, pri, ovl, mis, nex, prd, sets, sta, los, msd, mnw, wai, wdu, doi, ens, his, fld) (nI j) := by
    intro r hh
    unfold wpY_request
    dsimp only
    refine hy _ (br_f n1 ⟨ar_in, br_f e3 (br_t e ⟨ar_in, nm_r ar_cl (ya_ask _ _ _ _ _ _ _ _ _ _ _ _ _ _ _ _ _ _ _ _ _ _ _ _ _ _ _ j n hj en g _ (q5 _ ⟨ar_in, hh (fun r' v' => r' = r ∧ i_Rel (k + 6) ((nI W), (nI t), st, (nI rs'), nd, np, no, nm, made, kin, dur, pri, ovl, mis, per, mnt, hrs, day, mon, wkd, nxt, sta', los, msd, mss, wai', req', bsy', wjb', wen', kjb', kst', kdu') v') ⟨rfl, fin⟩⟩))⟩)⟩)
  unfold wpY_request at hyy
  dsimp only at hyy
  refine hx _ (br_f n1 (br_t e (xa_add _ _ _ _ _ _ _ _ _ _ _ _ _ _ _ _ _ _ _ _ _ _ _ _ _ _ _ _ _ _ _ _ _ j n hj en hn _ (fun _ => br_f n1 ⟨ar_in, nm_r ar_cl (q4 _ ⟨ar_in, ?_⟩)⟩) (fun z => absurd z (by omega)))))
  rcases q3 j hj with ⟨a, c⟩ | ⟨_, a, c⟩
  · rw [pk_us] at c
    have le1 : sta' (nI j).toNatClampNeg ≤ sta j := by rw [kj, a]; exact Int32.le_refl _
    refine br_t le1 (hyy 0 (fun post hp => br_f ?_ hp))
    rw [kj, c, en, nI_1]
    exact ar_inj (by omega)
  · rw [pk_us] at c
    have le1 : ¬ sta' (nI j).toNatClampNeg ≤ sta j := by rw [kj, a, em, nI_1]; exact ar_nle (by omega)
    refine br_f le1 (hyy 1 (fun post hp => br_t ?_ hp))
    rw [kj, c, en, nI_1]
    exact nI_pred n
