theorem le_sim (W t rs : Nat) (st nd np no nm ask : Int32) (made kin dur pri ovl mis per mnt hrs day mon wkd nxt sta los msd mss wai req bsy wjb wen kjb kst kdu knd nex prd sets mnw wdu doi ens his fld : Nat → Int32) (ht : t ≤ 1000000) (hJ : rl_J (fun _ => t) st made kin mis dur per mnt hrs day mon wkd nxt mss knd nex prd sets mnw wai) (x : Int32) (hx : x = -1 ∨ ∃ j, j < 12 ∧ x = nI j) : ∃ nxt' nex' : Nat → Int32, rl_J (fun _ => t) st made kin mis dur per mnt hrs day mon wkd nxt' mss knd nex' prd sets mnw wai ∧ (∀ post : SX → Prop, post ((nI W), (nI t), st, (nI rs), nd, np, no, nm, made, kin, dur, pri, ovl, mis, per, mnt, hrs, day, mon, wkd, nxt', sta, los, msd, mss, wai, req, bsy, wjb, wen, kjb, kst, kdu) → wpX_learnFromEnd post ((nI W), (nI t), st, (nI rs), nd, np, no, nm, made, kin, dur, pri, ovl, mis, per, mnt, hrs, day, mon, wkd, nxt, sta, los, msd, mss, wai, req, bsy, wjb, wen, kjb, kst, kdu) x) ∧ (∀ P : (Nat → Int32) → Prop, P nex' → ((x < 0 → P nex) ∧ (¬ x < 0 → (vp_in x 12 ∧ ((((knd x.toNatClampNeg) = 2 → (vp_in x 12 ∧ (((0 ≤ (nex x.toNatClampNeg) → P nex) ∧ (¬ 0 ≤ (nex x.toNatClampNeg) → (vp_in x 12 ∧ (vp_in x 12 ∧ (∀ a, a = upd nex x.toNatClampNeg (nI t + (prd x.toNatClampNeg)) → P a)))))))) ∧ (¬ (knd x.toNatClampNeg) = 2 → P nex))))))) := by
  unfold wpX_learnFromEnd
  dsimp only
  have n1 : ¬ (1 : Int32) = 0 := by decide
  rcases hx with rfl | ⟨j, hj, rfl⟩
  · exact ⟨nxt, nex, hJ, fun post hp => xr_exists _ _ _ _ _ _ _ _ _ _ _ _ _ _ _ _ _ _ _ _ _ _ _ _ _ _ _ _ _ _ _ _ _ _ _ (fun j hj e _ => absurd e.symm (ar_ne1 (by omega))) (fun _ => br_t rfl hp), fun P hp => br_t (by decide) hp⟩
  · have kj : (nI j).toNatClampNeg = j := ar_k
    have pj : ¬ nI j < 0 := nI_pos (by omega)
    have hJj := hJ j hj
    by_cases hm : made j = 0
    · have k2 : ¬ knd (nI j).toNatClampNeg = 2 := by rw [kj, (rl_m0 hJj hm).1]; decide
      refine ⟨nxt, nex, hJ, fun post hp => xr_exists _ _ _ _ _ _ _ _ _ _ _ _ _ _ _ _ _ _ _ _ _ _ _ _ _ _ _ _ _ _ _ _ _ _ _ (fun i hi e h => ?_) (fun _ => br_t rfl hp), fun P hp => br_f pj ⟨ar_in, br_f k2 hp⟩⟩
      have := ar_eq e
      subst this
      exact absurd hm h
    · have X0 : ∀ post : Int32 → Prop, post 1 → wpX_exists post ((nI W), (nI t), st, (nI rs), nd, np, no, nm, made, kin, dur, pri, ovl, mis, per, mnt, hrs, day, mon, wkd, nxt, sta, los, msd, mss, wai, req, bsy, wjb, wen, kjb, kst, kdu) (nI j) := fun post hp => xr_exists _ _ _ _ _ _ _ _ _ _ _ _ _ _ _ _ _ _ _ _ _ _ _ _ _ _ _ _ _ _ _ _ _ _ _ (fun _ _ _ _ => hp) (fun z => absurd (z j hj rfl) hm)
      have f1 : kin j = knd j := by
        rcases hJj with ⟨g, _⟩ | ⟨_, g, _⟩
        · exact absurd g hm
        · exact g
      by_cases k2 : knd j = 2
      · have hn : rl_n t (nxt j) (nex j) ∧ ∃ p, per j = nI p ∧ prd j = nI p ∧ 1 ≤ p ∧ p ≤ 2000 := by
          rcases hJj with ⟨g, _⟩ | ⟨_, _, _, _, _, _, _, g⟩
          · exact absurd g hm
          · rcases g with ⟨c, _⟩ | ⟨_, c2, c3⟩ | ⟨c, _⟩
            · rw [k2] at c; exact absurd c (by decide)
            · exact ⟨c2, c3⟩
            · rw [k2] at c; exact absurd c (by decide)
        obtain ⟨hn, p, e1, e2, p1, p2⟩ := hn
        rcases hn with ⟨d1, d2⟩ | ⟨d, d1, d2, d3, d4⟩
        · have eX : upd nxt (nI j).toNatClampNeg (nI t + per (nI j).toNatClampNeg) = upd nxt j (nI (t + p)) := by rw [kj, e1, nI_add]
          have eY : upd nex (nI j).toNatClampNeg (nI t + prd (nI j).toNatClampNeg) = upd nex j (nI (t + p)) := by rw [kj, e2, nI_add]
          refine ⟨upd nxt j (nI (t + p)), upd nex j (nI (t + p)), ?_, fun post hp => X0 _ (br_f n1 ⟨ar_in, br_t (ar_c (by rw [f1]; exact k2)) ⟨ar_in, br_t (ar_c d1) ⟨ar_in, ar_in, nm_r eX hp⟩⟩⟩), fun P hp => br_f pj ⟨ar_in, br_t (ar_c k2) ⟨ar_in, br_f (by rw [kj, d2]; decide) ⟨ar_in, ar_in, nm_r eY hp⟩⟩⟩⟩
          intro i hi
          by_cases e : i = j
          · subst e
            rw [pk_us, pk_us]
            rcases hJj with ⟨g, _⟩ | ⟨g1, g2, g3, g4, g5, g6, g7, _⟩
            · exact absurd g hm
            · exact Or.inr ⟨g1, g2, g3, g4, g5, g6, g7, Or.inr (Or.inl ⟨Or.inr k2, Or.inr ⟨t + p, rfl, rfl, (by show t ≤ t + p; omega), by omega⟩, p, e1, e2, p1, p2⟩)⟩
          · rw [pk_un e, pk_un e]
            exact hJ i hi
        · refine ⟨nxt, nex, hJ, fun post hp => X0 _ (br_f n1 ⟨ar_in, br_t (ar_c (by rw [f1]; exact k2)) ⟨ar_in, br_f (ar_n (by rw [d1]; exact ar_ne2 (by omega))) hp⟩⟩), fun P hp => br_f pj ⟨ar_in, br_t (ar_c k2) ⟨ar_in, br_t ?_ hp⟩⟩⟩
          rw [kj, d2]
          exact nI_pos' (by omega)
      · exact ⟨nxt, nex, hJ, fun post hp => X0 _ (br_f n1 ⟨ar_in, br_f (ar_n (by rw [f1]; exact k2)) hp⟩), fun P hp => br_f pj ⟨ar_in, br_f (ar_n k2) hp⟩⟩
theorem rw_up {t W i : Nat} {bsy wjb wen doi ens : Nat → Int32} (h : rl_W i t W bsy wjb wen doi ens) (hi : (bsy i = 0 ∧ ens i = 0) ∨ ∃ e, ens i = nI e ∧ t < e ∧ e ≤ 1000200) : rl_W (i + 1) t W bsy wjb wen doi ens := by
  intro w hw
  rcases h w hw with g | ⟨g1, g2, ⟨e, e1, e2, e3, e4, e5, e6⟩, g4, g5⟩
  · exact Or.inl g
  · refine Or.inr ⟨g1, g2, ⟨e, e1, e2, e3, fun hw2 => ?_, e5, e6⟩, g4, g5⟩
    by_cases c : w = i
    · subst c
      rcases hi with ⟨z, _⟩ | ⟨f, f1, f2, f3⟩
      · rw [g1] at z; exact absurd z (by decide)
      · rw [e1] at f1
        have := ar_eq f1
        omega
    · exact e4 (by omega)
theorem er_loop (W t rs : Nat) (st nd np no nm ask : Int32) (made kin dur pri ovl mis per mnt hrs day mon wkd sta los msd mss wai req wjb wen kjb kst kdu knd prd sets mnw wdu doi his fld : Nat → Int32) (hW : W ≤ 3) (ht : t ≤ 1000000) (ht1 : 1 ≤ t) : ∀ d i, i + d = W → ∀ (nxt bsy nex ens : Nat → Int32), rl_J (fun _ => t) st made kin mis dur per mnt hrs day mon wkd nxt mss knd nex prd sets mnw wai → rl_W i t W bsy wjb wen doi ens → ∃ nxt' bsy' nex' ens' : Nat → Int32, rl_J (fun _ => t) st made kin mis dur per mnt hrs day mon wkd nxt' mss knd nex' prd sets mnw wai ∧ rl_W 3 t W bsy' wjb wen doi ens' ∧ (∀ post : SX → Prop, post ((nI W), (nI t), st, (nI rs), nd, np, no, nm, made, kin, dur, pri, ovl, mis, per, mnt, hrs, day, mon, wkd, nxt', sta, los, msd, mss, wai, req, bsy', wjb, wen, kjb, kst, kdu) → wX_endRuns_2 post (3 - i + 1) (nI i) (nI W) (nI t) st (nI rs) nd np no nm made kin dur pri ovl mis per mnt hrs day mon wkd nxt sta los msd mss wai req bsy wjb wen kjb kst kdu) ∧ (∀ post : SY → Prop, (∃ n106 : Nat, wY_tick_106 post n106 0 (nI W) (nI t) (nI rs) st nd np no nm ask knd dur pri ovl mis nex' prd sets sta los msd mnw wai wdu doi ens' his (fd_f t fld 5)) → wY_tick_12 post (nI W) (nI t) (nI rs) st nd np no nm ask (d + 1) (nI i) knd dur pri ovl mis nex prd sets sta los msd mnw wai wdu doi ens his fld) := by
  intro d
  induction d with
  | zero =>
    intro i hi nxt bsy nex ens hJ hK
    have tail : ∀ d i, i + d = 3 → W ≤ i → ∀ post : SX → Prop, post ((nI W), (nI t), st, (nI rs), nd, np, no, nm, made, kin, dur, pri, ovl, mis, per, mnt, hrs, day, mon, wkd, nxt, sta, los, msd, mss, wai, req, bsy, wjb, wen, kjb, kst, kdu) → wX_endRuns_2 post (d + 1) (nI i) (nI W) (nI t) st (nI rs) nd np no nm made kin dur pri ovl mis per mnt hrs day mon wkd nxt sta los msd mss wai req bsy wjb wen kjb kst kdu := by
      intro d
      induction d with
      | zero => intro i hi _ post hp; exact pk_le 3 i (fun _ => hp) (fun z => absurd z (by omega))
      | succ d ih =>
        intro i hi hw post hp
        rcases hK i (by omega) with ⟨b0, _⟩ | ⟨_, g, _⟩
        · exact pk_le 3 i (fun z => absurd z (by omega)) (fun _ => ⟨ar_in, br_t (ar_c b0) (nm_r (nI_1 i) (ih (i + 1) (by omega) (by omega) post hp))⟩)
        · exact absurd g (by omega)
    refine ⟨nxt, bsy, nex, ens, hJ, ?_, tail (3 - i) i (by omega) (by omega), fun post hp => pk_le W i (fun _ => yr_read2 _ _ _ _ _ _ _ _ _ _ _ _ _ _ _ _ _ _ _ _ _ _ _ _ _ _ _ t (by omega) _ hp) (fun z => absurd z (by omega))⟩
    intro w hw
    rcases hK w hw with g | ⟨g1, g2, ⟨e, e1, e2, e3, e4, e5, e6⟩, g4, g5⟩
    · exact Or.inl g
    · exact Or.inr ⟨g1, g2, ⟨e, e1, e2, e3, fun _ => e4 (by omega), e5, e6⟩, g4, g5⟩
  | succ d ih =>
    intro i hi nxt bsy nex ens hJ hK
    have kj : (nI i).toNatClampNeg = i := ar_k
    have e3' : 3 - i + 1 = (3 - (i + 1) + 1) + 1 := by omega
    rw [e3']
    rcases hK i (by omega) with ⟨b0, e0⟩ | ⟨b1, _, ⟨e, e1, e2, e3, _, e5, e6⟩, g4, g5⟩
    · obtain ⟨nxt', bsy', nex', ens', q1, q2, q3, q4⟩ := ih (i + 1) (by omega) nxt bsy nex ens hJ (rw_up hK (Or.inl ⟨b0, e0⟩))
      have ne : ¬ ens (nI i).toNatClampNeg = nI t := by
        rw [kj, e0]
        exact fun z => nI_ne0 (by omega) (by omega) z.symm
      exact ⟨nxt', bsy', nex', ens', q1, q2, fun post hp => pk_le 3 i (fun z => absurd z (by omega)) (fun _ => ⟨ar_in, br_t (ar_c b0) (nm_r (nI_1 i) (q3 post hp))⟩), fun post hp => pk_le W i (fun z => absurd z (by omega)) (fun _ => ⟨ar_in, br_f ne (nm_r (nI_1 i) (q4 post hp))⟩)⟩
    · have nb : ¬ bsy (nI i).toNatClampNeg = 0 := by rw [kj, b1]; decide
      have w1 : wen (nI i).toNatClampNeg = nI e := ar_c e2
      by_cases hte : t < e
      · obtain ⟨nxt', bsy', nex', ens', q1, q2, q3, q4⟩ := ih (i + 1) (by omega) nxt bsy nex ens hJ (rw_up hK (Or.inr ⟨e, e1, hte, e5⟩))
        have ne : ¬ ens (nI i).toNatClampNeg = nI t := by
          rw [kj, e1]
          exact ar_inj (by omega)
        exact ⟨nxt', bsy', nex', ens', q1, q2, fun post hp => pk_le 3 i (fun z => absurd z (by omega)) (fun _ => ⟨ar_in, br_f nb ⟨ar_in, pk_lt t e (fun _ => nm_r (nI_1 i) (q3 post hp)) (fun z => absurd z (by omega)) rfl w1⟩⟩), fun post hp => pk_le W i (fun z => absurd z (by omega)) (fun _ => ⟨ar_in, br_f ne (nm_r (nI_1 i) (q4 post hp))⟩)⟩
      · have ee : e = t := by omega
        subst ee
        have hx : wjb (nI i).toNatClampNeg = -1 ∨ ∃ j, j < 12 ∧ wjb (nI i).toNatClampNeg = nI j := by rw [kj]; exact g5
        have ed : doi (nI i).toNatClampNeg = wjb (nI i).toNatClampNeg := by rw [kj, g4]
        obtain ⟨nxt1, nex1, r1, r2, r3⟩ := le_sim W e rs st nd np no nm ask made kin dur pri ovl mis per mnt hrs day mon wkd nxt sta los msd mss wai req (upd bsy i 0) wjb wen kjb kst kdu knd nex prd sets mnw wdu doi ens his fld ht hJ _ hx
        have hK2 : rl_W (i + 1) e W (upd bsy i 0) wjb wen doi (upd ens i 0) := by
          refine rw_up (fun w hw => ?_) (Or.inl ⟨pk_us, pk_us⟩)
          by_cases c : w = i
          · subst c
            exact Or.inl ⟨pk_us, pk_us⟩
          · rw [pk_un c, pk_un c]
            exact hK w hw
        obtain ⟨nxt', bsy', nex', ens', q1, q2, q3, q4⟩ := ih (i + 1) (by omega) nxt1 (upd bsy i 0) nex1 (upd ens i 0) r1 hK2
        refine ⟨nxt', bsy', nex', ens', q1, q2, fun post hp => pk_le 3 i (fun z => absurd z (by omega)) (fun _ => ⟨ar_in, br_f nb ⟨ar_in, pk_lt e e (fun z => absurd z (by omega)) (fun _ => ⟨ar_in, nm_r ar_ub0 ⟨ar_in, r2 _ (nm_r (nI_1 i) (q3 post hp))⟩⟩) rfl w1⟩⟩), fun post hp => pk_le W i (fun z => absurd z (by omega)) (fun _ => ⟨ar_in, br_t (ar_c e1) ⟨ar_in, nm_r ar_u ⟨ar_in, nm_r ed (r3 (fun nex => ∀ y : Int32, y = nI i + 1 → wY_tick_12 post (nI W) (nI e) (nI rs) st nd np no nm ask (d + 1) y knd dur pri ovl mis nex prd sets sta los msd mnw wai wdu doi (upd ens i 0) his fld) (nm_r (nI_1 i) (q4 post hp)))⟩⟩⟩)⟩
theorem ad_loop (K n : Nat) (hK0 : K ≤ 3079) (hn : n ≤ 30000) : ∀ d i, i + d = n → ∀ (W t rs : Nat) (st nd np no nm ask : Int32) (made kin dur pri ovl mis per mnt hrs day mon wkd nxt sta los msd mss wai req bsy wjb wen kjb kst kdu knd nex prd sets mnw wdu doi ens his fld : Nat → Int32), rl_R K W t rs st nd np no nm ask made kin dur pri ovl mis per mnt hrs day mon wkd nxt sta los msd mss wai req bsy wjb wen kjb kst kdu knd nex prd sets mnw wdu doi ens his fld → ∃ r u' v', i_Rel K u' v' ∧ (∀ post : Int32 → SX → Prop, post r u' → wX_advance_15 post (nI n) (d + 1) (nI i) (nI W) (nI t) st (nI rs) nd np no nm made kin dur pri ovl mis per mnt hrs day mon wkd nxt sta los msd mss wai req bsy wjb wen kjb kst kdu) ∧ (∀ post : Int32 → SY → Prop, post r v' → wY_advance_15 post (nI n) (d + 1) (nI i) (nI W) (nI t) (nI rs) st nd np no nm ask knd dur pri ovl mis nex prd sets sta los msd mnw wai wdu doi ens his fld) := by
  intro d
  induction d with
  | zero =>
    intro i hi W t rs st nd np no nm ask made kin dur pri ovl mis per mnt hrs day mon wkd nxt sta los msd mss wai req bsy wjb wen kjb kst kdu knd nex prd sets mnw wdu doi ens his fld h
    exact ⟨nI t, _, _, rl_mk W t rs st nd np no nm ask made kin dur pri ovl mis per mnt hrs day mon wkd nxt sta los msd mss wai req bsy wjb wen kjb kst kdu knd nex prd sets mnw wdu doi ens his fld _ h, fun post hp => pk_le n i (fun _ => hp) (fun z => absurd z (by omega)), fun post hp => pk_le n i (fun _ => hp) (fun z => absurd z (by omega))⟩
  | succ d ih =>
    intro i hi W t rs st nd np no nm ask made kin dur pri ovl mis per mnt hrs day mon wkd nxt sta los msd mss wai req bsy wjb wen kjb kst kdu knd nex prd sets mnw wdu doi ens his fld h
    obtain ⟨hW1, hW3, ht, hRs, hst, hnd, hnm, hJ, hK, hQ, hA, hH, hT⟩ := id h
    by_cases hend : 1000000 ≤ t
    · exact ⟨nI t, _, _, rl_mk W t rs st nd np no nm ask made kin dur pri ovl mis per mnt hrs day mon wkd nxt sta los msd mss wai req bsy wjb wen kjb kst kdu knd nex prd sets mnw wdu doi ens his fld _ h, fun post hp => pk_le n i (fun z => absurd z (by omega)) (fun _ => pk_le 1000000 t (fun _ => hp) (fun z => absurd z (by omega))), fun post hp => pk_le n i (fun z => absurd z (by omega)) (fun _ => pk_le 1000000 t (fun _ => hp) (fun z => absurd z (by omega)))⟩
    · have hK2 : rl_W 0 (t + 1) W bsy wjb wen doi ens := by
        intro w hw
        rcases hK w hw with g | ⟨g1, g2, ⟨e, e1, e2, e3, e4, e5, e6⟩, g4, g5⟩
        · exact Or.inl g
        · have := e4 hw
          exact Or.inr ⟨g1, g2, ⟨e, e1, e2, by omega, fun z => absurd z (by omega), e5, e6⟩, g4, g5⟩
      obtain ⟨nxt1, bsy1, nex1, ens1, a1, a2, a3, a4⟩ := er_loop W (t + 1) rs st nd np no nm ask made kin dur pri ovl mis per mnt hrs day mon wkd sta los msd mss wai req wjb wen kjb kst kdu knd prd sets mnw wdu doi his fld hW3 (by omega) (by omega) W 0 (by omega) nxt bsy nex ens hJ hK2
      have h1 : st_H (td_b (t + 1) 0) W (t + 1) rs st nd np no nm ask made kin dur pri ovl mis per mnt hrs day mon wkd nxt1 sta los msd mss wai req bsy1 wjb wen kjb kst kdu knd nex1 prd sets mnw wdu doi ens1 his (fd_f (t + 1) fld 5) := ⟨a1, a2, hQ, hA, hH, hT⟩
      obtain ⟨ask2, nxt2, los2, msd2, mss2, wai2, req2, nex2, mnw2, wdu2, b1, b2, b3⟩ := td_loop W (t + 1) rs st nd np no nm made kin dur pri ovl mis per mnt hrs day mon wkd sta bsy1 wjb wen kjb kst kdu knd prd sets doi ens1 his (fd_f (t + 1) fld 5) hW3 (by omega) hst (fd_F (t + 1) fld) 12 0 (by omega) ask nxt1 los msd mss wai req nex1 mnw wdu h1
      obtain ⟨rs', ask', sta', wai', req', bsy', wjb', wen', kjb', kst', kdu', wdu', doi', ens', his', q1, q2, q3, q4, q5⟩ := sm_start _ _ _ _ _ _ _ _ _ _ _ _ _ _ _ _ _ _ _ _ _ _ _ _ _ _ _ _ _ _ _ _ _ _ _ _ _ _ _ _ _ _ _ _ _ hW3 (by omega : t + 1 ≤ 1000000) hst b1 (by omega)
      have fr : rl_R K W (t + 1) rs' st nd np no nm ask' made kin dur pri ovl mis per mnt hrs day mon wkd nxt2 sta' los2 msd2 mss2 wai' req' bsy' wjb' wen' kjb' kst' kdu' knd nex2 prd sets mnw2 wdu' doi' ens' his' (fd_f (t + 1) fld 5) := ⟨hW1, hW3, by omega, by omega, hst, hnd, hnm, q1⟩
      obtain ⟨r, u', v', c1, c2, c3⟩ := ih (i + 1) (by omega) _ _ _ _ _ _ _ _ _ _ _ _ _ _ _ _ _ _ _ _ _ _ _ _ _ _ _ _ _ _ _ _ _ _ _ _ _ _ _ _ _ _ _ _ fr
      refine ⟨r, u', v', c1, fun post hp => pk_le n i (fun z => absurd z (by omega)) (fun _ => pk_le 1000000 t (fun z => absurd z (by omega)) (fun _ => nm_r (nI_1 t) ⟨_, a3 _ ⟨_, b2 _ (q4 _ (nm_r (nI_1 i) (c2 post hp)))⟩⟩)), fun post hp => pk_le n i (fun z => absurd z (by omega)) (fun _ => pk_le 1000000 t (fun z => absurd z (by omega)) (fun _ => ?_))⟩
      unfold wpY_tick
      dsimp only
      exact nm_r (nI_1 t) ⟨_, a4 _ ⟨_, b3 _ _ q5 (nm_r (nI_1 i) (c3 post hp))⟩⟩
theorem i_vc_advance {k : Nat} {u : SX} {v : SY} (I : i_Rel k u v) (hk : k + 6 ≤ 3073) (v1 : Int32) : wpX_advance (fun r u' => wpY_advance (fun r' v' => r' = r ∧ i_Rel (k + 6) u' v') v v1) u v1 := by
  obtain ⟨W, t, rs, st, nd, np, no, nm, ask, made, kin, dur, pri, ovl, mis, per, mnt, hrs, day, mon, wkd, nxt, sta, los, msd, mss, wai, req, bsy, wjb, wen, kjb, kst, kdu, knd, nex, prd, sets, mnw, wdu, doi, ens, his, fld, rfl, rfl, h⟩ := I
  have h0 := rl_up W t rs st nd np no nm ask made kin dur pri ovl mis per mnt hrs day mon wkd nxt sta los msd mss wai req bsy wjb wen kjb kst kdu knd nex prd sets mnw wdu doi ens his fld (m := k + 6) (by omega) h
  have h' := rl_mk W t rs st nd np no nm ask made kin dur pri ovl mis per mnt hrs day mon wkd nxt sta los msd mss wai req bsy wjb wen kjb kst kdu knd nex prd sets mnw wdu doi ens his fld _ h0
  have n1 : ¬ (1 : Int32) = 0 := by decide
  unfold wpX_advance wpY_advance
  dsimp only
  by_cases a1 : v1 < 0
  · exact br_t a1 (yr_within _ _ _ _ (fun z _ => absurd a1 z) (fun _ => br_t rfl ⟨rfl, h'⟩))
  by_cases a2 : v1 ≤ 30000
  · obtain ⟨n, hn, rfl⟩ := nI_of2 (x := v1) (M := 30000) (n := 30000) (by decide) a1 a2
    obtain ⟨r, u', v', c1, c2, c3⟩ := ad_loop (k + 6) n (by omega) hn n 0 (by omega) W t rs st nd np no nm ask made kin dur pri ovl mis per mnt hrs day mon wkd nxt sta los msd mss wai req bsy wjb wen kjb kst kdu knd nex prd sets mnw wdu doi ens his fld h0
    exact br_f a1 (br_t a2 ⟨_, c2 _ (yr_within _ _ _ _ (fun _ _ => br_f n1 ⟨_, c3 _ ⟨rfl, c1⟩⟩) (fun z => absurd z (by simp only [not_or]; exact ⟨a1, Int32.not_lt.mpr a2⟩)))⟩)
  · exact br_f a1 (br_f a2 (yr_within _ _ _ _ (fun _ z => absurd (Int32.not_le.mp a2) z) (fun _ => br_t rfl ⟨rfl, h'⟩)))
