theorem sm_ex (W t rs : Nat) (st nd np no nm ask : Int32) (made kin dur pri ovl mis per mnt hrs day mon wkd nxt sta los msd mss wai req bsy wjb wen kjb kst kdu knd nex prd sets mnw wdu doi ens his fld : Nat → Int32) (b : Nat → Nat) (hJ : rl_J b st made kin mis dur per mnt hrs day mon wkd nxt mss knd nex prd sets mnw wai) (x : Int32) : ((∀ post : Int32 → Prop, post 0 → wpX_exists post ((nI W), (nI t), st, (nI rs), nd, np, no, nm, made, kin, dur, pri, ovl, mis, per, mnt, hrs, day, mon, wkd, nxt, sta, los, msd, mss, wai, req, bsy, wjb, wen, kjb, kst, kdu) x) ∧ (∀ post : Int32 → Prop, post 0 → wpY_isJob post ((nI W), (nI t), (nI rs), st, nd, np, no, nm, ask, knd, dur, pri, ovl, mis, nex, prd, sets, sta, los, msd, mnw, wai, wdu, doi, ens, his, fld) x)) ∨ ∃ j, j < 12 ∧ x = nI j ∧ ¬ made j = 0 ∧ ¬ knd j < 0 ∧ (∀ post : Int32 → Prop, post 1 → wpX_exists post ((nI W), (nI t), st, (nI rs), nd, np, no, nm, made, kin, dur, pri, ovl, mis, per, mnt, hrs, day, mon, wkd, nxt, sta, los, msd, mss, wai, req, bsy, wjb, wen, kjb, kst, kdu) x) ∧ (∀ post : Int32 → Prop, post 1 → wpY_isJob post ((nI W), (nI t), (nI rs), st, nd, np, no, nm, ask, knd, dur, pri, ovl, mis, nex, prd, sets, sta, los, msd, mnw, wai, wdu, doi, ens, his, fld) x) := by
  by_cases h : ∃ j, j < 12 ∧ x = nI j ∧ ¬ made j = 0
  · obtain ⟨j, hj, rfl, hm⟩ := h
    have hk := rl_m1 (hJ j hj) hm
    refine Or.inr ⟨j, hj, rfl, hm, hk, fun post hp => xr_exists _ _ _ _ _ _ _ _ _ _ _ _ _ _ _ _ _ _ _ _ _ _ _ _ _ _ _ _ _ _ _ _ _ _ post (fun _ _ _ _ => hp) (fun z => absurd (z j hj rfl) hm), fun post hp => yr_isJob _ _ _ _ _ _ _ _ _ _ _ _ _ _ _ _ _ _ _ _ _ _ _ _ _ _ _ _ post (fun _ _ _ _ => hp) (fun z => absurd (z j hj rfl) hk)⟩
  · have h' : ∀ j, j < 12 → x = nI j → made j = 0 := fun j hj e => Classical.byContradiction (fun z => h ⟨j, hj, e, z⟩)
    refine Or.inl ⟨fun post hp => xr_exists _ _ _ _ _ _ _ _ _ _ _ _ _ _ _ _ _ _ _ _ _ _ _ _ _ _ _ _ _ _ _ _ _ _ post (fun j hj e hm => absurd (h' j hj e) hm) (fun _ => hp), fun post hp => yr_isJob _ _ _ _ _ _ _ _ _ _ _ _ _ _ _ _ _ _ _ _ _ _ _ _ _ _ _ _ post (fun j hj e hm => ?_) (fun _ => hp)⟩
    refine absurd ?_ hm
    rw [(rl_m0 (hJ j hj) (h' j hj e)).1]
    decide
theorem sm_about (W t rs : Nat) (st nd np no nm ask : Int32) (made kin dur pri ovl mis per mnt hrs day mon wkd nxt sta los msd mss wai req bsy wjb wen kjb kst kdu knd nex prd sets mnw wdu doi ens his fld : Nat → Int32) (hW : W ≤ 3) (b : Nat → Nat) (hJ : rl_J b st made kin mis dur per mnt hrs day mon wkd nxt mss knd nex prd sets mnw wai) (hK : rl_W 3 t W bsy wjb wen doi ens) (v1 v2 : Int32) : ∃ r, (∀ post : Int32 → Prop, post r → wpX_about post ((nI W), (nI t), st, (nI rs), nd, np, no, nm, made, kin, dur, pri, ovl, mis, per, mnt, hrs, day, mon, wkd, nxt, sta, los, msd, mss, wai, req, bsy, wjb, wen, kjb, kst, kdu) v1 v2) ∧ (∀ post : Int32 → Prop, post r → wpY_about post ((nI W), (nI t), (nI rs), st, nd, np, no, nm, ask, knd, dur, pri, ovl, mis, nex, prd, sets, sta, los, msd, mnw, wai, wdu, doi, ens, his, fld) v1 v2) := by
  unfold wpX_about wpY_about
  dsimp only
  have n1 : ¬ (1 : Int32) = 0 := by decide
  rcases sm_ex W t rs st nd np no nm ask made kin dur pri ovl mis per mnt hrs day mon wkd nxt sta los msd mss wai req bsy wjb wen kjb kst kdu knd nex prd sets mnw wdu doi ens his fld b hJ v1 with ⟨hx, hy⟩ | ⟨j, hj, rfl, hm, hk, hx, hy⟩
  · exact ⟨-1, fun post hp => hx _ (br_t rfl hp), fun post hp => hy _ (br_t rfl hp)⟩
  · rcases pk_ix v2 (n := 6) (by omega) with h | h | ⟨q, hq, rfl⟩
    · exact ⟨-1, fun post hp => hx _ (br_f n1 (br_t h hp)), fun post hp => hy _ (br_f n1 (br_t h hp))⟩
    · have h0 : ¬ v2 < 0 := ar_ge0 h
      have h5 : 5 < v2 := Int32.lt_of_lt_of_le (by decide) h
      exact ⟨-1, fun post hp => hx _ (br_f n1 (br_f h0 (br_t h5 hp))), fun post hp => hy _ (br_f n1 (br_f h0 (br_t h5 hp)))⟩
    · have hq6 : q = 0 ∨ q = 1 ∨ q = 2 ∨ q = 3 ∨ q = 4 ∨ q = 5 := by omega
      rcases hq6 with rfl | rfl | rfl | rfl | rfl | rfl
      · exact ⟨sta j, fun post hp => hx _ (br_f (by decide) (br_f (by decide) (br_f (by decide) (br_t rfl ⟨ar_in, by rw [ar_k]; exact hp⟩)))), fun post hp => hy _ (br_f (by decide) (br_f (by decide) (br_f (by decide) (br_t rfl ⟨ar_in, by rw [ar_k]; exact hp⟩))))⟩
      · exact ⟨los j, fun post hp => hx _ (br_f (by decide) (br_f (by decide) (br_f (by decide) (br_f (by decide) (br_t rfl ⟨ar_in, by rw [ar_k]; exact hp⟩))))), fun post hp => hy _ (br_f (by decide) (br_f (by decide) (br_f (by decide) (br_f (by decide) (br_t rfl ⟨ar_in, by rw [ar_k]; exact hp⟩)))))⟩
      · exact ⟨msd j, fun post hp => hx _ (br_f (by decide) (br_f (by decide) (br_f (by decide) (br_f (by decide) (br_f (by decide) (br_t rfl ⟨ar_in, by rw [ar_k]; exact hp⟩)))))), fun post hp => hy _ (br_f (by decide) (br_f (by decide) (br_f (by decide) (br_f (by decide) (br_f (by decide) (br_t rfl ⟨ar_in, by rw [ar_k]; exact hp⟩))))))⟩
      · exact ⟨wai j, fun post hp => hx _ (br_f (by decide) (br_f (by decide) (br_f (by decide) (br_f (by decide) (br_f (by decide) (br_f (by decide) (br_t rfl ⟨ar_in, by rw [ar_k]; exact hp⟩))))))), fun post hp => hy _ (br_f (by decide) (br_f (by decide) (br_f (by decide) (br_f (by decide) (br_f (by decide) (br_f (by decide) (br_t rfl ⟨ar_in, by rw [ar_k]; exact hp⟩)))))))⟩
      · by_cases hp : hp_P bsy wjb (nI j)
        · have hq := (rl_PQ hW hK (nI j)).mp hp
          exact ⟨1, fun post g => hx _ (br_f (by decide) (br_f (by decide) (br_f (by decide) (br_f (by decide) (br_f (by decide) (br_f (by decide) (br_f (by decide) (br_t rfl (xr_hasRun _ _ _ _ _ _ _ _ _ _ _ _ _ _ _ _ _ _ _ _ _ _ _ _ _ _ _ _ _ _ _ _ _ _ _ (fun _ => br_f n1 g) (fun z => absurd hp z)))))))))), fun post g => hy _ (br_f (by decide) (br_f (by decide) (br_f (by decide) (br_f (by decide) (br_f (by decide) (br_f (by decide) (br_f (by decide) (br_t rfl (yr_isRunning _ _ _ _ _ _ _ _ _ _ _ _ _ _ _ _ _ _ _ _ _ _ _ _ _ _ _ hW _ _ (fun _ => br_f n1 g) (fun z => absurd hq z))))))))))⟩
        · have hq : ¬ hp_Q W ens doi (nI j) := fun z => hp ((rl_PQ hW hK (nI j)).mpr z)
          exact ⟨0, fun post g => hx _ (br_f (by decide) (br_f (by decide) (br_f (by decide) (br_f (by decide) (br_f (by decide) (br_f (by decide) (br_f (by decide) (br_t rfl (xr_hasRun _ _ _ _ _ _ _ _ _ _ _ _ _ _ _ _ _ _ _ _ _ _ _ _ _ _ _ _ _ _ _ _ _ _ _ (fun z => absurd z hp) (fun _ => br_t rfl g)))))))))), fun post g => hy _ (br_f (by decide) (br_f (by decide) (br_f (by decide) (br_f (by decide) (br_f (by decide) (br_f (by decide) (br_f (by decide) (br_t rfl (yr_isRunning _ _ _ _ _ _ _ _ _ _ _ _ _ _ _ _ _ _ _ _ _ _ _ _ _ _ _ hW _ _ (fun z => absurd z hq) (fun _ => br_t rfl g))))))))))⟩
      · have ek : kin j = knd j := by
          rcases hJ j hj with ⟨g, _⟩ | ⟨_, g, _⟩
          · exact absurd g hm
          · exact g
        exact ⟨kin j, fun post hp => hx _ (br_f (by decide) (br_f (by decide) (br_f (by decide) (br_f (by decide) (br_f (by decide) (br_f (by decide) (br_f (by decide) (br_f (by decide) (br_t rfl ⟨ar_in, by rw [ar_k]; exact hp⟩))))))))), fun post hp => hy _ (br_f (by decide) (br_f (by decide) (br_f (by decide) (br_f (by decide) (br_f (by decide) (br_f (by decide) (br_f (by decide) (br_f (by decide) (br_t rfl ⟨ar_in, by rw [ar_k, ← ek]; exact hp⟩)))))))))⟩
theorem i_vc_about {k : Nat} {u : SX} {v : SY} (I : i_Rel k u v) (hk : k + 6 ≤ 3073) (v1 : Int32) (v2 : Int32) : wpX_about (fun r => wpY_about (fun r' => r' = r ∧ i_Rel (k + 6) u v) v v1 v2) u v1 v2 := by
  obtain ⟨W, t, rs, st, nd, np, no, nm, ask, made, kin, dur, pri, ovl, mis, per, mnt, hrs, day, mon, wkd, nxt, sta, los, msd, mss, wai, req, bsy, wjb, wen, kjb, kst, kdu, knd, nex, prd, sets, mnw, wdu, doi, ens, his, fld, rfl, rfl, h⟩ := I
  have h' := rl_mk W t rs st nd np no nm ask made kin dur pri ovl mis per mnt hrs day mon wkd nxt sta los msd mss wai req bsy wjb wen kjb kst kdu knd nex prd sets mnw wdu doi ens his fld _ (rl_up W t rs st nd np no nm ask made kin dur pri ovl mis per mnt hrs day mon wkd nxt sta los msd mss wai req bsy wjb wen kjb kst kdu knd nex prd sets mnw wdu doi ens his fld (m := k + 6) (by omega) h)
  obtain ⟨hW1, hW3, ht, hRs, hst, hnd, hnm, hJ, hK, hQ, hA, hH, hT⟩ := h
  obtain ⟨r, hx, hy⟩ := sm_about W t rs st nd np no nm ask made kin dur pri ovl mis per mnt hrs day mon wkd nxt sta los msd mss wai req bsy wjb wen kjb kst kdu knd nex prd sets mnw wdu doi ens his fld hW3 _ hJ hK v1 v2
  exact hx _ (hy _ ⟨rfl, h'⟩)
theorem sm_due (W t rs : Nat) (st nd np no nm ask : Int32) (made kin dur pri ovl mis per mnt hrs day mon wkd nxt sta los msd mss wai req bsy wjb wen kjb kst kdu knd nex prd sets mnw wdu doi ens his fld : Nat → Int32) (ht : t ≤ 1000000) (hJ : rl_J (fun _ => t + 1) st made kin mis dur per mnt hrs day mon wkd nxt mss knd nex prd sets mnw wai) (v1 : Int32) : ∃ r, (∀ post : Int32 → Prop, post r → wpX_due post ((nI W), (nI t), st, (nI rs), nd, np, no, nm, made, kin, dur, pri, ovl, mis, per, mnt, hrs, day, mon, wkd, nxt, sta, los, msd, mss, wai, req, bsy, wjb, wen, kjb, kst, kdu) v1) ∧ (∀ post : Int32 → SY → Prop, (∀ fld', post r ((nI W), (nI t), (nI rs), st, nd, np, no, nm, ask, knd, dur, pri, ovl, mis, nex, prd, sets, sta, los, msd, mnw, wai, wdu, doi, ens, his, fld')) → wpY_due post ((nI W), (nI t), (nI rs), st, nd, np, no, nm, ask, knd, dur, pri, ovl, mis, nex, prd, sets, sta, los, msd, mnw, wai, wdu, doi, ens, his, fld) v1) := by
  unfold wpX_due wpY_due
  dsimp only
  have n1 : ¬ (1 : Int32) = 0 := by decide
  rcases sm_ex W t rs st nd np no nm ask made kin dur pri ovl mis per mnt hrs day mon wkd nxt sta los msd mss wai req bsy wjb wen kjb kst kdu knd nex prd sets mnw wdu doi ens his fld _ hJ v1 with ⟨hx, hy⟩ | ⟨j, hj, rfl, hm, hk, hx, hy⟩
  · exact ⟨-1, fun post hp => hx _ (br_t rfl hp), fun post hp => hy _ (br_t rfl (hp fld))⟩
  · have kc : (nI j).toNatClampNeg = j := ar_k
    have XA : ∀ d, nxt j = nI d → d ≤ 1000000 → (∀ post : Int32 → Prop, post (nI d) → wpX_exists (fun r_1 => (((r_1 = 0 → (post (-1))) ∧ (¬ r_1 = 0 → (vp_in (nI j) 12 ∧ ((((nxt (nI j).toNatClampNeg) ≤ 1000000 → (vp_in (nI j) 12 ∧ (post (nxt (nI j).toNatClampNeg)))) ∧ (¬ (nxt (nI j).toNatClampNeg) ≤ 1000000 → (post (-2)))))))))) ((nI W), (nI t), st, (nI rs), nd, np, no, nm, made, kin, dur, pri, ovl, mis, per, mnt, hrs, day, mon, wkd, nxt, sta, los, msd, mss, wai, req, bsy, wjb, wen, kjb, kst, kdu) (nI j)) := fun d e hd post hp => hx _ (br_f n1 ⟨ar_in, by rw [kc, e]; exact br_t (ar_le (b := 1000000) hd) ⟨ar_in, hp⟩⟩)
    have XB2 : ∀ d, nxt j = nI d → 1000000 < d → d ≤ 1100000 → (∀ post : Int32 → Prop, post (-2) → wpX_exists (fun r_1 => (((r_1 = 0 → (post (-1))) ∧ (¬ r_1 = 0 → (vp_in (nI j) 12 ∧ ((((nxt (nI j).toNatClampNeg) ≤ 1000000 → (vp_in (nI j) 12 ∧ (post (nxt (nI j).toNatClampNeg)))) ∧ (¬ (nxt (nI j).toNatClampNeg) ≤ 1000000 → (post (-2)))))))))) ((nI W), (nI t), st, (nI rs), nd, np, no, nm, made, kin, dur, pri, ovl, mis, per, mnt, hrs, day, mon, wkd, nxt, sta, los, msd, mss, wai, req, bsy, wjb, wen, kjb, kst, kdu) (nI j)) := fun d e hd hd2 post hp => hx _ (br_f n1 ⟨ar_in, by rw [kc, e]; exact br_f (ar_nle (b := 1000000) hd) hp⟩)
    have XC : nxt j = -2 → (∀ post : Int32 → Prop, post (-2) → wpX_exists (fun r_1 => (((r_1 = 0 → (post (-1))) ∧ (¬ r_1 = 0 → (vp_in (nI j) 12 ∧ ((((nxt (nI j).toNatClampNeg) ≤ 1000000 → (vp_in (nI j) 12 ∧ (post (nxt (nI j).toNatClampNeg)))) ∧ (¬ (nxt (nI j).toNatClampNeg) ≤ 1000000 → (post (-2)))))))))) ((nI W), (nI t), st, (nI rs), nd, np, no, nm, made, kin, dur, pri, ovl, mis, per, mnt, hrs, day, mon, wkd, nxt, sta, los, msd, mss, wai, req, bsy, wjb, wen, kjb, kst, kdu) (nI j)) := fun e post hp => hx _ (br_f n1 ⟨ar_in, by rw [kc, e]; exact br_t (by decide) ⟨ar_in, hp⟩⟩)
    rcases hJ j hj with ⟨g, _⟩ | ⟨_, _, _, _, _, _, _, g⟩
    · exact absurd g hm
    · have plain : ¬ knd j = 3 → rl_n (t + 1) (nxt j) (nex j) → ∃ r, (∀ post : Int32 → Prop, post r → wpX_exists (fun r_1 => (((r_1 = 0 → (post (-1))) ∧ (¬ r_1 = 0 → (vp_in (nI j) 12 ∧ ((((nxt (nI j).toNatClampNeg) ≤ 1000000 → (vp_in (nI j) 12 ∧ (post (nxt (nI j).toNatClampNeg)))) ∧ (¬ (nxt (nI j).toNatClampNeg) ≤ 1000000 → (post (-2)))))))))) ((nI W), (nI t), st, (nI rs), nd, np, no, nm, made, kin, dur, pri, ovl, mis, per, mnt, hrs, day, mon, wkd, nxt, sta, los, msd, mss, wai, req, bsy, wjb, wen, kjb, kst, kdu) (nI j)) ∧ (∀ post : Int32 → SY → Prop, (∀ fld', post r ((nI W), (nI t), (nI rs), st, nd, np, no, nm, ask, knd, dur, pri, ovl, mis, nex, prd, sets, sta, los, msd, mnw, wai, wdu, doi, ens, his, fld')) → wpY_due post ((nI W), (nI t), (nI rs), st, nd, np, no, nm, ask, knd, dur, pri, ovl, mis, nex, prd, sets, sta, los, msd, mnw, wai, wdu, doi, ens, his, fld) (nI j)) := by
        intro k3 hn
        have YA : ∀ post : Int32 → SY → Prop, (vp_in (nI j) 12 ∧ ((((nex (nI j).toNatClampNeg) ≤ (nI t) → (post (-2) ((nI W), (nI t), (nI rs), st, nd, np, no, nm, ask, knd, dur, pri, ovl, mis, nex, prd, sets, sta, los, msd, mnw, wai, wdu, doi, ens, his, fld))) ∧ (¬ (nex (nI j).toNatClampNeg) ≤ (nI t) → (vp_in (nI j) 12 ∧ (((1000000 < (nex (nI j).toNatClampNeg) → (post (-2) ((nI W), (nI t), (nI rs), st, nd, np, no, nm, ask, knd, dur, pri, ovl, mis, nex, prd, sets, sta, los, msd, mnw, wai, wdu, doi, ens, his, fld))) ∧ (¬ 1000000 < (nex (nI j).toNatClampNeg) → (vp_in (nI j) 12 ∧ (post (nex (nI j).toNatClampNeg) ((nI W), (nI t), (nI rs), st, nd, np, no, nm, ask, knd, dur, pri, ovl, mis, nex, prd, sets, sta, los, msd, mnw, wai, wdu, doi, ens, his, fld))))))))))) → wpY_due post ((nI W), (nI t), (nI rs), st, nd, np, no, nm, ask, knd, dur, pri, ovl, mis, nex, prd, sets, sta, los, msd, mnw, wai, wdu, doi, ens, his, fld) (nI j) := by
          intro post hh
          unfold wpY_due
          dsimp only
          exact hy _ (br_f n1 ⟨ar_in, br_f (ar_n k3) hh⟩)
        rcases hn with ⟨e1, e2⟩ | ⟨d, e1, e2, h1, h2⟩
        · refine ⟨-2, XC e1, fun post hp => YA post ⟨ar_in, br_t ?_ (hp fld)⟩⟩
          rw [kc, e2]
          exact Int32.le_trans (by decide) (nI_pos' (by omega))
        · by_cases hd : d ≤ 1000000
          · refine ⟨nI d, XA d e1 hd, fun post hp => YA post ⟨ar_in, ?_⟩⟩
            rw [kc, e2]
            exact br_f (ar_nle (by omega)) ⟨ar_in, br_f (ar_nlt (b := d) (a := 1000000) hd) ⟨ar_in, hp fld⟩⟩
          · refine ⟨-2, XB2 d e1 (by omega) h2, fun post hp => YA post ⟨ar_in, ?_⟩⟩
            rw [kc, e2]
            exact br_f (ar_nle (by omega)) ⟨ar_in, br_t (ar_lt (a := 1000000) (by omega)) (hp fld)⟩
      unfold wpY_due at plain
      dsimp only at plain
      rcases g with ⟨g, gn⟩ | ⟨g, gn, _⟩ | ⟨g, ⟨q0, q1, q2, q3, q4⟩, gc⟩
      · exact plain (by rw [g]; decide) gn
      · exact plain (by rcases g with g | g <;> rw [g] <;> decide) gn
      · have YC : ∀ post : Int32 → SY → Prop, (∃ n63 : Nat, wY_due_63 post (nI j) n63 (nI (t + 1)) (nI W) (nI t) (nI rs) st nd np no nm ask knd dur pri ovl mis nex prd sets sta los msd mnw wai wdu doi ens his fld) → wpY_due post ((nI W), (nI t), (nI rs), st, nd, np, no, nm, ask, knd, dur, pri, ovl, mis, nex, prd, sets, sta, los, msd, mnw, wai, wdu, doi, ens, his, fld) (nI j) := by
          intro post hh
          unfold wpY_due
          dsimp only
          exact hy _ (br_f n1 ⟨ar_in, br_t (ar_c g) (nm_r (nI_1 t) hh)⟩)
        unfold wpY_due at YC
        dsimp only at YC
        rw [q0, q1, q2, q3, q4] at gc
        rcases gc with ⟨e1, hn⟩ | ⟨d, e1, h1, h2, hf, hn⟩
        · exact ⟨-2, XC e1, fun post hp => YC post (yc_due63 _ _ _ _ _ _ _ _ _ _ _ _ _ _ _ _ _ _ _ _ _ _ _ _ _ _ _ j (t + 1) hj (by omega) post (fun s fld' g1 g2 g3 _ => absurd g3 (hn s g1)) (fun fld' _ => hp fld'))⟩
        · by_cases hd : d ≤ 1000000
          · refine ⟨nI d, XA d e1 hd, fun post hp => YC post (yc_due63 _ _ _ _ _ _ _ _ _ _ _ _ _ _ _ _ _ _ _ _ _ _ _ _ _ _ _ j (t + 1) hj (by omega) post (fun s fld' g1 g2 g3 g4 => ?_) (fun fld' z => absurd hf (z d h1 hd)))⟩
            have : s = d := by
              rcases Nat.lt_trichotomy s d with c | c | c
              · exact absurd g3 (hn s g1 c)
              · exact c
              · exact absurd hf (g4 d h1 c)
            rw [this]
            exact hp fld'
          · exact ⟨-2, XB2 d e1 (by omega) h2, fun post hp => YC post (yc_due63 _ _ _ _ _ _ _ _ _ _ _ _ _ _ _ _ _ _ _ _ _ _ _ _ _ _ _ j (t + 1) hj (by omega) post (fun s fld' g1 g2 g3 _ => absurd g3 (hn s g1 (by omega))) (fun fld' _ => hp fld'))⟩
theorem i_vc_due {k : Nat} {u : SX} {v : SY} (I : i_Rel k u v) (hk : k + 6 ≤ 3073) (v1 : Int32) : wpX_due (fun r => wpY_due (fun r' v' => r' = r ∧ i_Rel (k + 6) u v') v v1) u v1 := by
  obtain ⟨W, t, rs, st, nd, np, no, nm, ask, made, kin, dur, pri, ovl, mis, per, mnt, hrs, day, mon, wkd, nxt, sta, los, msd, mss, wai, req, bsy, wjb, wen, kjb, kst, kdu, knd, nex, prd, sets, mnw, wdu, doi, ens, his, fld, rfl, rfl, h⟩ := I
  have h0 := rl_up W t rs st nd np no nm ask made kin dur pri ovl mis per mnt hrs day mon wkd nxt sta los msd mss wai req bsy wjb wen kjb kst kdu knd nex prd sets mnw wdu doi ens his fld (m := k + 6) (by omega) h
  obtain ⟨hW1, hW3, ht, hRs, hst, hnd, hnm, hJ, hK, hQ, hA, hH, hT⟩ := h
  obtain ⟨r, hx, hy⟩ := sm_due W t rs st nd np no nm ask made kin dur pri ovl mis per mnt hrs day mon wkd nxt sta los msd mss wai req bsy wjb wen kjb kst kdu knd nex prd sets mnw wdu doi ens his fld ht hJ v1
  refine hx _ (hy _ (fun fld' => ⟨rfl, ?_⟩))
  have h1 : rl_R (k + 6) W t rs st nd np no nm ask made kin dur pri ovl mis per mnt hrs day mon wkd nxt sta los msd mss wai req bsy wjb wen kjb kst kdu knd nex prd sets mnw wdu doi ens his fld' := h0
  exact rl_mk _ _ _ _ _ _ _ _ _ _ _ _ _ _ _ _ _ _ _ _ _ _ _ _ _ _ _ _ _ _ _ _ _ _ _ _ _ _ _ _ _ _ _ _ _ h1
