/-- how many a job asks for at go -/
def go_n (mi : Int32) (m : Nat) : Nat := if mi = 0 then 0 else if mi = 1 then (if m ≤ 1 then m else 1) else m
theorem xq_missed (W t rs : Nat) (st nd np no nm : Int32) (made kin dur pri ovl mis per mnt hrs day mon wkd nxt sta los msd mss wai req bsy wjb wen kjb kst kdu : Nat → Int32) (j m : Nat) (hj : j < 12) (hm : m ≤ 1000001) (em : mss j = nI m) (hmi : mis j = 0 ∨ mis j = 1 ∨ mis j = 2) (post : Int32 → SX → Prop) (h : ∃ n, wX_requestMissed_50 post (nI j) (nI (go_n (mis j) m)) n 0 (nI W) (nI t) st (nI rs) nd np no nm made kin dur pri ovl mis per mnt hrs day mon wkd nxt sta los msd (upd mss j 0) wai req bsy wjb wen kjb kst kdu) : wpX_requestMissed post ((nI W), (nI t), st, (nI rs), nd, np, no, nm, made, kin, dur, pri, ovl, mis, per, mnt, hrs, day, mon, wkd, nxt, sta, los, msd, mss, wai, req, bsy, wjb, wen, kjb, kst, kdu) (nI j) := by
  have hk : (nI j).toNatClampNeg = j := ar_k
  have e0 : mss (nI j).toNatClampNeg = nI m := ar_c em
  refine And.intro ar_in (nm_r e0 ⟨ar_in, nm_r ar_u ⟨ar_in, ?_⟩⟩)
  rw [hk]
  rcases hmi with e | e | e
  · have g : go_n (mis j) m = 0 := by rw [e]; rfl
    rw [g] at h
    exact br_f (by rw [e]; decide) ⟨ar_in, br_f (ar_n (by rw [e]; decide)) h⟩
  · refine br_t e (pk_le m 0 (fun z => ?_) (fun z => ?_))
    · have g : go_n (mis j) m = 0 := by rw [e, show m = 0 by omega]; rfl
      rw [g] at h
      exact ⟨ar_in, br_f (ar_n (by rw [e]; decide)) h⟩
    · have g : go_n (mis j) m = 1 := by
        unfold go_n
        rw [e, if_neg (by decide), if_pos rfl]
        by_cases z2 : m ≤ 1
        · rw [if_pos z2]; omega
        · rw [if_neg z2]
      rw [g] at h
      exact h
  · have g : go_n (mis j) m = m := by
      unfold go_n
      rw [e, if_neg (by decide), if_neg (by decide)]
    rw [g] at h
    exact br_f (by rw [e]; decide) ⟨ar_in, br_t (ar_c e) h⟩
theorem yq_go (W t rs : Nat) (st nd np no nm ask : Int32) (knd dur pri ovl mis nex prd sets sta los msd mnw wai wdu doi ens his fld : Nat → Int32) (j m N : Nat) (x1 : Int32) (hj : j < 12) (hm : m ≤ 1000001) (hk : ¬ knd j < 0) (em : mnw j = nI m) (hmi : mis j = 0 ∨ mis j = 1 ∨ mis j = 2) (post : Int32 → SY → Prop) (h : ∃ n, wY_go_80 post (wY_go_18 post N) (nI j) (nI (go_n (mis j) m)) n x1 0 (nI W) (nI t) (nI rs) st nd np no nm ask knd dur pri ovl mis nex prd sets sta los msd mnw wai wdu doi ens his fld) : wY_go_18 post (N + 1) x1 (nI j) (nI W) (nI t) (nI rs) st nd np no nm ask knd dur pri ovl mis nex prd sets sta los msd mnw wai wdu doi ens his fld := by
  have kj : (nI j).toNatClampNeg = j := ar_k
  have e0 : mnw (nI j).toNatClampNeg = nI m := ar_c em
  refine pk_le 12 j (fun z => absurd z (by omega)) (fun _ => ⟨ar_in, br_f (by rw [kj]; exact hk) ⟨ar_in, ?_⟩⟩)
  rcases hmi with e | e | e
  · have g : go_n (mis j) m = 0 := by rw [e]; rfl
    rw [g] at h
    exact br_t (ar_c e) h
  · refine br_f (ar_n (by rw [e]; decide)) ⟨ar_in, br_t (ar_c e) ⟨ar_in, pk_le m 1 (fun z => ?_) (fun z => ?_) e0⟩⟩
    · have g : go_n (mis j) m = m := by
        unfold go_n
        rw [e, if_neg (by decide), if_pos rfl, if_pos z]
      rw [g] at h
      exact ⟨ar_in, nm_r e0 h⟩
    · have g : go_n (mis j) m = 1 := by
        unfold go_n
        rw [e, if_neg (by decide), if_pos rfl, if_neg (by omega)]
      rw [g] at h
      exact h
  · have g : go_n (mis j) m = m := by
      unfold go_n
      rw [e, if_neg (by decide), if_neg (by decide)]
    rw [g] at h
    exact br_f (ar_n (by rw [e]; decide)) ⟨ar_in, br_f (ar_n (by rw [e]; decide)) ⟨ar_in, nm_r e0 h⟩⟩
theorem gl_add (W t rs : Nat) (st s1 nd np no nm : Int32) (made kin dur pri ovl mis per mnt hrs day mon wkd nxt sta los msd mss bsy wjb wen kjb kst kdu knd nex prd sets mnw mnw1 doi ens his fld : Nat → Int32) (b : Nat → Nat) (j y wn : Nat) (hj : j < 12) (hm : ¬ made j = 0) (hwn : wn ≤ 1000001) (hmn : mnw1 = upd mnw j 0) : ∀ d n, n + d = 3 → ∀ (c : Nat) (ask : Int32) (wai req wdu : Nat → Int32), st_H b W t rs s1 nd np no nm ask made kin dur pri ovl mis per mnt hrs day mon wkd nxt sta los msd mss wai req bsy wjb wen kjb kst kdu knd nex prd sets mnw1 wdu doi ens his fld → wai j = nI n → c + d ≤ 3 → ∃ (c' : Nat) (ask' : Int32) (wai' req' wdu' : Nat → Int32), st_H b W t rs s1 nd np no nm ask' made kin dur pri ovl mis per mnt hrs day mon wkd nxt sta los msd mss wai' req' bsy wjb wen kjb kst kdu knd nex prd sets mnw1 wdu' doi ens his fld ∧ c' ≤ c + d ∧ (∀ post : Int32 → SX → Prop, post (nI c') ((nI W), (nI t), st, (nI rs), nd, np, no, nm, made, kin, dur, pri, ovl, mis, per, mnt, hrs, day, mon, wkd, nxt, sta, los, msd, mss, wai', req', bsy, wjb, wen, kjb, kst, kdu) → wX_requestMissed_50 post (nI j) (nI wn) (d + 1) (nI c) (nI W) (nI t) st (nI rs) nd np no nm made kin dur pri ovl mis per mnt hrs day mon wkd nxt sta los msd mss wai req bsy wjb wen kjb kst kdu) ∧ (∀ (post : Int32 → SY → Prop) (J : Int32 → Int32 → Int32 → Int32 → Int32 → Int32 → Int32 → Int32 → Int32 → Int32 → Int32 → (Nat → Int32) → (Nat → Int32) → (Nat → Int32) → (Nat → Int32) → (Nat → Int32) → (Nat → Int32) → (Nat → Int32) → (Nat → Int32) → (Nat → Int32) → (Nat → Int32) → (Nat → Int32) → (Nat → Int32) → (Nat → Int32) → (Nat → Int32) → (Nat → Int32) → (Nat → Int32) → (Nat → Int32) → (Nat → Int32) → Prop), J (nI (y + c')) (nI (j + 1)) (nI W) (nI t) (nI rs) st nd np no nm ask' knd dur pri ovl mis nex prd sets sta los msd mnw1 wai' wdu' doi ens his fld → wY_go_80 post J (nI j) (nI wn) (d + 1) (nI (y + c)) (nI c) (nI W) (nI t) (nI rs) st nd np no nm ask knd dur pri ovl mis nex prd sets sta los msd mnw wai wdu doi ens his fld) := by
  have kj : (nI j).toNatClampNeg = j := ar_k
  have eu : upd mnw (nI j).toNatClampNeg 0 = mnw1 := by rw [kj, hmn]
  have n1 : ¬ (1 : Int32) = 0 := by decide
  intro d
  induction d with
  | zero =>
    intro n hn c ask wai req wdu h en hc
    have e3 : n = 3 := by omega
    refine ⟨c, ask, wai, req, wdu, h, by omega, fun post hp => pk_le wn c (fun _ => hp) (fun _ => xa_add _ _ _ _ _ _ _ _ _ _ _ _ _ _ _ _ _ _ _ _ _ _ _ _ _ _ _ _ _ _ _ _ _ j n hj en (by omega) _ (fun z => absurd z (by omega)) (fun _ => br_t rfl hp)), fun post J hp => pk_le wn c (fun _ => ⟨ar_in, nm_r eu (nm_r (nI_1 j) hp)⟩) (fun _ => ⟨ar_in, br_t ?_ ⟨ar_in, nm_r eu (nm_r (nI_1 j) hp)⟩⟩)⟩
    rw [kj, en]
    exact ar_le (a := 3) (by omega)
  | succ d ih =>
    intro n hn c ask wai req wdu h en hc
    by_cases hw : wn ≤ c
    · exact ⟨c, ask, wai, req, wdu, h, by omega, fun post hp => pk_le wn c (fun _ => hp) (fun z => absurd z (by omega)), fun post J hp => pk_le wn c (fun _ => ⟨ar_in, nm_r eu (nm_r (nI_1 j) hp)⟩) (fun z => absurd z (by omega))⟩
    · have h2 := aq_rel _ _ _ _ _ _ _ _ _ _ _ _ _ _ _ _ _ _ _ _ _ _ _ _ _ _ _ _ _ _ _ _ _ _ _ _ _ _ _ _ _ _ _ _ b h j n hj hm en (by omega) (nI t)
      have en2 : upd wai j (wai j + 1) j = nI (n + 1) := by rw [pk_us, en]; exact nI_1 n
      obtain ⟨c', ask', wai', req', wdu', q1, q2, q3, q4⟩ := ih (n + 1) (by omega) (c + 1) _ _ _ _ h2 en2 (by omega)
      refine ⟨c', ask', wai', req', wdu', q1, by omega, fun post hp => pk_le wn c (fun z => absurd z hw) (fun _ => xa_add _ _ _ _ _ _ _ _ _ _ _ _ _ _ _ _ _ _ _ _ _ _ _ _ _ _ _ _ _ _ _ _ _ j n hj en (by omega) _ (fun _ => br_f n1 (nm_r (nI_1 c) (q3 post hp))) (fun z => absurd z (by omega))), fun post J hp => pk_le wn c (fun z => absurd z hw) (fun _ => ⟨ar_in, br_f ?_ (ya_ask _ _ _ _ _ _ _ _ _ _ _ _ _ _ _ _ _ _ _ _ _ _ _ _ _ _ _ j n hj en (by omega) _ (nm_r (nI_1 (y + c)) (nm_r (nI_1 c) (q4 post J hp))))⟩)⟩
      rw [kj, en]
      exact ar_nle (a := 3) (by omega)
theorem gl_st (W t rs : Nat) (st nd np no nm ask : Int32) (made kin dur pri ovl mis per mnt hrs day mon wkd nxt sta los msd mss wai req bsy wjb wen kjb kst kdu knd nex prd sets mnw wdu doi ens his fld : Nat → Int32) (b : Nat → Nat) (h : st_H b W t rs 1 nd np no nm ask made kin dur pri ovl mis per mnt hrs day mon wkd nxt sta los msd mss wai req bsy wjb wen kjb kst kdu knd nex prd sets mnw wdu doi ens his fld) (hz : ∀ p, p < 12 → ¬ made p = 0 → mnw p = 0) : st_H b W t rs 0 nd np no nm ask made kin dur pri ovl mis per mnt hrs day mon wkd nxt sta los msd mss wai req bsy wjb wen kjb kst kdu knd nex prd sets mnw wdu doi ens his fld := by
  obtain ⟨hJ, h⟩ := h
  refine ⟨?_, h⟩
  intro j hj
  rcases hJ j hj with g | ⟨g1, g2, g3, g4, g5, g6⟩
  · exact Or.inl g
  · exact Or.inr ⟨g1, g2, g3, g4, fun _ => hz j hj (by rw [g1]; decide), g6⟩
theorem gl_loop (W t rs : Nat) (nd np no nm : Int32) (made kin dur pri ovl mis per mnt hrs day mon wkd nxt sta los msd bsy wjb wen kjb kst kdu knd nex prd sets doi ens his fld : Nat → Int32) (hW : W ≤ 3) (ht : t ≤ 1000000) (hr : rs ≤ 9999997) : ∀ d i, i + d = 12 → ∀ (y : Nat) (ask : Int32) (wai req mss wdu mnw : Nat → Int32), st_H (fun _ => t + 1) W t rs 1 nd np no nm ask made kin dur pri ovl mis per mnt hrs day mon wkd nxt sta los msd mss wai req bsy wjb wen kjb kst kdu knd nex prd sets mnw wdu doi ens his fld → (∀ p, p < i → ¬ made p = 0 → mnw p = 0) → y ≤ 3 * i → ∃ (y' : Nat) (mss' mnw' : Nat → Int32) (rs' : Nat) (ask' : Int32) (sta' wai' req' bsy' wjb' wen' kjb' kst' kdu' wdu' doi' ens' his' : Nat → Int32), st_H (fun _ => t + 1) W t rs' 0 nd np no nm ask' made kin dur pri ovl mis per mnt hrs day mon wkd nxt sta' los msd mss' wai' req' bsy' wjb' wen' kjb' kst' kdu' knd nex prd sets mnw' wdu' doi' ens' his' fld ∧ rs' ≤ rs + 3 ∧ (∀ post : Int32 → SX → Prop, post (nI y') ((nI W), (nI t), 0, (nI rs'), nd, np, no, nm, made, kin, dur, pri, ovl, mis, per, mnt, hrs, day, mon, wkd, nxt, sta', los, msd, mss', wai', req', bsy', wjb', wen', kjb', kst', kdu') → wX_go_18 post (d + 1) (nI y) (nI i) (nI W) (nI t) 0 (nI rs) nd np no nm made kin dur pri ovl mis per mnt hrs day mon wkd nxt sta los msd mss wai req bsy wjb wen kjb kst kdu) ∧ (∀ post : Int32 → SY → Prop, post (nI y') ((nI W), (nI t), (nI rs'), 0, nd, np, no, nm, ask', knd, dur, pri, ovl, mis, nex, prd, sets, sta', los, msd, mnw', wai', wdu', doi', ens', his', fld) → wY_go_18 post (d + 1) (nI y) (nI i) (nI W) (nI t) (nI rs) 0 nd np no nm ask knd dur pri ovl mis nex prd sets sta los msd mnw wai wdu doi ens his fld) := by
  intro d
  induction d with
  | zero =>
    intro i hi y ask wai req mss wdu mnw h hz hy
    have h0 := gl_st _ _ _ 0 _ _ _ _ _ _ _ _ _ _ _ _ _ _ _ _ _ _ _ _ _ _ _ _ _ _ _ _ _ _ _ _ _ _ _ _ _ _ _ _ _ h (fun p hp => hz p (by omega))
    obtain ⟨rs', ask', sta', wai', req', bsy', wjb', wen', kjb', kst', kdu', wdu', doi', ens', his', q1, q2, q3, q4, q5⟩ := sm_start _ _ _ _ _ _ _ _ _ _ _ _ _ _ _ _ _ _ _ _ _ _ _ _ _ _ _ _ _ _ _ _ _ _ _ _ _ _ _ _ _ _ _ _ _ hW ht (Or.inl rfl) h0 hr
    exact ⟨y, mss, mnw, rs', ask', sta', wai', req', bsy', wjb', wen', kjb', kst', kdu', wdu', doi', ens', his', q1, q2, fun post hp => pk_le 12 i (fun _ => q4 _ hp) (fun z => absurd z (by omega)), fun post hp => pk_le 12 i (fun _ => q5 _ hp) (fun z => absurd z (by omega))⟩
  | succ d ih =>
    intro i hi y ask wai req mss wdu mnw h hz hy
    obtain ⟨hJ, hK, hQ, hA, hH, hT⟩ := id h
    have kj : (nI i).toNatClampNeg = i := ar_k
    have eu : upd mnw (nI i).toNatClampNeg 0 = upd mnw i 0 := by rw [kj]
    by_cases hm : made i = 0
    · have hkn : knd (nI i).toNatClampNeg < 0 := by rw [kj, (rl_m0 (hJ i (by omega)) hm).1]; decide
      have h2 : st_H (fun _ => t + 1) W t rs 1 nd np no nm ask made kin dur pri ovl mis per mnt hrs day mon wkd nxt sta los msd mss wai req bsy wjb wen kjb kst kdu knd nex prd sets (upd mnw i 0) wdu doi ens his fld := by
        refine ⟨?_, hK, hQ, hA, hH, hT⟩
        intro p hp
        by_cases e : p = i
        · subst e
          obtain ⟨a, c⟩ := rl_m0 (hJ p hp) hm
          exact Or.inl ⟨hm, a, c⟩
        · rw [pk_un e]
          exact hJ p hp
      have hz2 : ∀ p, p < i + 1 → ¬ made p = 0 → upd mnw i 0 p = 0 := by
        refine lt_s (fun p hp hmp => ?_) (fun _ => pk_us)
        rw [pk_un (by omega)]
        exact hz p hp hmp
      obtain ⟨y', mss', mnw', rs', ask', sta', wai', req', bsy', wjb', wen', kjb', kst', kdu', wdu', doi', ens', his', q1, q2, q3, q4⟩ := ih (i + 1) (by omega) y ask wai req mss wdu _ h2 hz2 (by omega)
      exact ⟨y', mss', mnw', rs', ask', sta', wai', req', bsy', wjb', wen', kjb', kst', kdu', wdu', doi', ens', his', q1, q2, fun post hp => pk_le 12 i (fun z => absurd z (by omega)) (fun _ => ⟨ar_in, br_t (ar_c hm) (nm_r (nI_1 i) (q3 post hp))⟩), fun post hp => pk_le 12 i (fun z => absurd z (by omega)) (fun _ => ⟨ar_in, br_t hkn ⟨1, pk_le 0 0 (fun _ => ⟨ar_in, nm_r eu (nm_r (nI_1 i) (q4 post hp))⟩) (fun z => absurd z (by omega))⟩⟩)⟩
    · obtain ⟨n, en, hn, _⟩ := hQ i (by omega)
      have hkn := rl_m1 (hJ i (by omega)) hm
      have hj2 : mss i = mnw i ∧ (∃ m, mnw i = nI m ∧ m ≤ 1000000) ∧ (mis i = 0 ∨ mis i = 1 ∨ mis i = 2) := by
        rcases hJ i (by omega) with ⟨g, _⟩ | ⟨_, _, g3, ⟨m, g4, g5⟩, _, g6, _⟩
        · exact absurd g hm
        · have g5' : m + 1 ≤ t + 1 := g5
          exact ⟨g3, ⟨m, g4, by omega⟩, g6⟩
      obtain ⟨e1, ⟨m, e2, e3⟩, e4⟩ := hj2
      have h2 : st_H (fun _ => t + 1) W t rs 1 nd np no nm ask made kin dur pri ovl mis per mnt hrs day mon wkd nxt sta los msd (upd mss i 0) wai req bsy wjb wen kjb kst kdu knd nex prd sets (upd mnw i 0) wdu doi ens his fld := by
        refine ⟨?_, hK, hQ, hA, hH, hT⟩
        intro p hp
        by_cases e : p = i
        · subst e
          rcases hJ p hp with ⟨g, _⟩ | ⟨g1, g2, g3, g4, g5, g6⟩
          · exact absurd g hm
          · exact Or.inr ⟨g1, g2, by rw [pk_us, pk_us], ⟨0, pk_us, by omega⟩, fun _ => pk_us, g6⟩
        · rw [pk_un e, pk_un e]
          exact hJ p hp
      have hz2 : ∀ p, p < i + 1 → ¬ made p = 0 → upd mnw i 0 p = 0 := by
        refine lt_s (fun p hp hmp => ?_) (fun _ => pk_us)
        rw [pk_un (by omega)]
        exact hz p hp hmp
      have gn : go_n (mis i) m ≤ 1000001 := by
        unfold go_n
        by_cases z : mis i = 0
        · rw [if_pos z]; omega
        · rw [if_neg z]
          by_cases z1 : mis i = 1
          · rw [if_pos z1]
            by_cases z2 : m ≤ 1
            · rw [if_pos z2]; omega
            · rw [if_neg z2]; omega
          · rw [if_neg z1]; omega
      obtain ⟨c', ask1, wai1, req1, wdu1, h3, hc, gx, gy⟩ := gl_add W t rs 0 1 nd np no nm made kin dur pri ovl mis per mnt hrs day mon wkd nxt sta los msd (upd mss i 0) bsy wjb wen kjb kst kdu knd nex prd sets mnw (upd mnw i 0) doi ens his fld (fun _ => t + 1) i y (go_n (mis i) m) (by omega) hm gn rfl (3 - n) n (by omega) 0 ask wai req wdu h2 en (by omega)
      obtain ⟨y', mss', mnw', rs', ask', sta', wai', req', bsy', wjb', wen', kjb', kst', kdu', wdu', doi', ens', his', q1, q2, q3, q4⟩ := ih (i + 1) (by omega) (y + c') ask1 wai1 req1 _ wdu1 _ h3 hz2 (by omega)
      exact ⟨y', mss', mnw', rs', ask', sta', wai', req', bsy', wjb', wen', kjb', kst', kdu', wdu', doi', ens', his', q1, q2, fun post hp => pk_le 12 i (fun z => absurd z (by omega)) (fun _ => ⟨ar_in, br_f (ar_n hm) (xq_missed _ _ _ _ _ _ _ _ _ _ _ _ _ _ _ _ _ _ _ _ _ _ _ _ _ _ _ _ _ _ _ _ _ i m (by omega) (by omega) (by rw [e1]; exact e2) e4 _ ⟨_, gx _ (nm_r (nI_add y c') (nm_r (nI_1 i) (q3 post hp)))⟩)⟩), fun post hp => yq_go _ _ _ _ _ _ _ _ _ _ _ _ _ _ _ _ _ _ _ _ _ _ _ _ _ _ _ i m (d + 1) _ (by omega) (by omega) hkn e2 e4 post ⟨_, gy post (wY_go_18 post (d + 1)) (q4 post hp)⟩⟩
theorem i_vc_go {k : Nat} {u : SX} {v : SY} (I : i_Rel k u v) (hk : k + 6 ≤ 3073) : wpX_go (fun r u' => wpY_go (fun r' v' => r' = r ∧ i_Rel (k + 6) u' v') v) u := by
  obtain ⟨W, t, rs, st, nd, np, no, nm, ask, made, kin, dur, pri, ovl, mis, per, mnt, hrs, day, mon, wkd, nxt, sta, los, msd, mss, wai, req, bsy, wjb, wen, kjb, kst, kdu, knd, nex, prd, sets, mnw, wdu, doi, ens, his, fld, rfl, rfl, h⟩ := I
  have h0 := rl_up W t rs st nd np no nm ask made kin dur pri ovl mis per mnt hrs day mon wkd nxt sta los msd mss wai req bsy wjb wen kjb kst kdu knd nex prd sets mnw wdu doi ens his fld (m := k + 6) (by omega) h
  have h' := rl_mk W t rs st nd np no nm ask made kin dur pri ovl mis per mnt hrs day mon wkd nxt sta los msd mss wai req bsy wjb wen kjb kst kdu knd nex prd sets mnw wdu doi ens his fld _ h0
  obtain ⟨hW1, hW3, ht, hRs, hst, hnd, hnm, hS⟩ := h
  rcases hst with rfl | rfl
  · exact br_t rfl (br_t rfl ⟨rfl, h'⟩)
  · have n1 : ¬ (1 : Int32) = 0 := by decide
    obtain ⟨y', mss', mnw', rs', ask', sta', wai', req', bsy', wjb', wen', kjb', kst', kdu', wdu', doi', ens', his', q1, q2, q3, q4⟩ := gl_loop W t rs nd np no nm made kin dur pri ovl mis per mnt hrs day mon wkd nxt sta los msd bsy wjb wen kjb kst kdu knd nex prd sets doi ens his fld hW3 ht (by omega) 12 0 (by omega) 0 ask wai req mss wdu mnw hS (fun p hp => absurd hp (by omega)) (by omega)
    have fr : rl_R (k + 6) W t rs' 0 nd np no nm ask' made kin dur pri ovl mis per mnt hrs day mon wkd nxt sta' los msd mss' wai' req' bsy' wjb' wen' kjb' kst' kdu' knd nex prd sets mnw' wdu' doi' ens' his' fld := ⟨hW1, hW3, ht, by omega, Or.inl rfl, hnd, hnm, q1⟩
    have fin := rl_mk _ _ _ _ _ _ _ _ _ _ _ _ _ _ _ _ _ _ _ _ _ _ _ _ _ _ _ _ _ _ _ _ _ _ _ _ _ _ _ _ _ _ _ _ _ fr
    exact br_f n1 ⟨13, q3 _ (br_f n1 ⟨13, q4 _ ⟨rfl, fin⟩⟩)⟩
