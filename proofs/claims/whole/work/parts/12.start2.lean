theorem hs_3 (a : Nat → Int32) (x y z : Int32) (m : Nat) (m1 : 3 ≤ m) (m2 : m < 48) : hs_f a x y z m = a (m - 3) := by
  unfold hs_f
  rw [if_neg (by omega), if_neg (by omega), if_neg (by omega), if_pos m2]
def st_H (b : Nat → Nat) (W t rs : Nat) (st nd np no nm ask : Int32) (made kin dur pri ovl mis per mnt hrs day mon wkd nxt sta los msd mss wai req bsy wjb wen kjb kst kdu knd nex prd sets mnw wdu doi ens his fld : Nat → Int32) : Prop := rl_J b st made kin mis dur per mnt hrs day mon wkd nxt mss knd nex prd sets mnw wai ∧ rl_W 3 t W bsy wjb wen doi ens ∧ rl_Q wai req wdu ∧ ask = rl_S wai 12 ∧ rl_H rs kjb kst kdu his ∧ rl_T rs sta
theorem rl_jw {b : Nat} {st ma ki mi du pe mt hr dy mo wd nx ms kn ne pr s0 s1 s2 s3 s4 mn wa : Int32} (h : rl_j b st ma ki mi du pe mt hr dy mo wd nx ms kn ne pr s0 s1 s2 s3 s4 mn wa) (e : ¬ wa = 0) (wa' : Int32) : (∃ d, du = nI d ∧ 1 ≤ d ∧ d ≤ 200) ∧ rl_j b st ma ki mi du pe mt hr dy mo wd nx ms kn ne pr s0 s1 s2 s3 s4 mn wa' := by
  rcases h with ⟨_, _, h⟩ | h
  · exact absurd h e
  · exact ⟨h.2.2.2.2.2.2.1, Or.inr h⟩
theorem st_rel (W t rs : Nat) (st nd np no nm ask : Int32) (made kin dur pri ovl mis per mnt hrs day mon wkd nxt sta los msd mss wai req bsy wjb wen kjb kst kdu knd nex prd sets mnw wdu doi ens his fld : Nat → Int32) (b : Nat → Nat) (hW : W ≤ 3) (ht : t ≤ 1000000) (h : st_H b W t rs st nd np no nm ask made kin dur pri ovl mis per mnt hrs day mon wkd nxt sta los msd mss wai req bsy wjb wen kjb kst kdu knd nex prd sets mnw wdu doi ens his fld) (w j n dd : Nat) (hw : w < W) (hj : j < 12) (hbw : bsy w = 0) (en : wai j = nI (n + 1)) (hn : n + 1 ≤ 3) (hdd : dur j = nI dd) (hd1 : 1 ≤ dd) (hd2 : dd ≤ 200) (req' wdu' his' : Nat → Int32) (r1 : ∀ q, q < 2 → req' (3 * j + q) = req (3 * j + q + 1)) (r2 : ∀ p, (p < 3 * j ∨ 3 * j + 3 ≤ p) → req' p = req p) (w1 : ∀ q, q < n → wdu' (3 * j + q) = wdu (3 * j + q + 1)) (w2 : ∀ p, (p < 3 * j ∨ 3 * j + n ≤ p) → wdu' p = wdu p) (s0 : his' 0 = nI j) (s1 : his' 1 = nI t) (s2 : his' 2 = wdu (3 * j)) (s3 : ∀ m, 3 ≤ m → m < 48 → his' m = his (m - 3)) : st_H b W t (rs + 1) st nd np no nm (ask - 1) made kin dur pri ovl mis per mnt hrs day mon wkd nxt (upd sta j (sta j + 1)) los msd mss (upd wai j (wai j - 1)) req' (upd bsy w 1) (upd wjb w (nI j)) (upd wen w (nI (t + dd))) (upd kjb (rs % 16) (nI j)) (upd kst (rs % 16) (nI t)) (upd kdu (rs % 16) (req (3 * j))) knd nex prd sets mnw wdu' (upd doi w (nI j)) (upd ens w (nI (t + dd))) his' fld := by
  obtain ⟨hJ, hK, hQ, hA, hH, hT⟩ := h
  have ew : wai j - 1 = nI n := by rw [en]; exact nI_pred n
  refine ⟨?_, ?_, ?_, ?_, ?_, ?_⟩
  · intro i hi
    by_cases e : i = j
    · subst e
      exact (rl_jw (hJ i hi) (by rw [en]; exact nI_ne0 (by omega) (by omega)) _).2
    · rw [pk_un e]
      exact hJ i hi
  · intro i hi
    by_cases e : i = w
    · subst e
      exact Or.inr ⟨pk_us, hw, ⟨t + dd, pk_us, pk_us, by omega, fun _ => by omega, by omega, by omega⟩, by rw [pk_us, pk_us], Or.inr ⟨j, hj, pk_us⟩⟩
    · simp only [pk_un e]
      exact hK i hi
  · intro i hi
    by_cases e : i = j
    · subst e
      rw [pk_us, ew]
      refine ⟨n, rfl, by omega, fun q hq => ?_⟩
      obtain ⟨m, em, _, hq2⟩ := hQ i hi
      rw [en] at em
      have := ar_eq em
      rw [r1 q (by omega), w1 q hq]
      exact hq2 (q + 1) (by omega)
    · rw [pk_un e]
      obtain ⟨m, em, hm, hq2⟩ := hQ i hi
      refine ⟨m, em, hm, fun q hq => ?_⟩
      rw [r2 _ (by omega), w2 _ (by omega)]
      exact hq2 q hq
  · rw [rl_Su, if_pos hj, hA]
    grind
  · intro k hk hk2
    have e1 : rs + 1 - 1 - k = rs - k := by omega
    rw [e1]
    rcases Nat.eq_zero_or_pos k with rfl | hk0
    · rw [show (rs - 0) % 16 = rs % 16 by rw [Nat.sub_zero], pk_us, pk_us, pk_us]
      refine ⟨s0, s1, ?_⟩
      obtain ⟨m, em, _, hq2⟩ := hQ j hj
      rw [en] at em
      have := ar_eq em
      show his' 2 = _
      rw [s2]
      exact (hq2 0 (by omega)).symm
    · obtain ⟨g0, g1, g2⟩ := hH (k - 1) (by omega) (by omega)
      have ne : (rs - k) % 16 ≠ rs % 16 := by omega
      have e2 : rs - 1 - (k - 1) = rs - k := by omega
      rw [e2] at g0 g1 g2
      rw [pk_un ne, pk_un ne, pk_un ne, s3 _ (by omega) (by omega), s3 _ (by omega) (by omega), s3 _ (by omega) (by omega), ← g0, ← g1, ← g2]
      exact ⟨congrArg his (by omega), congrArg his (by omega), congrArg his (by omega)⟩
  · intro i hi
    obtain ⟨m, em, hm⟩ := hT i hi
    by_cases e : i = j
    · subst e
      rw [pk_us, em]
      exact ⟨m + 1, nI_1 m, by omega⟩
    · rw [pk_un e]
      exact ⟨m, em, by omega⟩
theorem ys_step (W t rs : Nat) (st nd np no nm ask : Int32) (knd dur pri ovl mis nex prd sets sta los msd mnw wai wdu doi ens his fld : Nat → Int32) (hW : W ≤ 3) (w j n dd N : Nat) (hw : w < W) (hj : j < 12) (hb : ∀ i, i < w → ¬ ens i = 0) (he : ens w = 0) (hst : st = 0) (hask : ¬ ask ≤ 0) (en : wai j = nI (n + 1)) (hn : n ≤ 2) (hdd : dur j = nI dd) (hf : ∀ post : Int32 → Prop, post (nI j) → wpY_first post ((nI W), (nI t), (nI rs), st, nd, np, no, nm, ask, knd, dur, pri, ovl, mis, nex, prd, sets, sta, los, msd, mnw, wai, wdu, doi, ens, his, fld)) (post : SY → Prop) (h : wY_start_0 post N (nI W) (nI t) (nI (rs + 1)) st nd np no nm (ask - 1) knd dur pri ovl mis nex prd sets (upd sta j (sta j + 1)) los msd mnw (upd wai j (wai j - 1)) (sh_f wdu j n) (upd doi w (nI j)) (upd ens w (nI (t + dd))) (hs_f his (nI j) (nI t) (wdu (3 * j))) fld) : wY_start_0 post (N + 1) (nI W) (nI t) (nI rs) st nd np no nm ask knd dur pri ovl mis nex prd sets sta los msd mnw wai wdu doi ens his fld := by
  have k3 : (3 * nI j).toNatClampNeg = 3 * j := by rw [ar_3x]; exact ar_k
  have es : upd sta (nI j).toNatClampNeg (sta (nI j).toNatClampNeg + 1) = upd sta j (sta j + 1) := by rw [ar_k]
  have ew : upd wai (nI j).toNatClampNeg (wai (nI j).toNatClampNeg - 1) = upd wai j (wai j - 1) := by rw [ar_k]
  have ee : upd ens (nI w).toNatClampNeg (nI t + dur (nI j).toNatClampNeg) = upd ens w (nI (t + dd)) := by rw [ar_k, ar_k, hdd, nI_add]
  have en2 : upd wai j (wai j - 1) j = nI n := by rw [pk_us, en]; exact nI_pred n
  have pw : ¬ nI w < 0 := nI_pos (by omega)
  have pj : ¬ nI j < 0 := nI_pos (by omega)
  refine br_t hst (br_f hask (yf_free _ _ _ _ _ _ _ _ _ _ _ _ _ _ _ _ _ _ _ _ _ _ _ _ _ _ _ hW w hw hb he _ (br_f pw (hf _ (br_f pj (yf_free _ _ _ _ _ _ _ _ _ _ _ _ _ _ _ _ _ _ _ _ _ _ _ _ _ _ _ hW w hw hb he _ (hf _ ⟨ar_in, nm_r ar_u ⟨ar_in, ar_in, nm_r ee ⟨ar_in, ar_in, nm_r es ⟨by rw [ar_3x]; exact ar_in, ?_⟩⟩⟩⟩)))))))
  rw [k3]
  exact yn_note _ _ _ _ _ _ _ _ _ _ _ _ _ _ _ _ _ _ _ _ _ _ _ _ _ _ _ (nI j) (wdu (3 * j)) _ ⟨ar_in, ar_in, nm_r ew (nm_e (nm_r (ar_3x j) (yh_shift _ _ _ _ _ _ _ _ _ _ _ _ _ _ _ _ _ _ _ _ _ _ _ _ _ _ _ j n hj hn en2 post _ h)))⟩
theorem st_loop (W t : Nat) (st nd np no nm : Int32) (made kin dur pri ovl mis per mnt hrs day mon wkd nxt los msd mss : Nat → Int32) (knd nex prd sets mnw fld : Nat → Int32) (b : Nat → Nat) (hW : W ≤ 3) (ht : t ≤ 1000000) (hst : st = 0) : ∀ d w, w + d = W → ∀ (rs : Nat) (ask : Int32) (sta wai req bsy wjb wen kjb kst kdu wdu doi ens his : Nat → Int32), st_H b W t rs st nd np no nm ask made kin dur pri ovl mis per mnt hrs day mon wkd nxt sta los msd mss wai req bsy wjb wen kjb kst kdu knd nex prd sets mnw wdu doi ens his fld → (∀ i, i < w → ¬ bsy i = 0) → rs + d ≤ 10000000 → ∃ (rs' : Nat) (ask' : Int32) (sta' wai' req' bsy' wjb' wen' kjb' kst' kdu' wdu' doi' ens' his' : Nat → Int32), st_H b W t rs' st nd np no nm ask' made kin dur pri ovl mis per mnt hrs day mon wkd nxt sta' los msd mss wai' req' bsy' wjb' wen' kjb' kst' kdu' knd nex prd sets mnw wdu' doi' ens' his' fld ∧ rs' ≤ rs + d ∧ (∀ p, p < 12 → (sta' p = sta p ∧ wai' p = wai p) ∨ (¬ hp_P bsy wjb (nI p) ∧ sta' p = sta p + 1 ∧ wai' p = wai p - 1)) ∧  (∀ post : SX → Prop, post ((nI W), (nI t), st, (nI rs'), nd, np, no, nm, made, kin, dur, pri, ovl, mis, per, mnt, hrs, day, mon, wkd, nxt, sta', los, msd, mss, wai', req', bsy', wjb', wen', kjb', kst', kdu') → wX_startRuns_10 post (d + 1) (nI w) (nI W) (nI t) st (nI rs) nd np no nm made kin dur pri ovl mis per mnt hrs day mon wkd nxt sta los msd mss wai req bsy wjb wen kjb kst kdu) ∧ (∀ (post : SY → Prop) (n : Nat), d < n → post ((nI W), (nI t), (nI rs'), st, nd, np, no, nm, ask', knd, dur, pri, ovl, mis, nex, prd, sets, sta', los, msd, mnw, wai', wdu', doi', ens', his', fld) → wY_start_0 post n (nI W) (nI t) (nI rs) st nd np no nm ask knd dur pri ovl mis nex prd sets sta los msd mnw wai wdu doi ens his fld) := by
  intro d
  induction d with
  | zero =>
    intro w hwd rs ask sta wai req bsy wjb wen kjb kst kdu wdu doi ens his h hb hr
    refine ⟨rs, ask, sta, wai, req, bsy, wjb, wen, kjb, kst, kdu, wdu, doi, ens, his, h, by omega, fun p hp => Or.inl ⟨rfl, rfl⟩, fun post hp => pk_le W w (fun _ => hp) (fun z => absurd z (by omega)), fun post n hn hp => ?_⟩
    obtain ⟨N, rfl⟩ : ∃ N, n = N + 1 := ⟨n - 1, by omega⟩
    have hE : ∀ i, i < W → ¬ ens i = 0 := by
      intro i hi
      rcases h.2.1 i (by omega) with ⟨g, _⟩ | ⟨_, _, ⟨e, e1, _, _, _, e5, e6⟩, _⟩
      · exact absurd g (hb i (by omega))
      · rw [e1]; exact nI_ne0 (by omega) (by omega)
    exact br_t hst (br_c (fun _ => hp) (fun _ => yf_none _ _ _ _ _ _ _ _ _ _ _ _ _ _ _ _ _ _ _ _ _ _ _ _ _ _ _ hW hE _ (br_t (by decide) hp)))
  | succ d ih =>
    intro w hwd rs ask sta wai req bsy wjb wen kjb kst kdu wdu doi ens his h hb hr
    by_cases hbw : bsy w = 0
    · obtain ⟨hJ, hK, hQ, hA, hH, hT⟩ := id h
      have hE : ∀ i, i < w → ¬ ens i = 0 := by
        intro i hi
        rcases hK i (by omega) with ⟨g, _⟩ | ⟨_, _, ⟨e, e1, _, _, _, e5, e6⟩, _⟩
        · exact absurd g (hb i (by omega))
        · rw [e1]; exact nI_ne0 (by omega) (by omega)
      have hEw : ens w = 0 := by
        rcases hK w (by omega) with ⟨_, g⟩ | ⟨g, _⟩
        · exact g
        · rw [g] at hbw; exact absurd hbw (by decide)
      obtain ⟨r, hr2, gx, gy⟩ := sm_first W t rs st nd np no nm ask made kin dur pri ovl mis per mnt hrs day mon wkd nxt sta los msd mss wai req bsy wjb wen kjb kst kdu knd nex prd sets mnw wdu doi ens his fld hW hK hQ
      rcases hr2 with rfl | ⟨j, hj, rfl, hP, n, en, hn⟩
      · refine ⟨rs, ask, sta, wai, req, bsy, wjb, wen, kjb, kst, kdu, wdu, doi, ens, his, h, by omega, fun p hp => Or.inl ⟨rfl, rfl⟩, fun post hp => pk_le W w (fun z => absurd z (by omega)) (fun _ => ⟨ar_in, br_t (ar_c hbw) (gx _ (br_t rfl hp))⟩), fun post n hn hp => ?_⟩
        obtain ⟨N, rfl⟩ : ∃ N, n = N + 1 := ⟨n - 1, by omega⟩
        exact br_t hst (br_c (fun _ => hp) (fun _ => yf_free _ _ _ _ _ _ _ _ _ _ _ _ _ _ _ _ _ _ _ _ _ _ _ _ _ _ _ hW w (by omega) hE hEw _ (br_f (nI_pos (by omega)) (gy _ (br_t (by decide) hp)))))
      · have nw : ¬ wai j = 0 := by rw [en]; exact nI_ne0 (by omega) (by omega)
        obtain ⟨⟨dd, hdd, hd1, hd2⟩, _⟩ := rl_jw (hJ j hj) nw 0
        have hask : ¬ ask ≤ 0 := by
          obtain ⟨s, e1, e2, e3⟩ := rl_Sp hQ 12 (by omega)
          have := e3 j hj (n + 1) hn en
          rw [hA, e1]
          exact nI_nle (by omega) (by omega)
        have h2 := st_rel W t rs st nd np no nm ask made kin dur pri ovl mis per mnt hrs day mon wkd nxt sta los msd mss wai req bsy wjb wen kjb kst kdu knd nex prd sets mnw wdu doi ens his fld b hW ht h w j n dd (by omega) hj hbw en hn hdd hd1 hd2 (sh_f req j 2) (sh_f wdu j n) (hs_f his (nI j) (nI t) (wdu (3 * j))) (sh_1 req j 2) (fun p hp => sh_2 req j 2 p (by omega)) (sh_1 wdu j n) (sh_2 wdu j n) rfl rfl rfl (fun m m1 m2 => hs_3 his _ _ _ m m1 m2)
        have hb2 : ∀ i, i < w + 1 → ¬ upd bsy w 1 i = 0 := by
          refine lt_s (fun i hi => ?_) (by rw [pk_us]; decide)
          rw [pk_un (by omega)]
          exact hb i hi
        obtain ⟨rs', ask', sta', wai', req', bsy', wjb', wen', kjb', kst', kdu', wdu', doi', ens', his', q1, q2, q3, q4, q5⟩ := ih (w + 1) (by omega) _ _ _ _ _ _ _ _ _ _ _ _ _ _ _ h2 hb2 (by omega)
        refine ⟨rs', ask', sta', wai', req', bsy', wjb', wen', kjb', kst', kdu', wdu', doi', ens', his', q1, by omega, ?_, fun post hp => pk_le W w (fun z => absurd z (by omega)) (fun _ => ⟨ar_in, br_t (ar_c hbw) (gx _ (br_f ar_ne1 (xs_start _ _ _ _ _ _ _ _ _ _ _ _ _ _ _ _ _ _ _ _ _ _ _ _ _ _ _ _ _ _ _ _ _ w j dd (by omega) hj (by omega) hdd _ (nm_r (nI_1 w) (q4 post hp)))))⟩), fun post n2 hn2 hp => ?_⟩
        · intro p hp
          by_cases e : p = j
          · subst e
            have pp : hp_P (upd bsy w 1) (upd wjb w (nI p)) (nI p) := ⟨w, by omega, by rw [pk_us]; decide, pk_us⟩
            rcases q3 p hp with ⟨a, c⟩ | ⟨a, _⟩
            · rw [pk_us] at a c
              exact Or.inr ⟨hP, a, c⟩
            · exact absurd pp a
          · have pp : hp_P bsy wjb (nI p) → hp_P (upd bsy w 1) (upd wjb w (nI j)) (nI p) := by
              rintro ⟨i, hi, c1, c2⟩
              have ne : i ≠ w := fun z => c1 (by rw [z]; exact hbw)
              exact ⟨i, hi, by rw [pk_un ne]; exact c1, by rw [pk_un ne]; exact c2⟩
            rcases q3 p hp with ⟨a, c⟩ | ⟨a, c, f⟩
            · rw [pk_un e] at a c
              exact Or.inl ⟨a, c⟩
            · rw [pk_un e] at c f
              exact Or.inr ⟨fun z => a (pp z), c, f⟩
        · obtain ⟨N, rfl⟩ : ∃ N, n2 = N + 1 := ⟨n2 - 1, by omega⟩
          exact ys_step _ _ _ _ _ _ _ _ _ _ _ _ _ _ _ _ _ _ _ _ _ _ _ _ _ _ _ hW w j n dd N (by omega) hj hE hEw hst hask en (by omega) hdd gy post (q5 post N (by omega) hp)
    · obtain ⟨rs', ask', sta', wai', req', bsy', wjb', wen', kjb', kst', kdu', wdu', doi', ens', his', q1, q2, q3, q4, q5⟩ := ih (w + 1) (by omega) rs ask sta wai req bsy wjb wen kjb kst kdu wdu doi ens his h (lt_s hb hbw) (by omega)
      exact ⟨rs', ask', sta', wai', req', bsy', wjb', wen', kjb', kst', kdu', wdu', doi', ens', his', q1, by omega, q3, fun post hp => pk_le W w (fun z => absurd z (by omega)) (fun _ => ⟨ar_in, br_f (ar_n hbw) (nm_r (nI_1 w) (q4 post hp))⟩), fun post n hn hp => q5 post n (by omega) hp⟩
theorem sm_start (W t rs : Nat) (st nd np no nm ask : Int32) (made kin dur pri ovl mis per mnt hrs day mon wkd nxt sta los msd mss wai req bsy wjb wen kjb kst kdu knd nex prd sets mnw wdu doi ens his fld : Nat → Int32) (b : Nat → Nat) (hW : W ≤ 3) (ht : t ≤ 1000000) (hst : st = 0 ∨ st = 1) (h : st_H b W t rs st nd np no nm ask made kin dur pri ovl mis per mnt hrs day mon wkd nxt sta los msd mss wai req bsy wjb wen kjb kst kdu knd nex prd sets mnw wdu doi ens his fld) (hr : rs ≤ 9999997) : ∃ (rs' : Nat) (ask' : Int32) (sta' wai' req' bsy' wjb' wen' kjb' kst' kdu' wdu' doi' ens' his' : Nat → Int32), st_H b W t rs' st nd np no nm ask' made kin dur pri ovl mis per mnt hrs day mon wkd nxt sta' los msd mss wai' req' bsy' wjb' wen' kjb' kst' kdu' knd nex prd sets mnw wdu' doi' ens' his' fld ∧ rs' ≤ rs + 3 ∧ (∀ p, p < 12 → (sta' p = sta p ∧ wai' p = wai p) ∨ (¬ hp_P bsy wjb (nI p) ∧ sta' p = sta p + 1 ∧ wai' p = wai p - 1)) ∧  (∀ post : SX → Prop, post ((nI W), (nI t), st, (nI rs'), nd, np, no, nm, made, kin, dur, pri, ovl, mis, per, mnt, hrs, day, mon, wkd, nxt, sta', los, msd, mss, wai', req', bsy', wjb', wen', kjb', kst', kdu') → wpX_startRuns post ((nI W), (nI t), st, (nI rs), nd, np, no, nm, made, kin, dur, pri, ovl, mis, per, mnt, hrs, day, mon, wkd, nxt, sta, los, msd, mss, wai, req, bsy, wjb, wen, kjb, kst, kdu)) ∧ (∀ post : SY → Prop, post ((nI W), (nI t), (nI rs'), st, nd, np, no, nm, ask', knd, dur, pri, ovl, mis, nex, prd, sets, sta', los, msd, mnw, wai', wdu', doi', ens', his', fld) → wpY_start post ((nI W), (nI t), (nI rs), st, nd, np, no, nm, ask, knd, dur, pri, ovl, mis, nex, prd, sets, sta, los, msd, mnw, wai, wdu, doi, ens, his, fld)) := by
  rcases hst with e | e
  · obtain ⟨rs', ask', sta', wai', req', bsy', wjb', wen', kjb', kst', kdu', wdu', doi', ens', his', q1, q2, q3, q4, q5⟩ := st_loop W t st nd np no nm made kin dur pri ovl mis per mnt hrs day mon wkd nxt los msd mss knd nex prd sets mnw fld b hW ht e W 0 (by omega) rs ask sta wai req bsy wjb wen kjb kst kdu wdu doi ens his h (fun i hi => absurd hi (by omega)) (by omega)
    exact ⟨rs', ask', sta', wai', req', bsy', wjb', wen', kjb', kst', kdu', wdu', doi', ens', his', q1, by omega, q3, fun post hp => br_t e ⟨_, q4 post hp⟩, fun post hp => ⟨W + 1, q5 post _ (by omega) hp⟩⟩
  · have ne : ¬ st = 0 := by rw [e]; decide
    exact ⟨rs, ask, sta, wai, req, bsy, wjb, wen, kjb, kst, kdu, wdu, doi, ens, his, h, by omega, fun p hp => Or.inl ⟨rfl, rfl⟩, fun post hp => br_f ne hp, fun post hp => ⟨1, br_f ne hp⟩⟩
