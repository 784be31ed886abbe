theorem xg_before (W t rs : Nat) (st nd np no nm : Int32) (made kin dur pri ovl mis per mnt hrs day mon wkd nxt sta los msd mss wai req bsy wjb wen kjb kst kdu : Nat → Int32) (i j : Nat) (hi : i < 12) (hj : j < 12) (post : Int32 → Prop) (h1 : ((pri i = pri j ∧ ¬ req (3 * j) ≤ req (3 * i)) ∨ (¬ pri i = pri j ∧ ¬ pri i ≤ pri j)) → post 1) (h0 : ¬ ((pri i = pri j ∧ ¬ req (3 * j) ≤ req (3 * i)) ∨ (¬ pri i = pri j ∧ ¬ pri i ≤ pri j)) → post 0) : wpX_goesBefore post ((nI W), (nI t), st, (nI rs), nd, np, no, nm, made, kin, dur, pri, ovl, mis, per, mnt, hrs, day, mon, wkd, nxt, sta, los, msd, mss, wai, req, bsy, wjb, wen, kjb, kst, kdu) (nI i) (nI j) := by
  have ki : (nI i).toNatClampNeg = i := ar_k
  have kj : (nI j).toNatClampNeg = j := ar_k
  have k3i : (nI i * 3).toNatClampNeg = 3 * i := by rw [ar_x3]; exact ar_k
  have k3j : (nI j * 3).toNatClampNeg = 3 * j := by rw [ar_x3]; exact ar_k
  refine And.intro ar_in ⟨ar_in, br_c (fun a => ⟨by rw [ar_x3]; exact ar_in, by rw [ar_x3]; exact ar_in, br_c (fun b => h0 ?_) (fun b => h1 ?_)⟩) (fun a => ⟨ar_in, ar_in, br_c (fun b => h0 ?_) (fun b => h1 ?_)⟩)⟩
  · rw [ki, kj] at a; rw [k3i, k3j] at b
    exact fun z => z.elim (fun y => y.2 b) (fun y => y.1 a)
  · rw [ki, kj] at a; rw [k3i, k3j] at b
    exact Or.inl ⟨a, b⟩
  · rw [ki, kj] at a b
    exact fun z => z.elim (fun y => a y.1) (fun y => y.2 b)
  · rw [ki, kj] at a b
    exact Or.inr ⟨a, b⟩
theorem sm_first (W t rs : Nat) (st nd np no nm ask : Int32) (made kin dur pri ovl mis per mnt hrs day mon wkd nxt sta los msd mss wai req bsy wjb wen kjb kst kdu knd nex prd sets mnw wdu doi ens his fld : Nat → Int32) (hW : W ≤ 3) (hK : rl_W 3 t W bsy wjb wen doi ens) (hQ : rl_Q wai req wdu) : ∃ r, (r = -1 ∨ ∃ j, j < 12 ∧ r = nI j ∧ ¬ hp_P bsy wjb (nI j) ∧ ∃ n, wai j = nI (n + 1) ∧ n + 1 ≤ 3) ∧ (∀ post : Int32 → Prop, post r → wpX_nextJobToStart post ((nI W), (nI t), st, (nI rs), nd, np, no, nm, made, kin, dur, pri, ovl, mis, per, mnt, hrs, day, mon, wkd, nxt, sta, los, msd, mss, wai, req, bsy, wjb, wen, kjb, kst, kdu)) ∧ (∀ post : Int32 → Prop, post r → wpY_first post ((nI W), (nI t), (nI rs), st, nd, np, no, nm, ask, knd, dur, pri, ovl, mis, nex, prd, sets, sta, los, msd, mnw, wai, wdu, doi, ens, his, fld)) := by
  have n1 : ¬ (1 : Int32) = 0 := by decide
  have key : ∀ d i x, i + d = 12 → (x = -1 ∨ ∃ j, j < 12 ∧ x = nI j ∧ ¬ hp_P bsy wjb (nI j) ∧ ∃ n, wai j = nI (n + 1) ∧ n + 1 ≤ 3) → ∃ r, (r = -1 ∨ ∃ j, j < 12 ∧ r = nI j ∧ ¬ hp_P bsy wjb (nI j) ∧ ∃ n, wai j = nI (n + 1) ∧ n + 1 ≤ 3) ∧ (∀ post : Int32 → Prop, post r → wX_nextJobToStart_4 post (nI W) (nI t) st (nI rs) nd np no nm made kin dur pri ovl mis per mnt hrs day mon wkd nxt sta los msd mss wai req bsy wjb wen kjb kst kdu (d + 1) x (nI i)) ∧ (∀ post : Int32 → Prop, post r → wY_first_4 post (nI W) (nI t) (nI rs) st nd np no nm ask knd dur pri ovl mis nex prd sets sta los msd mnw wai wdu doi ens his fld (d + 1) x (nI i)) := by
    intro d
    induction d with
    | zero =>
      intro i x hi hx
      exact ⟨x, hx, fun post hp => pk_le 12 i (fun _ => hp) (fun z => absurd z (by omega)), fun post hp => pk_le 12 i (fun _ => hp) (fun z => absurd z (by omega))⟩
    | succ d ih =>
      intro i x hi hx
      have hk : (nI i).toNatClampNeg = i := ar_k
      obtain ⟨n, en, hn3, hq⟩ := hQ i (by omega)
      rcases Nat.eq_zero_or_pos n with rfl | hn
      · obtain ⟨r, hr, gx, gy⟩ := ih (i + 1) x (by omega) hx
        exact ⟨r, hr, fun post hp => pk_le 12 i (fun z => absurd z (by omega)) (fun _ => ⟨ar_in, br_t (by rw [hk, en]; decide) (nm_r (nI_1 i) (gx post hp))⟩), fun post hp => pk_le 12 i (fun z => absurd z (by omega)) (fun _ => ⟨ar_in, br_t (ar_c en) (nm_r (nI_1 i) (gy post hp))⟩)⟩
      · obtain ⟨q, rfl⟩ : ∃ q, n = q + 1 := ⟨n - 1, by omega⟩
        have w1 : ¬ wai (nI i).toNatClampNeg ≤ 0 := by rw [hk, en]; exact nI_nle (by omega) (by omega)
        have w2 : ¬ wai (nI i).toNatClampNeg = 0 := by rw [hk, en]; exact nI_ne0 (by omega) (by omega)
        by_cases hP : hp_P bsy wjb (nI i)
        · have hP2 := (rl_PQ hW hK (nI i)).mp hP
          obtain ⟨r, hr, gx, gy⟩ := ih (i + 1) x (by omega) hx
          exact ⟨r, hr, fun post hp => pk_le 12 i (fun z => absurd z (by omega)) (fun _ => ⟨ar_in, br_f w1 (xr_hasRun _ _ _ _ _ _ _ _ _ _ _ _ _ _ _ _ _ _ _ _ _ _ _ _ _ _ _ _ _ _ _ _ _ _ _ (fun _ => br_f n1 (nm_r (nI_1 i) (gx post hp))) (fun z => absurd hP z))⟩), fun post hp => pk_le 12 i (fun z => absurd z (by omega)) (fun _ => ⟨ar_in, br_f w2 (yr_isRunning _ _ _ _ _ _ _ _ _ _ _ _ _ _ _ _ _ _ _ _ _ _ _ _ _ _ _ hW _ _ (fun _ => br_f n1 (nm_r (nI_1 i) (gy post hp))) (fun z => absurd hP2 z))⟩)⟩
        · have hP2 : ¬ hp_Q W ens doi (nI i) := fun z => hP ((rl_PQ hW hK (nI i)).mpr z)
          have take : ∃ r, (r = -1 ∨ ∃ j, j < 12 ∧ r = nI j ∧ ¬ hp_P bsy wjb (nI j) ∧ ∃ n, wai j = nI (n + 1) ∧ n + 1 ≤ 3) ∧ (∀ post : Int32 → Prop, post r → wX_nextJobToStart_4 post (nI W) (nI t) st (nI rs) nd np no nm made kin dur pri ovl mis per mnt hrs day mon wkd nxt sta los msd mss wai req bsy wjb wen kjb kst kdu (d + 1) (nI i) (nI (i + 1))) ∧ (∀ post : Int32 → Prop, post r → wY_first_4 post (nI W) (nI t) (nI rs) st nd np no nm ask knd dur pri ovl mis nex prd sets sta los msd mnw wai wdu doi ens his fld (d + 1) (nI i) (nI (i + 1))) := ih (i + 1) (nI i) (by omega) (Or.inr ⟨i, by omega, rfl, hP, q, en, hn3⟩)
          have X0 : ∀ post : Int32 → Prop, ((x = (-1) → (∀ y : Int32, y = nI i + 1 → (wX_nextJobToStart_4 post (nI W) (nI t) st (nI rs) nd np no nm made kin dur pri ovl mis per mnt hrs day mon wkd nxt sta los msd mss wai req bsy wjb wen kjb kst kdu (d + 1) (nI i) y))) ∧ (¬ x = (-1) → (wpX_goesBefore (fun r_43 => (((r_43 = 0 → (∀ y : Int32, y = nI i + 1 → (wX_nextJobToStart_4 post (nI W) (nI t) st (nI rs) nd np no nm made kin dur pri ovl mis per mnt hrs day mon wkd nxt sta los msd mss wai req bsy wjb wen kjb kst kdu (d + 1) x y))) ∧ (¬ r_43 = 0 → (∀ y : Int32, y = nI i + 1 → (wX_nextJobToStart_4 post (nI W) (nI t) st (nI rs) nd np no nm made kin dur pri ovl mis per mnt hrs day mon wkd nxt sta los msd mss wai req bsy wjb wen kjb kst kdu (d + 1) (nI i) y)))))) ((nI W), (nI t), st, (nI rs), nd, np, no, nm, made, kin, dur, pri, ovl, mis, per, mnt, hrs, day, mon, wkd, nxt, sta, los, msd, mss, wai, req, bsy, wjb, wen, kjb, kst, kdu) (nI i) x))) → wX_nextJobToStart_4 post (nI W) (nI t) st (nI rs) nd np no nm made kin dur pri ovl mis per mnt hrs day mon wkd nxt sta los msd mss wai req bsy wjb wen kjb kst kdu (d + 1 + 1) x (nI i) := fun post hh => pk_le 12 i (fun z => absurd z (by omega)) (fun _ => ⟨ar_in, br_f w1 (xr_hasRun _ _ _ _ _ _ _ _ _ _ _ _ _ _ _ _ _ _ _ _ _ _ _ _ _ _ _ _ _ _ _ _ _ _ _ (fun z => absurd z hP) (fun _ => br_t rfl hh))⟩)
          rcases hx with rfl | ⟨j, hj, rfl, hjP, m, em, hm⟩
          · obtain ⟨r, hr, gx, gy⟩ := take
            exact ⟨r, hr, fun post hp => X0 post (br_t rfl (nm_r (nI_1 i) (gx post hp))), fun post hp => pk_le 12 i (fun z => absurd z (by omega)) (fun _ => ⟨ar_in, br_f w2 (yr_isRunning _ _ _ _ _ _ _ _ _ _ _ _ _ _ _ _ _ _ _ _ _ _ _ _ _ _ _ hW _ _ (fun z => absurd z hP2) (fun _ => br_t rfl (br_t (by decide) (nm_r (nI_1 i) (gy post hp)))))⟩)⟩
          · have kj : (nI j).toNatClampNeg = j := ar_k
            have k3i : (3 * nI i).toNatClampNeg = 3 * i := by rw [ar_3x]; exact ar_k
            have k3j : (3 * nI j).toNatClampNeg = 3 * j := by rw [ar_3x]; exact ar_k
            have ei : req (3 * i) = wdu (3 * i) := hq 0 (by omega)
            have ej : req (3 * j) = wdu (3 * j) := by
              obtain ⟨m', em', _, hq'⟩ := hQ j hj
              rw [em] at em'
              have := ar_eq em'
              exact hq' 0 (by omega)
            have Y0 : ∀ post : Int32 → Prop, ((((pri (nI j).toNatClampNeg) < (pri (nI i).toNatClampNeg) → (∀ y : Int32, y = nI i + 1 → (wY_first_4 post (nI W) (nI t) (nI rs) st nd np no nm ask knd dur pri ovl mis nex prd sets sta los msd mnw wai wdu doi ens his fld (d + 1) (nI i) y))) ∧ (¬ (pri (nI j).toNatClampNeg) < (pri (nI i).toNatClampNeg) → (vp_in (nI i) 12 ∧ (vp_in (nI j) 12 ∧ ((((pri (nI i).toNatClampNeg) = (pri (nI j).toNatClampNeg) → (vp_in (3 * nI i) 36 ∧ (vp_in (3 * nI j) 36 ∧ ((((wdu (3 * nI j).toNatClampNeg) ≤ (wdu (3 * nI i).toNatClampNeg) → (∀ y : Int32, y = nI i + 1 → (wY_first_4 post (nI W) (nI t) (nI rs) st nd np no nm ask knd dur pri ovl mis nex prd sets sta los msd mnw wai wdu doi ens his fld (d + 1) (nI j) y))) ∧ (¬ (wdu (3 * nI j).toNatClampNeg) ≤ (wdu (3 * nI i).toNatClampNeg) → (∀ y : Int32, y = nI i + 1 → (wY_first_4 post (nI W) (nI t) (nI rs) st nd np no nm ask knd dur pri ovl mis nex prd sets sta los msd mnw wai wdu doi ens his fld (d + 1) (nI i) y)))))))) ∧ (¬ (pri (nI i).toNatClampNeg) = (pri (nI j).toNatClampNeg) → (∀ y : Int32, y = nI i + 1 → (wY_first_4 post (nI W) (nI t) (nI rs) st nd np no nm ask knd dur pri ovl mis nex prd sets sta los msd mnw wai wdu doi ens his fld (d + 1) (nI j) y)))))))))) → wY_first_4 post (nI W) (nI t) (nI rs) st nd np no nm ask knd dur pri ovl mis nex prd sets sta los msd mnw wai wdu doi ens his fld (d + 1 + 1) (nI j) (nI i) := fun post hh => pk_le 12 i (fun z => absurd z (by omega)) (fun _ => ⟨ar_in, br_f w2 (yr_isRunning _ _ _ _ _ _ _ _ _ _ _ _ _ _ _ _ _ _ _ _ _ _ _ _ _ _ _ hW _ _ (fun z => absurd z hP2) (fun _ => br_t rfl (br_f (nI_pos (by omega)) ⟨ar_in, ar_in, hh⟩)))⟩)
            rw [hk, kj, k3i, k3j] at Y0
            have keep := ih (i + 1) (nI j) (by omega) (Or.inr ⟨j, hj, rfl, hjP, m, em, hm⟩)
            by_cases hB : (pri i = pri j ∧ ¬ req (3 * j) ≤ req (3 * i)) ∨ (¬ pri i = pri j ∧ ¬ pri i ≤ pri j)
            · obtain ⟨r, hr, gx, gy⟩ := take
              refine ⟨r, hr, fun post hp => X0 post (br_f ar_ne1 (xg_before _ _ _ _ _ _ _ _ _ _ _ _ _ _ _ _ _ _ _ _ _ _ _ _ _ _ _ _ _ _ _ _ _ i j (by omega) hj _ (fun _ => br_f n1 (nm_r (nI_1 i) (gx post hp))) (fun z => absurd hB z))), fun post hp => Y0 post ?_⟩
              rcases hB with ⟨b1, b2⟩ | ⟨b1, b2⟩
              · rw [ei, ej] at b2
                refine br_f (by rw [b1]; exact Int32.lt_irrefl) ⟨ar_in, ar_in, br_t b1 ⟨by rw [ar_3x]; exact ar_in, by rw [ar_3x]; exact ar_in, br_f b2 (nm_r (nI_1 i) (gy post hp))⟩⟩
              · exact br_t (Int32.not_le.mp b2) (nm_r (nI_1 i) (gy post hp))
            · obtain ⟨r, hr, gx, gy⟩ := keep
              refine ⟨r, hr, fun post hp => X0 post (br_f ar_ne1 (xg_before _ _ _ _ _ _ _ _ _ _ _ _ _ _ _ _ _ _ _ _ _ _ _ _ _ _ _ _ _ _ _ _ _ i j (by omega) hj _ (fun z => absurd z hB) (fun _ => br_t rfl (nm_r (nI_1 i) (gx post hp))))), fun post hp => Y0 post ?_⟩
              by_cases b1 : pri i = pri j
              · have b2 : wdu (3 * j) ≤ wdu (3 * i) := by
                  rw [← ei, ← ej]
                  exact Classical.byContradiction (fun z => hB (Or.inl ⟨b1, z⟩))
                exact br_f (by rw [b1]; exact Int32.lt_irrefl) ⟨ar_in, ar_in, br_t b1 ⟨by rw [ar_3x]; exact ar_in, by rw [ar_3x]; exact ar_in, br_t b2 (nm_r (nI_1 i) (gy post hp))⟩⟩
              · have b2 : pri i ≤ pri j := Classical.byContradiction (fun z => hB (Or.inr ⟨b1, z⟩))
                exact br_f (Int32.not_lt.mpr b2) ⟨ar_in, ar_in, br_f b1 (nm_r (nI_1 i) (gy post hp))⟩
  obtain ⟨r, hr, gx, gy⟩ := key 12 0 (-1) (by omega) (Or.inl rfl)
  exact ⟨r, hr, fun post hp => ⟨_, gx post hp⟩, fun post hp => ⟨_, gy post hp⟩⟩
theorem yf_free (W t rs : Nat) (st nd np no nm ask : Int32) (knd dur pri ovl mis nex prd sets sta los msd mnw wai wdu doi ens his fld : Nat → Int32) (hW : W ≤ 3) (w : Nat) (hw : w < W) (hb : ∀ i, i < w → ¬ ens i = 0) (he : ens w = 0) (post : Int32 → Prop) (hp : post (nI w)) : wpY_freeWorker post ((nI W), (nI t), (nI rs), st, nd, np, no, nm, ask, knd, dur, pri, ovl, mis, nex, prd, sets, sta, los, msd, mnw, wai, wdu, doi, ens, his, fld) := by
  have key : ∀ d i, i + d = w → wY_freeWorker_2 post (nI W) (nI t) (nI rs) st nd np no nm ask knd dur pri ovl mis nex prd sets sta los msd mnw wai wdu doi ens his fld (d + 1) (nI i) := by
    intro d
    induction d with
    | zero =>
      intro i hi
      have hi' : i = w := by omega
      subst hi'
      exact pk_le W i (fun z => absurd z (by omega)) (fun _ => ⟨ar_in, br_t (ar_c he) hp⟩)
    | succ d ih =>
      intro i hi
      exact pk_le W i (fun z => absurd z (by omega)) (fun _ => ⟨ar_in, br_f (ar_n (hb i (by omega))) (nm_r (nI_1 i) (ih (i + 1) (by omega)))⟩)
  exact ⟨_, key w 0 (by omega)⟩
theorem yf_none (W t rs : Nat) (st nd np no nm ask : Int32) (knd dur pri ovl mis nex prd sets sta los msd mnw wai wdu doi ens his fld : Nat → Int32) (hW : W ≤ 3) (hb : ∀ i, i < W → ¬ ens i = 0) (post : Int32 → Prop) (hp : post (-1)) : wpY_freeWorker post ((nI W), (nI t), (nI rs), st, nd, np, no, nm, ask, knd, dur, pri, ovl, mis, nex, prd, sets, sta, los, msd, mnw, wai, wdu, doi, ens, his, fld) := by
  have key : ∀ d i, i + d = W → wY_freeWorker_2 post (nI W) (nI t) (nI rs) st nd np no nm ask knd dur pri ovl mis nex prd sets sta los msd mnw wai wdu doi ens his fld (d + 1) (nI i) := by
    intro d
    induction d with
    | zero =>
      intro i hi
      exact pk_le W i (fun _ => hp) (fun z => absurd z (by omega))
    | succ d ih =>
      intro i hi
      exact pk_le W i (fun z => absurd z (by omega)) (fun _ => ⟨ar_in, br_f (ar_n (hb i (by omega))) (nm_r (nI_1 i) (ih (i + 1) (by omega)))⟩)
  exact ⟨_, key W 0 (by omega)⟩
def sh_f (a : Nat → Int32) (j n : Nat) : Nat → Int32 := fun p => if 3 * j ≤ p ∧ p < 3 * j + n then a (p + 1) else a p
theorem sh_1 (a : Nat → Int32) (j n : Nat) : ∀ q, q < n → sh_f a j n (3 * j + q) = a (3 * j + q + 1) := fun q hq => if_pos ⟨by omega, by omega⟩
theorem sh_2 (a : Nat → Int32) (j n : Nat) : ∀ p, (p < 3 * j ∨ 3 * j + n ≤ p) → sh_f a j n p = a p := fun p hp => if_neg (fun z => by omega)
theorem sh_e {a c : Nat → Int32} {j n : Nat} (h1 : ∀ q, q < n → c (3 * j + q) = a (3 * j + q + 1)) (h2 : ∀ p, (p < 3 * j ∨ 3 * j + n ≤ p) → c p = a p) : c = sh_f a j n := by
  funext p
  by_cases e : 3 * j ≤ p ∧ p < 3 * j + n
  · obtain ⟨q, rfl⟩ : ∃ q, p = 3 * j + q := ⟨p - 3 * j, by omega⟩
    rw [sh_1 a j n q (by omega)]
    exact h1 q (by omega)
  · rw [sh_2 a j n p (by omega)]
    exact h2 p (by omega)
def hs_f (a : Nat → Int32) (x y z : Int32) : Nat → Int32 := fun m => if m = 0 then x else if m = 1 then y else if m = 2 then z else if m < 48 then a (m - 3) else a m
theorem yn_note (W t rs : Nat) (st nd np no nm ask : Int32) (knd dur pri ovl mis nex prd sets sta los msd mnw wai wdu doi ens his fld : Nat → Int32) (x y : Int32) (post : SY → Prop) (h : post ((nI W), (nI t), (nI (rs + 1)), st, nd, np, no, nm, ask, knd, dur, pri, ovl, mis, nex, prd, sets, sta, los, msd, mnw, wai, wdu, doi, ens, (hs_f his x (nI t) y), fld)) : wpY_note post ((nI W), (nI t), (nI rs), st, nd, np, no, nm, ask, knd, dur, pri, ovl, mis, nex, prd, sets, sta, los, msd, mnw, wai, wdu, doi, ens, his, fld) x y := by
  have key : ∀ d cur, d + 2 ≤ 47 → (∀ m, d + 2 < m → m < 48 → cur m = his (m - 3)) → (∀ m, (m ≤ d + 2 ∨ 48 ≤ m) → cur m = his m) → wY_note_3 post x y (nI W) (nI t) (nI rs) st nd np no nm ask (d + 1) (nI (d + 2)) knd dur pri ovl mis nex prd sets sta los msd mnw wai wdu doi ens cur fld := by
    intro d
    induction d with
    | zero =>
      intro cur hd h1 h2
      have ef : upd (upd (upd cur 0 x) 1 (nI t)) 2 y = hs_f his x (nI t) y := by
        funext m
        unfold hs_f
        by_cases m0 : m = 0
        · rw [if_pos m0, m0, pk_un (by omega), pk_un (by omega), pk_us]
        by_cases m1 : m = 1
        · rw [if_neg m0, if_pos m1, m1, pk_un (by omega), pk_us]
        by_cases m2 : m = 2
        · rw [if_neg m0, if_neg m1, if_pos m2, m2, pk_us]
        rw [if_neg m0, if_neg m1, if_neg m2, pk_un m2, pk_un m1, pk_un m0]
        by_cases m4 : m < 48
        · rw [if_pos m4]; exact h1 m (by omega) m4
        · rw [if_neg m4]; exact h2 m (by omega)
      refine pk_le 2 2 (fun _ => nm_e (nm_e (nm_r ef (nm_r (nI_1 rs) h)))) (fun z => absurd z (by omega)) (by rfl)
    | succ d ih =>
      intro cur hd h1 h2
      have e3 : nI (d + 1 + 2) - 3 = nI d := by
        show nI (d + 1 + 2) - nI 3 = _
        rw [pk_sub (by omega)]
        exact congrArg nI (by omega)
      have eu : upd cur (nI (d + 1 + 2)).toNatClampNeg (cur (nI (d + 1 + 2) - 3).toNatClampNeg) = upd cur (d + 3) (cur d) := by
        rw [e3, ar_k, ar_k]
      refine pk_le (d + 1 + 2) 2 (fun z => absurd z (by omega)) (fun _ => ⟨by rw [e3]; exact ar_in, ar_in, nm_r eu (nm_r (pk_m1 (d + 2)) (ih _ (by omega) ?_ ?_))⟩)
      · intro m m1 m2
        by_cases e : m = d + 3
        · rw [e, pk_us, h2 d (Or.inl (by omega))]
          exact congrArg his (by omega)
        · rw [pk_un e]
          exact h1 m (by omega) m2
      · intro m m1
        rw [pk_un (by omega)]
        exact h2 m (by omega)
  exact ⟨_, key 45 his (by omega) (fun m m1 m2 => absurd m1 (by omega)) (fun m _ => rfl)⟩
theorem yh_shift (W t rs : Nat) (st nd np no nm ask : Int32) (knd dur pri ovl mis nex prd sets sta los msd mnw wai wdu doi ens his fld : Nat → Int32) (j n : Nat) (hj : j < 12) (hn : n ≤ 2) (en : wai j = nI n) (post : SY → Prop) (J : Int32 → Int32 → Int32 → Int32 → Int32 → Int32 → Int32 → Int32 → Int32 → (Nat → Int32) → (Nat → Int32) → (Nat → Int32) → (Nat → Int32) → (Nat → Int32) → (Nat → Int32) → (Nat → Int32) → (Nat → Int32) → (Nat → Int32) → (Nat → Int32) → (Nat → Int32) → (Nat → Int32) → (Nat → Int32) → (Nat → Int32) → (Nat → Int32) → (Nat → Int32) → (Nat → Int32) → (Nat → Int32) → Prop) (h : J (nI W) (nI t) (nI rs) st nd np no nm ask knd dur pri ovl mis nex prd sets sta los msd mnw wai (sh_f wdu j n) doi ens his fld) : ∃ m, wY_start_109 post J (nI j) (nI W) (nI t) (nI rs) st nd np no nm ask m (nI (3 * j)) knd dur pri ovl mis nex prd sets sta los msd mnw wai wdu doi ens his fld := by
  have eb : 3 * nI j + wai (nI j).toNatClampNeg = nI (3 * j + n) := by rw [ar_k, en, ar_3x, nI_add]
  have key : ∀ d i cur, i + d = n → (∀ q, q < i → cur (3 * j + q) = wdu (3 * j + q + 1)) → (∀ p, (p < 3 * j ∨ 3 * j + i ≤ p) → cur p = wdu p) → wY_start_109 post J (nI j) (nI W) (nI t) (nI rs) st nd np no nm ask (d + 1) (nI (3 * j + i)) knd dur pri ovl mis nex prd sets sta los msd mnw wai cur doi ens his fld := by
    intro d
    induction d with
    | zero =>
      intro i cur hi h1 h2
      have hi' : i = n := by omega
      subst hi'
      exact And.intro ar_in (pk_le (3 * j + i) (3 * j + i) (fun _ => by rw [sh_e h1 h2]; exact h) (fun z => absurd z (by omega)) eb rfl)
    | succ d ih =>
      intro i cur hi h1 h2
      have eu : upd cur (nI (3 * j + i)).toNatClampNeg (cur (nI (3 * j + i) + 1).toNatClampNeg) = upd cur (3 * j + i) (cur (3 * j + i + 1)) := by
        rw [nI_1, ar_k, ar_k]
      refine And.intro ar_in (pk_le (3 * j + n) (3 * j + i) (fun z => absurd z (by omega)) (fun _ => ⟨by rw [nI_1]; exact ar_in, ar_in, nm_r eu (nm_r (nI_1 (3 * j + i)) (ih (i + 1) _ (by omega) ?_ ?_))⟩) eb rfl)
      · refine lt_s (fun q hq => ?_) ?_
        · rw [pk_un (by omega)]
          exact h1 q hq
        · rw [pk_us]
          exact h2 _ (by omega)
      · intro p hp
        rw [pk_un (by omega)]
        exact h2 p (by omega)
  exact ⟨_, key n 0 wdu (by omega) (fun q hq => absurd hq (by omega)) (fun p _ => rfl)⟩
theorem xs_take (W t rs : Nat) (st nd np no nm : Int32) (made kin dur pri ovl mis per mnt hrs day mon wkd nxt sta los msd mss wai req bsy wjb wen kjb kst kdu : Nat → Int32) (j : Nat) (hj : j < 12) (post : Int32 → SX → Prop) (h : post (req (3 * j)) ((nI W), (nI t), st, (nI rs), nd, np, no, nm, made, kin, dur, pri, ovl, mis, per, mnt, hrs, day, mon, wkd, nxt, sta, los, msd, mss, (upd wai j (wai j - 1)), (sh_f req j 2), bsy, wjb, wen, kjb, kst, kdu)) : wpX_takeEarliestRequest post ((nI W), (nI t), st, (nI rs), nd, np, no, nm, made, kin, dur, pri, ovl, mis, per, mnt, hrs, day, mon, wkd, nxt, sta, los, msd, mss, wai, req, bsy, wjb, wen, kjb, kst, kdu) (nI j) := by
  have eb : nI (3 * j) + 3 - 1 = nI (3 * j + 2) := by
    show nI (3 * j) + nI 3 - nI 1 = _
    rw [nI_add, pk_sub (by omega)]
    exact congrArg nI (by omega)
  have key : ∀ d i cur, i + d = 2 → (∀ q, q < i → cur (3 * j + q) = req (3 * j + q + 1)) → (∀ p, (p < 3 * j ∨ 3 * j + i ≤ p) → cur p = req p) → wX_takeEarliestRequest_14 post (nI j) (nI (3 * j)) (req (3 * j)) (nI W) (nI t) st (nI rs) nd np no nm (d + 1) (nI (3 * j + i)) made kin dur pri ovl mis per mnt hrs day mon wkd nxt sta los msd mss wai cur bsy wjb wen kjb kst kdu := by
    intro d
    induction d with
    | zero =>
      intro i cur hi h1 h2
      have hi' : i = 2 := by omega
      subst hi'
      have ew : upd wai (nI j).toNatClampNeg (wai (nI j).toNatClampNeg - 1) = upd wai j (wai j - 1) := by rw [ar_k]
      exact pk_le (3 * j + 2) (3 * j + 2) (fun _ => ⟨ar_in, ar_in, nm_r ew (by rw [sh_e h1 h2]; exact h)⟩) (fun z => absurd z (by omega)) eb rfl
    | succ d ih =>
      intro i cur hi h1 h2
      have eu : upd cur (nI (3 * j + i)).toNatClampNeg (cur (nI (3 * j + i) + 1).toNatClampNeg) = upd cur (3 * j + i) (cur (3 * j + i + 1)) := by
        rw [nI_1, ar_k, ar_k]
      refine pk_le (3 * j + 2) (3 * j + i) (fun z => absurd z (by omega)) (fun _ => ⟨by rw [nI_1]; exact ar_in, ar_in, nm_r eu (nm_r (nI_1 (3 * j + i)) (ih (i + 1) _ (by omega) ?_ ?_))⟩) eb rfl
      · refine lt_s (fun q hq => ?_) ?_
        · rw [pk_un (by omega)]
          exact h1 q hq
        · rw [pk_us]
          exact h2 _ (by omega)
      · intro p hp
        rw [pk_un (by omega)]
        exact h2 p (by omega)
  exact nm_r (ar_x3 j) ⟨ar_in, nm_r ar_cl ⟨_, key 2 0 req (by omega) (fun q hq => absurd hq (by omega)) (fun p _ => rfl)⟩⟩
theorem xs_start (W t rs : Nat) (st nd np no nm : Int32) (made kin dur pri ovl mis per mnt hrs day mon wkd nxt sta los msd mss wai req bsy wjb wen kjb kst kdu : Nat → Int32) (w j dd : Nat) (hw : w < 3) (hj : j < 12) (hrs' : rs < 2147483647) (hdd : dur j = nI dd) (post : SX → Prop) (h : post ((nI W), (nI t), st, (nI (rs + 1)), nd, np, no, nm, made, kin, dur, pri, ovl, mis, per, mnt, hrs, day, mon, wkd, nxt, (upd sta j (sta j + 1)), los, msd, mss, (upd wai j (wai j - 1)), (sh_f req j 2), (upd bsy w 1), (upd wjb w (nI j)), (upd wen w (nI (t + dd))), (upd kjb (rs % 16) (nI j)), (upd kst (rs % 16) (nI t)), (upd kdu (rs % 16) (req (3 * j))))) : wpX_startRun post ((nI W), (nI t), st, (nI rs), nd, np, no, nm, made, kin, dur, pri, ovl, mis, per, mnt, hrs, day, mon, wkd, nxt, sta, los, msd, mss, wai, req, bsy, wjb, wen, kjb, kst, kdu) (nI w) (nI j) := by
  have e16 : nI rs - nI rs / 16 * 16 = nI (rs % 16) := ar_rem (d := 16) (by omega) (by omega) (by omega)
  have hm : rs % 16 < 16 := Nat.mod_lt _ (by omega)
  have es : upd sta (nI j).toNatClampNeg (sta (nI j).toNatClampNeg + 1) = upd sta j (sta j + 1) := by rw [ar_k]
  have ee : upd wen (nI w).toNatClampNeg (nI t + dur (nI j).toNatClampNeg) = upd wen w (nI (t + dd)) := by rw [ar_k, ar_k, hdd, nI_add]
  exact And.intro (by decide) (nm_r e16 ⟨ar_in, nm_r ar_u ⟨ar_in, nm_r ar_u (xs_take _ _ _ _ _ _ _ _ _ _ _ _ _ _ _ _ _ _ _ _ _ _ _ _ _ _ _ _ _ _ _ _ _ j hj _ ⟨ar_in, nm_r ar_u (nm_r (nI_1 rs) ⟨ar_in, ar_in, nm_r es ⟨ar_in, nm_r ar_ub1 ⟨ar_in, nm_r ar_u ⟨ar_in, ar_in, nm_r ee h⟩⟩⟩⟩)⟩)⟩⟩)
/-- the fields array, as read leaves it -/
def fd_f (s : Nat) (fld : Nat → Int32) (i : Nat) : Nat → Int32 := fun k => if k < i then ca_f s k else fld k
theorem fd_F (s : Nat) (fld : Nat → Int32) : ca_F s (fd_f s fld 5) := fun k hk => if_pos hk
theorem yr_read2 (W t rs : Nat) (st nd np no nm ask : Int32) (knd dur pri ovl mis nex prd sets sta los msd mnw wai wdu doi ens his fld : Nat → Int32) (s : Nat) (hs : s < 2147483648) (post : SY → Prop) (h : post ((nI W), (nI t), (nI rs), st, nd, np, no, nm, ask, knd, dur, pri, ovl, mis, nex, prd, sets, sta, los, msd, mnw, wai, wdu, doi, ens, his, (fd_f s fld 5))) : wpY_read post ((nI W), (nI t), (nI rs), st, nd, np, no, nm, ask, knd, dur, pri, ovl, mis, nex, prd, sets, sta, los, msd, mnw, wai, wdu, doi, ens, his, fld) (nI s) := by
  have key : ∀ d i, i + d = 5 → wY_read_2 post (nI s) (nI W) (nI t) (nI rs) st nd np no nm ask (d + 1) (nI i) knd dur pri ovl mis nex prd sets sta los msd mnw wai wdu doi ens his (fd_f s fld i) := by
    intro d
    induction d with
    | zero =>
      intro i hi
      have hi' : i = 5 := by omega
      subst hi'
      exact pk_le 5 5 (fun _ => h) (fun h => absurd h (by omega))
    | succ d ih =>
      intro i hi
      have eu : upd (fd_f s fld i) (nI i).toNatClampNeg (ca_f s i) = fd_f s fld (i + 1) := by
        rw [ar_k]
        funext k
        by_cases e : k = i
        · rw [e, pk_us]; exact (if_pos (by omega)).symm
        · rw [pk_un e]
          unfold fd_f
          by_cases e2 : k < i
          · rw [if_pos e2, if_pos (by omega)]
          · rw [if_neg e2, if_neg (by omega)]
      exact pk_le 5 i (fun h => absurd h (by omega)) (fun hh => yr_field s i hs (by omega) _ ⟨ar_in, nm_r eu (nm_r (nI_1 i) (ih (i + 1) (by omega)))⟩)
  exact ⟨6, key 5 0 rfl⟩
