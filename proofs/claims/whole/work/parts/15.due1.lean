theorem pk_least (P : Nat → Prop) (h : ∃ k, P k) : ∃ k, P k ∧ ∀ j, j < k → ¬ P j := by
  obtain ⟨k, hk⟩ := h
  induction k using Nat.strongRecOn with
  | ind k ih =>
    by_cases e : ∃ j, j < k ∧ P j
    · obtain ⟨j, hj, pj⟩ := e
      exact ih j hj pj
    · exact ⟨k, hk, fun j hj pj => e ⟨j, hj, pj⟩⟩
theorem nc_ex (s0 s1 s2 s3 s4 : Int32) (t : Nat) : (∃ d, t + 1 ≤ d ∧ d ≤ t + 22400 ∧ ca_fit s0 s1 s2 s3 s4 d ∧ ∀ s, t + 1 ≤ s → s < d → ¬ ca_fit s0 s1 s2 s3 s4 s) ∨ (∀ s, t + 1 ≤ s → ¬ ca_fit s0 s1 s2 s3 s4 s) := by
  by_cases h : ∃ k, ca_fit s0 s1 s2 s3 s4 (t + 1 + k)
  · obtain ⟨k, hk, hl⟩ := pk_least _ h
    refine Or.inl ⟨t + 1 + k, by omega, ?_, hk, fun s h1 h2 => ?_⟩
    · rcases Nat.lt_or_ge k 22400 with g | g
      · omega
      · obtain ⟨q, rfl⟩ : ∃ q, k = q + 22400 := ⟨k - 22400, by omega⟩
        rw [show t + 1 + (q + 22400) = (t + 1 + q) + 22400 by omega, ca_per] at hk
        exact absurd hk (hl q (by omega))
    · obtain ⟨q, rfl⟩ : ∃ q, s = t + 1 + q := ⟨s - (t + 1), by omega⟩
      exact hl q (by omega)
  · refine Or.inr (fun s h1 h2 => h ⟨s - (t + 1), ?_⟩)
    rw [show t + 1 + (s - (t + 1)) = s by omega]
    exact h2
theorem xc_val (W t rs : Nat) (st nd np no nm : Int32) (made kin dur pri ovl mis per mnt hrs day mon wkd nxt sta los msd mss wai req bsy wjb wen kjb kst kdu : Nat → Int32) (j : Nat) (hj : j < 12) (ht : t ≤ 1000000) : ∃ v, rl_c (t + 1) (mnt j) (hrs j) (day j) (mon j) (wkd j) v ∧ (∀ post : Int32 → Prop, post v → wpX_nextCronTime post ((nI W), (nI t), st, (nI rs), nd, np, no, nm, made, kin, dur, pri, ovl, mis, per, mnt, hrs, day, mon, wkd, nxt, sta, los, msd, mss, wai, req, bsy, wjb, wen, kjb, kst, kdu) (nI j)) := by
  rcases nc_ex (mnt j) (hrs j) (day j) (mon j) (wkd j) t with ⟨d, h1, h2, h3, h4⟩ | h
  · refine ⟨nI d, Or.inr ⟨d, rfl, h1, by omega, h3, h4⟩, fun post hp => xc_next _ _ _ _ _ _ _ _ _ _ _ _ _ _ _ _ _ _ _ _ _ _ _ _ _ _ _ _ _ _ _ _ _ j hj ht post (fun d' g1 g2 g3 g4 => ?_) (fun g => absurd h3 (g d h1))⟩
    have : d' = d := by
      rcases Nat.lt_trichotomy d' d with c | c | c
      · exact absurd g3 (h4 d' g1 c)
      · exact c
      · exact absurd h3 (g4 d h1 c)
    rw [this]
    exact hp
  · exact ⟨-2, Or.inl ⟨rfl, h⟩, fun post hp => xc_next _ _ _ _ _ _ _ _ _ _ _ _ _ _ _ _ _ _ _ _ _ _ _ _ _ _ _ _ _ _ _ _ _ j hj ht post (fun d' g1 g2 g3 g4 => absurd g3 (h d' g1)) (fun _ => hp)⟩
theorem xo_forbid (W t rs : Nat) (st nd np no nm : Int32) (made kin dur pri ovl mis per mnt hrs day mon wkd nxt sta los msd mss wai req bsy wjb wen kjb kst kdu : Nat → Int32) (j n : Nat) (hj : j < 12) (en : wai j = nI n) (hn : n ≤ 3) (post : Int32 → Prop) (h1 : (ovl j = 0 ∧ (0 < n ∨ hp_P bsy wjb (nI j))) → post 1) (h0 : ¬ (ovl j = 0 ∧ (0 < n ∨ hp_P bsy wjb (nI j))) → post 0) : wpX_overlapForbids post ((nI W), (nI t), st, (nI rs), nd, np, no, nm, made, kin, dur, pri, ovl, mis, per, mnt, hrs, day, mon, wkd, nxt, sta, los, msd, mss, wai, req, bsy, wjb, wen, kjb, kst, kdu) (nI j) := by
  have ew : wai (nI j).toNatClampNeg = nI n := ar_c en
  refine And.intro ar_in (br_c (fun a => ⟨ar_in, pk_lt 0 n (fun z => h1 ⟨ar_o a, Or.inl z⟩) (fun z => xr_hasRun _ _ _ _ _ _ _ _ _ _ _ _ _ _ _ _ _ _ _ _ _ _ _ _ _ _ _ _ _ _ _ _ _ _ _ (fun p => br_f (by decide) (h1 ⟨ar_o a, Or.inr p⟩)) (fun p => br_t rfl (h0 ?_))) rfl ew⟩) (fun a => h0 ?_))
  · exact fun y => y.2.elim (fun q => absurd q (by omega)) p
  · exact fun y => (ar_on a) y.1
theorem yo_full (W t rs : Nat) (st nd np no nm ask : Int32) (knd dur pri ovl mis nex prd sets sta los msd mnw wai wdu doi ens his fld : Nat → Int32) (hW : W ≤ 3) (j n : Nat) (hj : j < 12) (en : wai j = nI n) (hn : n ≤ 3) (post : SY → Prop) (h1 : (n = 3 ∨ (ovl j = 0 ∧ (0 < n ∨ hp_Q W ens doi (nI j)))) → wY_fall_41 post (nI j) 1 (nI W) (nI t) (nI rs) st nd np no nm ask knd dur pri ovl mis nex prd sets sta los msd mnw wai wdu doi ens his fld) (h0 : ¬ (n = 3 ∨ (ovl j = 0 ∧ (0 < n ∨ hp_Q W ens doi (nI j)))) → wY_fall_41 post (nI j) 0 (nI W) (nI t) (nI rs) st nd np no nm ask knd dur pri ovl mis nex prd sets sta los msd mnw wai wdu doi ens his fld) : wpY_fall post ((nI W), (nI t), (nI rs), st, nd, np, no, nm, ask, knd, dur, pri, ovl, mis, nex, prd, sets, sta, los, msd, mnw, wai, wdu, doi, ens, his, fld) (nI j) := by
  have ew : wai (nI j).toNatClampNeg = nI n := ar_c en
  refine And.intro ar_in (pk_eq n 3 (fun z => h1 (Or.inl z)) (fun z => ⟨ar_in, br_c (fun a => ⟨ar_in, pk_lt 0 n (fun y => h1 (Or.inr ⟨ar_o a, Or.inl y⟩)) (fun y => yr_isRunning _ _ _ _ _ _ _ _ _ _ _ _ _ _ _ _ _ _ _ _ _ _ _ _ _ _ _ hW _ _ (fun p => br_f (by decide) (h1 (Or.inr ⟨ar_o a, Or.inr p⟩))) (fun p => br_t rfl (h0 ?_))) rfl ew⟩) (fun a => h0 ?_)⟩) ew)
  · exact fun q => q.elim z (fun q => q.2.elim (fun q => absurd q (by omega)) p)
  · exact fun q => q.elim z (fun q => (ar_on a) q.1)
theorem td_first (W t rs : Nat) (st nd np no nm ask : Int32) (made kin dur pri ovl mis per mnt hrs day mon wkd nxt sta los msd mss wai req bsy wjb wen kjb kst kdu knd nex prd sets mnw wdu doi ens his fld : Nat → Int32) (hW : W ≤ 3) (hst : st = 0 ∨ st = 1) (hK : rl_W 3 t W bsy wjb wen doi ens) (hQ : rl_Q wai req wdu) (hA : ask = rl_S wai 12) (j : Nat) (hj : j < 12) : ∃ (x y ask' : Int32) (los' msd' mss' mnw' wai' req' wdu' : Nat → Int32), ((x = 1 ∧ y = 0 ∧ st = 0) ∨ (x = 0 ∧ (¬ st = 0 ∨ ¬ y = 0))) ∧ rl_Q wai' req' wdu' ∧ ask' = rl_S wai' 12 ∧ (∀ p, p ≠ j → mss' p = mss p ∧ mnw' p = mnw p ∧ wai' p = wai p) ∧ ((st = 0 ∧ mss' j = mss j ∧ mnw' j = mnw j) ∨ (st = 1 ∧ mss' j = mss j + 1 ∧ mnw' j = mnw j + 1)) ∧ (∀ post : SX → Prop, wX_takeDueJob_77 post (nI j) x (nI W) (nI t) st (nI rs) nd np no nm made kin dur pri ovl mis per mnt hrs day mon wkd nxt sta los' msd' mss' wai' req' bsy wjb wen kjb kst kdu → wpX_takeDueJob post ((nI W), (nI t), st, (nI rs), nd, np, no, nm, made, kin, dur, pri, ovl, mis, per, mnt, hrs, day, mon, wkd, nxt, sta, los, msd, mss, wai, req, bsy, wjb, wen, kjb, kst, kdu) (nI j)) ∧ (∀ post : SY → Prop, wY_fall_94 post (nI j) y (nI W) (nI t) (nI rs) st nd np no nm ask' knd dur pri ovl mis nex prd sets sta los' msd' mnw' wai' wdu' doi ens his fld → wpY_fall post ((nI W), (nI t), (nI rs), st, nd, np, no, nm, ask, knd, dur, pri, ovl, mis, nex, prd, sets, sta, los, msd, mnw, wai, wdu, doi, ens, his, fld) (nI j)) := by
  obtain ⟨n, en, hn, hq⟩ := hQ j hj
  have kj : (nI j).toNatClampNeg = j := ar_k
  have n1 : ¬ (1 : Int32) = 0 := by decide
  have PQ := rl_PQ hW hK (nI j)
  have el : upd los (nI j).toNatClampNeg (los (nI j).toNatClampNeg + 1) = upd los j (los j + 1) := by rw [kj]
  have el0 : upd los (nI j).toNatClampNeg (los (nI j).toNatClampNeg + 0) = los := by rw [kj]; exact up_id (by rw [Int32.add_zero])
  have em : upd msd (nI j).toNatClampNeg (msd (nI j).toNatClampNeg + 1) = upd msd j (msd j + 1) := by rw [kj]
  have es : upd mss (nI j).toNatClampNeg (mss (nI j).toNatClampNeg + 1) = upd mss j (mss j + 1) := by rw [kj]
  have ew : upd mnw (nI j).toNatClampNeg (mnw (nI j).toNatClampNeg + 1) = upd mnw j (mnw j + 1) := by rw [kj]
  have same : ∀ p, p ≠ j → mss p = mss p ∧ mnw p = mnw p ∧ wai p = wai p := fun p _ => ⟨rfl, rfl, rfl⟩
  rcases hst with e | e
  · by_cases hf : n = 3 ∨ (ovl j = 0 ∧ (0 < n ∨ hp_Q W ens doi (nI j)))
    · refine ⟨0, 1, ask, upd los j (los j + 1), msd, mss, mnw, wai, req, wdu, Or.inr ⟨rfl, Or.inr n1⟩, hQ, hA, same, Or.inl ⟨e, rfl, rfl⟩, fun post hp => br_t e (xo_forbid _ _ _ _ _ _ _ _ _ _ _ _ _ _ _ _ _ _ _ _ _ _ _ _ _ _ _ _ _ _ _ _ _ j n hj en hn _ (fun _ => br_f n1 ⟨ar_in, ar_in, nm_r el hp⟩) (fun z => br_t rfl (xa_add _ _ _ _ _ _ _ _ _ _ _ _ _ _ _ _ _ _ _ _ _ _ _ _ _ _ _ _ _ _ _ _ _ j n hj en hn _ (fun g => ?_) (fun _ => ⟨ar_in, br_t rfl ⟨ar_in, nm_r el hp⟩⟩)))), fun post hp => yo_full _ _ _ _ _ _ _ _ _ _ _ _ _ _ _ _ _ _ _ _ _ _ _ _ _ _ _ hW j n hj en hn post (fun _ => br_t e (br_f n1 ⟨ar_in, ar_in, nm_r el hp⟩)) (fun z => absurd hf z)⟩
      rcases hf with f | ⟨f1, f2⟩
      · exact absurd f (by omega)
      · exact absurd ⟨f1, f2.elim Or.inl (fun q => Or.inr (PQ.mpr q))⟩ z
    · have n3 : n < 3 := by
        rcases Nat.lt_or_ge n 3 with g | g
        · exact g
        · exact absurd (Or.inl (by omega)) hf
      have nf : ¬ (ovl j = 0 ∧ (0 < n ∨ hp_P bsy wjb (nI j))) := fun z => hf (Or.inr ⟨z.1, z.2.elim Or.inl (fun q => Or.inr (PQ.mp q))⟩)
      refine ⟨1, 0, ask + 1, los, msd, mss, mnw, upd wai j (wai j + 1), upd req (3 * j + n) (nI t), upd wdu (3 * j + n) (nI t), Or.inl ⟨rfl, rfl, e⟩, ?_, ?_, fun p hp => ⟨rfl, rfl, pk_un hp⟩, Or.inl ⟨e, rfl, rfl⟩, fun post hp => br_t e (xo_forbid _ _ _ _ _ _ _ _ _ _ _ _ _ _ _ _ _ _ _ _ _ _ _ _ _ _ _ _ _ _ _ _ _ j n hj en hn _ (fun z => absurd z nf) (fun _ => br_t rfl (xa_add _ _ _ _ _ _ _ _ _ _ _ _ _ _ _ _ _ _ _ _ _ _ _ _ _ _ _ _ _ _ _ _ _ j n hj en hn _ (fun _ => ⟨ar_in, br_f n1 ⟨ar_in, nm_r el0 hp⟩⟩) (fun z => absurd z (by omega))))), fun post hp => yo_full _ _ _ _ _ _ _ _ _ _ _ _ _ _ _ _ _ _ _ _ _ _ _ _ _ _ _ hW j n hj en hn post (fun z => absurd z hf) (fun _ => br_t e (br_t rfl (ya_ask _ _ _ _ _ _ _ _ _ _ _ _ _ _ _ _ _ _ _ _ _ _ _ _ _ _ _ j n hj en n3 _ hp)))⟩
      · intro i hi
        obtain ⟨m, emi, hm3, hqi⟩ := hQ i hi
        by_cases e : i = j
        · subst e
          rw [en] at emi
          have := ar_eq emi
          subst this
          rw [pk_us, en]
          refine ⟨n + 1, nI_1 n, by omega, ?_⟩
          refine lt_s (fun q hq2 => ?_) ?_
          · rw [pk_un (by omega), pk_un (by omega)]
            exact hqi q hq2
          · rw [pk_us, pk_us]
        · rw [pk_un e]
          refine ⟨m, emi, hm3, fun q hq2 => ?_⟩
          rw [pk_un (by omega), pk_un (by omega)]
          exact hqi q hq2
      · rw [rl_Su, if_pos hj, hA]
        grind
  · have ne : ¬ st = 0 := by rw [e]; decide
    by_cases hf : n = 3 ∨ (ovl j = 0 ∧ (0 < n ∨ hp_Q W ens doi (nI j)))
    · exact ⟨0, 1, ask, los, upd msd j (msd j + 1), upd mss j (mss j + 1), upd mnw j (mnw j + 1), wai, req, wdu, Or.inr ⟨rfl, Or.inl ne⟩, hQ, hA, fun p hp => ⟨pk_un hp, pk_un hp, rfl⟩, Or.inr ⟨e, pk_us, pk_us⟩, fun post hp => br_f ne ⟨ar_in, ar_in, nm_r em ⟨ar_in, ar_in, nm_r es hp⟩⟩, fun post hp => yo_full _ _ _ _ _ _ _ _ _ _ _ _ _ _ _ _ _ _ _ _ _ _ _ _ _ _ _ hW j n hj en hn post (fun _ => br_f ne ⟨ar_in, ar_in, nm_r em ⟨ar_in, ar_in, nm_r ew hp⟩⟩) (fun z => absurd hf z)⟩
    · exact ⟨0, 0, ask, los, upd msd j (msd j + 1), upd mss j (mss j + 1), upd mnw j (mnw j + 1), wai, req, wdu, Or.inr ⟨rfl, Or.inl ne⟩, hQ, hA, fun p hp => ⟨pk_un hp, pk_un hp, rfl⟩, Or.inr ⟨e, pk_us, pk_us⟩, fun post hp => br_f ne ⟨ar_in, ar_in, nm_r em ⟨ar_in, ar_in, nm_r es hp⟩⟩, fun post hp => yo_full _ _ _ _ _ _ _ _ _ _ _ _ _ _ _ _ _ _ _ _ _ _ _ _ _ _ _ hW j n hj en hn post (fun z => absurd z hf) (fun _ => br_f ne ⟨ar_in, ar_in, nm_r em ⟨ar_in, ar_in, nm_r ew hp⟩⟩)⟩
theorem td_second (W t rs : Nat) (st nd np no nm ask : Int32) (made kin dur pri ovl mis per mnt hrs day mon wkd nxt sta los msd mss wai req bsy wjb wen kjb kst kdu knd nex prd sets mnw wdu doi ens his fld : Nat → Int32) (ht : t ≤ 1000000) (j : Nat) (hj : j < 12) (x y : Int32) (ha : (x = 1 ∧ y = 0 ∧ st = 0) ∨ (x = 0 ∧ (¬ st = 0 ∨ ¬ y = 0))) (hk : kin j = knd j) (hkk : (knd j = 0 ∧ nex j = nI t) ∨ ((knd j = 1 ∨ knd j = 2) ∧ nex j = nI t ∧ ∃ p, per j = nI p ∧ prd j = nI p ∧ 1 ≤ p ∧ p ≤ 2000) ∨ knd j = 3) : ∃ v w, ((¬ knd j = 3 ∧ rl_n (t + 1) v w) ∨ (knd j = 3 ∧ rl_c (t + 1) (mnt j) (hrs j) (day j) (mon j) (wkd j) v)) ∧ (∀ post : SX → Prop, post ((nI W), (nI t), st, (nI rs), nd, np, no, nm, made, kin, dur, pri, ovl, mis, per, mnt, hrs, day, mon, wkd, (upd nxt j v), sta, los, msd, mss, wai, req, bsy, wjb, wen, kjb, kst, kdu) → wX_takeDueJob_77 post (nI j) x (nI W) (nI t) st (nI rs) nd np no nm made kin dur pri ovl mis per mnt hrs day mon wkd nxt sta los msd mss wai req bsy wjb wen kjb kst kdu) ∧ (∀ post : SY → Prop, post ((nI W), (nI t), (nI rs), st, nd, np, no, nm, ask, knd, dur, pri, ovl, mis, (upd nex j w), prd, sets, sta, los, msd, mnw, wai, wdu, doi, ens, his, fld) → wY_fall_94 post (nI j) y (nI W) (nI t) (nI rs) st nd np no nm ask knd dur pri ovl mis nex prd sets sta los msd mnw wai wdu doi ens his fld) := by
  have kj : (nI j).toNatClampNeg = j := ar_k
  have n1 : ¬ (1 : Int32) = 0 := by decide
  rcases hkk with ⟨h, _⟩ | ⟨h, h2, p, e1, e2, p1, p2⟩ | h
  · have ek : kin (nI j).toNatClampNeg = 0 := ar_c (by rw [hk]; exact h)
    have eY : knd (nI j).toNatClampNeg = 0 := ar_c h
    exact ⟨-2, -1, Or.inl ⟨by rw [h]; decide, Or.inl ⟨rfl, rfl⟩⟩, fun post hp => And.intro ar_in (nm_r ek (br_t (by decide) ⟨ar_in, nm_r ar_u hp⟩)), fun post hp => And.intro ar_in (br_t eY ⟨ar_in, nm_r ar_u ⟨ar_in, br_f (by rw [eY]; decide) ⟨ar_in, br_f (by rw [eY]; decide) hp⟩⟩⟩)⟩
  · have eX : upd nxt (nI j).toNatClampNeg (nI t + per (nI j).toNatClampNeg) = upd nxt j (nI (t + p)) := by rw [kj, e1, nI_add]
    have eZ : upd nex (nI j).toNatClampNeg (nex (nI j).toNatClampNeg + prd (nI j).toNatClampNeg) = upd nex j (nI (t + p)) := by rw [kj, h2, e2, nI_add]
    have eZ2 : upd nex (nI j).toNatClampNeg (nI t + prd (nI j).toNatClampNeg) = upd nex j (nI (t + p)) := by rw [kj, e2, nI_add]
    have hn : rl_n (t + 1) (nI (t + p)) (nI (t + p)) := Or.inr ⟨t + p, rfl, rfl, by omega, by omega⟩
    rcases h with h | h
    · have ek : kin (nI j).toNatClampNeg = 1 := ar_c (by rw [hk]; exact h)
      have eY : knd (nI j).toNatClampNeg = 1 := ar_c h
      exact ⟨nI (t + p), nI (t + p), Or.inl ⟨by rw [h]; decide, hn⟩, fun post hp => And.intro ar_in (nm_r ek (br_f (by decide) (br_f (by decide) (br_t rfl ⟨ar_in, ar_in, nm_r eX hp⟩)))), fun post hp => And.intro ar_in (br_f (by rw [eY]; decide) ⟨ar_in, br_t eY ⟨ar_in, ar_in, ar_in, nm_r eZ ⟨ar_in, br_f (by rw [eY]; decide) hp⟩⟩⟩)⟩
    · have ek : kin (nI j).toNatClampNeg = 2 := ar_c (by rw [hk]; exact h)
      have eY : knd (nI j).toNatClampNeg = 2 := ar_c h
      have k3 : ¬ knd j = 3 := by rw [h]; decide
      have X0 : ∀ post : SX → Prop, ((x = 0 → (vp_in (nI j) 12 ∧ (vp_in (nI j) 12 ∧ (∀ a, a = upd nxt (nI j).toNatClampNeg (nI t + (per (nI j).toNatClampNeg)) → (post ((nI W), (nI t), st, (nI rs), nd, np, no, nm, made, kin, dur, pri, ovl, mis, per, mnt, hrs, day, mon, wkd, a, sta, los, msd, mss, wai, req, bsy, wjb, wen, kjb, kst, kdu)))))) ∧ (¬ x = 0 → (vp_in (nI j) 12 ∧ (∀ a, a = upd nxt (nI j).toNatClampNeg (-2) → (post ((nI W), (nI t), st, (nI rs), nd, np, no, nm, made, kin, dur, pri, ovl, mis, per, mnt, hrs, day, mon, wkd, a, sta, los, msd, mss, wai, req, bsy, wjb, wen, kjb, kst, kdu)))))) → wX_takeDueJob_77 post (nI j) x (nI W) (nI t) st (nI rs) nd np no nm made kin dur pri ovl mis per mnt hrs day mon wkd nxt sta los msd mss wai req bsy wjb wen kjb kst kdu := fun post hh => And.intro ar_in (nm_r ek (br_f (by decide) (br_f (by decide) (br_f (by decide) (br_t rfl hh)))))
      have Y0 : ∀ post : SY → Prop, ((st = 0 → (((y = 0 → (vp_in (nI j) 12 ∧ (∀ a, a = upd nex (nI j).toNatClampNeg (-1) → (post ((nI W), (nI t), (nI rs), st, nd, np, no, nm, ask, knd, dur, pri, ovl, mis, a, prd, sets, sta, los, msd, mnw, wai, wdu, doi, ens, his, fld))))) ∧ (¬ y = 0 → (wY_fall_161 post (nI j) (nI j) (nI W) (nI t) (nI rs) st nd np no nm ask knd dur pri ovl mis nex prd sets sta los msd mnw wai wdu doi ens his fld))))) ∧ (¬ st = 0 → (wY_fall_161 post (nI j) (nI j) (nI W) (nI t) (nI rs) st nd np no nm ask knd dur pri ovl mis nex prd sets sta los msd mnw wai wdu doi ens his fld))) → wY_fall_94 post (nI j) y (nI W) (nI t) (nI rs) st nd np no nm ask knd dur pri ovl mis nex prd sets sta los msd mnw wai wdu doi ens his fld := fun post hh => And.intro ar_in (br_f (by rw [eY]; decide) ⟨ar_in, br_f (by rw [eY]; decide) ⟨ar_in, br_t eY hh⟩⟩)
      rcases ha with ⟨rfl, a2, a3⟩ | ⟨rfl, a2⟩
      · exact ⟨-2, -1, Or.inl ⟨k3, Or.inl ⟨rfl, rfl⟩⟩, fun post hp => X0 post (br_f n1 ⟨ar_in, nm_r ar_u hp⟩), fun post hp => Y0 post (br_t a3 (br_t a2 ⟨ar_in, nm_r ar_u hp⟩))⟩
      · refine ⟨nI (t + p), nI (t + p), Or.inl ⟨k3, hn⟩, fun post hp => X0 post (br_t rfl ⟨ar_in, ar_in, nm_r eX hp⟩), fun post hp => Y0 post ?_⟩
        have h161 : wY_fall_161 post (nI j) (nI j) (nI W) (nI t) (nI rs) st nd np no nm ask knd dur pri ovl mis nex prd sets sta los msd mnw wai wdu doi ens his fld := And.intro ar_in ⟨ar_in, nm_r eZ2 hp⟩
        exact br_c (fun a => br_c (fun c => a2.elim (fun z => absurd a z) (fun z => absurd c z)) (fun _ => h161)) (fun _ => h161)
  · have ek : kin (nI j).toNatClampNeg = 3 := ar_c (by rw [hk]; exact h)
    have eY : knd (nI j).toNatClampNeg = 3 := ar_c h
    obtain ⟨v, hv, hx⟩ := xc_val W t rs st nd np no nm made kin dur pri ovl mis per mnt hrs day mon wkd nxt sta los msd mss wai req bsy wjb wen kjb kst kdu j hj ht
    refine ⟨v, nex j, Or.inr ⟨h, hv⟩, fun post hp => And.intro ar_in (nm_r ek (br_f (by decide) (br_f (by decide) (br_f (by decide) (br_f (by decide) (br_t rfl (hx _ ⟨ar_in, nm_r ar_u hp⟩))))))), fun post hp => And.intro ar_in (br_f (by rw [eY]; decide) ⟨ar_in, br_f (by rw [eY]; decide) ⟨ar_in, br_f (by rw [eY]; decide) ?_⟩⟩)⟩
    rw [up_id rfl] at hp
    exact hp
