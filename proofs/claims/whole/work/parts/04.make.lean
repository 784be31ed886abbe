/-- the first number that is free, or 12 -/
theorem fr_ex (p : Nat → Prop) : ∃ m, m ≤ 12 ∧ (∀ j, j < m → ¬ p j) ∧ (m < 12 → p m) := by
  have key : ∀ d i, i + d = 12 → (∀ j, j < i → ¬ p j) → ∃ m, m ≤ 12 ∧ (∀ j, j < m → ¬ p j) ∧ (m < 12 → p m) := by
    intro d
    induction d with
    | zero => intro i hi h; exact ⟨i, by omega, h, fun z => absurd z (by omega)⟩
    | succ d ih =>
      intro i hi h
      by_cases hp : p i
      · exact ⟨i, by omega, h, fun _ => hp⟩
      · exact ih (i + 1) (by omega) (lt_s h hp)
  exact key 12 0 rfl lt_0
theorem xm_reset (W t rs : Nat) (st nd np no nm : Int32) (made kin dur pri ovl mis per mnt hrs day mon wkd nxt sta los msd mss wai req bsy wjb wen kjb kst kdu : Nat → Int32) (j : Nat) (hj : j < 12) (kd : Int32) (post : SX → Prop) (h : post ((nI W), (nI t), st, (nI rs), nd, np, no, nm, (upd made j 1), (upd kin j kd), (upd dur j nd), (upd pri j np), (upd ovl j no), (upd mis j nm), per, mnt, hrs, day, mon, wkd, nxt, (upd sta j 0), (upd los j 0), (upd msd j 0), (upd mss j 0), (upd wai j 0), req, bsy, wjb, wen, kjb, kst, kdu)) : wpX_resetJob post ((nI W), (nI t), st, (nI rs), nd, np, no, nm, made, kin, dur, pri, ovl, mis, per, mnt, hrs, day, mon, wkd, nxt, sta, los, msd, mss, wai, req, bsy, wjb, wen, kjb, kst, kdu) (nI j) kd :=
  ⟨ar_in, nm_r (by rw [ar_nb1]; exact ar_u) ⟨ar_in, nm_r ar_u ⟨ar_in, nm_r ar_u ⟨ar_in, nm_r ar_u ⟨ar_in, nm_r ar_u ⟨ar_in, nm_r ar_u ⟨ar_in, nm_r ar_u ⟨ar_in, nm_r ar_u ⟨ar_in, nm_r ar_u ⟨ar_in, nm_r ar_u ⟨ar_in, nm_r ar_u h⟩⟩⟩⟩⟩⟩⟩⟩⟩⟩⟩
theorem xm_make (W t rs : Nat) (st nd np no nm : Int32) (made kin dur pri ovl mis per mnt hrs day mon wkd nxt sta los msd mss wai req bsy wjb wen kjb kst kdu : Nat → Int32) (m : Nat) (hm : m ≤ 12) (hb : ∀ j, j < m → ¬ made j = 0) (he : m < 12 → made m = 0) (kd : Int32) (post : Int32 → SX → Prop) (h12 : m = 12 → post (-1) ((nI W), (nI t), st, (nI rs), nd, np, no, nm, made, kin, dur, pri, ovl, mis, per, mnt, hrs, day, mon, wkd, nxt, sta, los, msd, mss, wai, req, bsy, wjb, wen, kjb, kst, kdu)) (h : m < 12 → post (nI m) ((nI W), (nI t), st, (nI rs), nd, np, no, nm, (upd made m 1), (upd kin m kd), (upd dur m nd), (upd pri m np), (upd ovl m no), (upd mis m nm), per, mnt, hrs, day, mon, wkd, nxt, (upd sta m 0), (upd los m 0), (upd msd m 0), (upd mss m 0), (upd wai m 0), req, bsy, wjb, wen, kjb, kst, kdu)) : wpX_makeJob post ((nI W), (nI t), st, (nI rs), nd, np, no, nm, made, kin, dur, pri, ovl, mis, per, mnt, hrs, day, mon, wkd, nxt, sta, los, msd, mss, wai, req, bsy, wjb, wen, kjb, kst, kdu) kd := by
  have key : ∀ d i, i + d = m → wX_makeJob_2 post kd (nI W) (nI t) st (nI rs) nd np no nm made kin dur pri ovl mis per mnt hrs day mon wkd nxt sta los msd mss wai req bsy wjb wen kjb kst kdu (d + 1) (nI i) := by
    intro d
    induction d with
    | zero =>
      intro i hi
      have hi' : i = m := by omega
      subst hi'
      exact pk_le 12 i (fun g => h12 (by omega)) (fun g => ⟨ar_in, br_t (ar_c (he g)) (xm_reset _ _ _ _ _ _ _ _ _ _ _ _ _ _ _ _ _ _ _ _ _ _ _ _ _ _ _ _ _ _ _ _ _ i g kd _ (h g))⟩)
    | succ d ih =>
      intro i hi
      exact pk_le 12 i (fun g => absurd g (by omega)) (fun g => ⟨ar_in, br_f (ar_n (hb i (by omega))) (nm_r (nI_1 i) (ih (i + 1) (by omega)))⟩)
  exact ⟨_, key m 0 (by omega)⟩
theorem ym_free (W t rs : Nat) (st nd np no nm ask : Int32) (knd dur pri ovl mis nex prd sets sta los msd mnw wai wdu doi ens his fld : Nat → Int32) (m : Nat) (hm : m ≤ 12) (hb : ∀ j, j < m → ¬ knd j < 0) (he : m < 12 → knd m < 0) (post : Int32 → Prop) (h12 : m = 12 → post (-1)) (h : m < 12 → post (nI m)) : wpY_free post ((nI W), (nI t), (nI rs), st, nd, np, no, nm, ask, knd, dur, pri, ovl, mis, nex, prd, sets, sta, los, msd, mnw, wai, wdu, doi, ens, his, fld) := by
  have key : ∀ d i, i + d = m → wY_free_2 post (nI W) (nI t) (nI rs) st nd np no nm ask knd dur pri ovl mis nex prd sets sta los msd mnw wai wdu doi ens his fld (d + 1) (nI i) := by
    intro d
    induction d with
    | zero =>
      intro i hi
      have hi' : i = m := by omega
      subst hi'
      refine pk_le 12 i (fun g => h12 (by omega)) (fun g => ⟨ar_in, br_f ?_ (h g)⟩)
      rw [ar_k]
      exact Int32.not_le.mpr (he g)
    | succ d ih =>
      intro i hi
      refine pk_le 12 i (fun g => absurd g (by omega)) (fun g => ⟨ar_in, br_t ?_ (nm_r (nI_1 i) (ih (i + 1) (by omega)))⟩)
      rw [ar_k]
      exact Int32.not_lt.mp (hb i (by omega))
  exact ⟨_, key m 0 (by omega)⟩
theorem ym_make (W t rs : Nat) (st nd np no nm ask : Int32) (knd dur pri ovl mis nex prd sets sta los msd mnw wai wdu doi ens his fld : Nat → Int32) (m : Nat) (hm : m < 12) (hb : ∀ j, j < m → ¬ knd j < 0) (he : knd m < 0) (kd at_ pe : Int32) (post : Int32 → SY → Prop) (h : post (nI m) ((nI W), (nI t), (nI rs), st, nd, np, no, nm, ask, (upd knd m kd), (upd dur m nd), (upd pri m np), (upd ovl m no), (upd mis m nm), (upd nex m at_), (upd prd m pe), sets, (upd sta m 0), (upd los m 0), (upd msd m 0), (upd mnw m 0), (upd wai m 0), wdu, doi, ens, his, fld)) : wpY_make post ((nI W), (nI t), (nI rs), st, nd, np, no, nm, ask, knd, dur, pri, ovl, mis, nex, prd, sets, sta, los, msd, mnw, wai, wdu, doi, ens, his, fld) kd at_ pe := by
  unfold wpY_make
  dsimp only
  exact ym_free _ _ _ _ _ _ _ _ _ _ _ _ _ _ _ _ _ _ _ _ _ _ _ _ _ _ _ m (by omega) hb (fun _ => he) _ (fun z => absurd z (by omega)) (fun _ => ⟨ar_in, nm_r ar_u ⟨ar_in, nm_r ar_u ⟨ar_in, nm_r ar_u ⟨ar_in, nm_r ar_u ⟨ar_in, nm_r ar_u ⟨ar_in, nm_r ar_u ⟨ar_in, nm_r ar_u ⟨ar_in, nm_r ar_u ⟨ar_in, nm_r ar_u ⟨ar_in, nm_r ar_u ⟨ar_in, nm_r ar_u ⟨ar_in, nm_r ar_u h⟩⟩⟩⟩⟩⟩⟩⟩⟩⟩⟩⟩)
