/-- a run of job x goes on -/
def hp_P (bsy wjb : Nat → Int32) (x : Int32) : Prop := ∃ w, w < 3 ∧ ¬ bsy w = 0 ∧ wjb w = x
def hp_Q (W : Nat) (ens doi : Nat → Int32) (x : Int32) : Prop := ∃ w, w < W ∧ ¬ ens w ≤ 0 ∧ doi w = x
theorem xr_hasRun (W t rs : Nat) (st nd np no nm : Int32) (made kin dur pri ovl mis per mnt hrs day mon wkd nxt sta los msd mss wai req bsy wjb wen kjb kst kdu : Nat → Int32) (x : Int32) (post : Int32 → Prop) (h1 : hp_P bsy wjb x → post 1) (h0 : ¬ hp_P bsy wjb x → post 0) : wpX_hasRun post ((nI W), (nI t), st, (nI rs), nd, np, no, nm, made, kin, dur, pri, ovl, mis, per, mnt, hrs, day, mon, wkd, nxt, sta, los, msd, mss, wai, req, bsy, wjb, wen, kjb, kst, kdu) x := by
  have key : ∀ d i, i + d = 3 → (∀ w, w < i → ¬ (¬ bsy w = 0 ∧ wjb w = x)) → wX_hasRun_2 post x (nI W) (nI t) st (nI rs) nd np no nm made kin dur pri ovl mis per mnt hrs day mon wkd nxt sta los msd mss wai req bsy wjb wen kjb kst kdu (d + 1) (nI i) := by
    intro d
    induction d with
    | zero =>
      intro i hi hn
      exact pk_le 3 i (fun _ => h0 (fun ⟨w, hw, hb⟩ => hn w (by omega) hb)) (fun h => absurd h (by omega))
    | succ d ih =>
      intro i hi hn
      refine pk_le 3 i (fun h => absurd h (by omega)) (fun h => ⟨ar_in, br_c (fun z => nm_r (nI_1 i) (ih (i + 1) (by omega) ?_)) (fun z => ⟨ar_in, br_c (fun e => h1 ⟨i, h, ar_on z, ar_o e⟩) (fun e => nm_r (nI_1 i) (ih (i + 1) (by omega) ?_))⟩)⟩)
      · exact lt_s hn (fun hh => hh.1 (ar_o z))
      · exact lt_s hn (fun hh => (ar_on e) hh.2)
  exact ⟨4, key 3 0 rfl lt_0⟩
theorem yr_isRunning (W t rs : Nat) (st nd np no nm ask : Int32) (knd dur pri ovl mis nex prd sets sta los msd mnw wai wdu doi ens his fld : Nat → Int32) (hW : W ≤ 3) (x : Int32) (post : Int32 → Prop) (h1 : hp_Q W ens doi x → post 1) (h0 : ¬ hp_Q W ens doi x → post 0) : wpY_isRunning post ((nI W), (nI t), (nI rs), st, nd, np, no, nm, ask, knd, dur, pri, ovl, mis, nex, prd, sets, sta, los, msd, mnw, wai, wdu, doi, ens, his, fld) x := by
  have key : ∀ d i, i + d = W → (∀ w, w < i → ¬ (¬ ens w ≤ 0 ∧ doi w = x)) → wY_isRunning_2 post x (nI W) (nI t) (nI rs) st nd np no nm ask knd dur pri ovl mis nex prd sets sta los msd mnw wai wdu doi ens his fld (d + 1) (nI i) := by
    intro d
    induction d with
    | zero =>
      intro i hi hn
      exact pk_le W i (fun _ => h0 (fun ⟨w, hw, hb⟩ => hn w (by omega) hb)) (fun h => absurd h (by omega))
    | succ d ih =>
      intro i hi hn
      have hk : (nI i).toNatClampNeg = i := ar_k
      refine pk_le W i (fun h => absurd h (by omega)) (fun h => ⟨ar_in, br_c (fun z => nm_r (nI_1 i) (ih (i + 1) (by omega) ?_)) (fun z => ⟨ar_in, br_c (fun e => h1 ⟨i, h, by rw [hk] at z; exact z, ar_o e⟩) (fun e => nm_r (nI_1 i) (ih (i + 1) (by omega) ?_))⟩)⟩)
      · exact lt_s hn (fun hh => hh.1 (by rw [hk] at z; exact z))
      · exact lt_s hn (fun hh => (ar_on e) hh.2)
  exact ⟨_, key W 0 (by omega) lt_0⟩
theorem xr_exists (W t rs : Nat) (st nd np no nm : Int32) (made kin dur pri ovl mis per mnt hrs day mon wkd nxt sta los msd mss wai req bsy wjb wen kjb kst kdu : Nat → Int32) (x : Int32) (post : Int32 → Prop) (h1 : ∀ j, j < 12 → x = nI j → ¬ made j = 0 → post 1) (h0 : (∀ j, j < 12 → x = nI j → made j = 0) → post 0) : wpX_exists post ((nI W), (nI t), st, (nI rs), nd, np, no, nm, made, kin, dur, pri, ovl, mis, per, mnt, hrs, day, mon, wkd, nxt, sta, los, msd, mss, wai, req, bsy, wjb, wen, kjb, kst, kdu) x := by
  rcases pk_ix x (n := 12) (by omega) with h | h | ⟨j, hj, rfl⟩
  · exact br_t h (h0 (fun j hj e => absurd h (by rw [e]; exact nI_pos (by omega))))
  · refine br_f (fun z => ?_) (br_t h (h0 (fun j hj e => absurd h (by rw [e]; exact ar_nle hj))))
    exact absurd (Int32.lt_of_le_of_lt h z) (by decide)
  · refine br_f (nI_pos (by omega)) (br_f (ar_nle (a := 12) hj) ⟨ar_in, br_c (fun z => h0 ?_) (fun z => h1 j hj rfl (ar_on z))⟩)
    intro i hi e
    have := ar_eq e
    subst this
    exact ar_o z
theorem yr_isJob (W t rs : Nat) (st nd np no nm ask : Int32) (knd dur pri ovl mis nex prd sets sta los msd mnw wai wdu doi ens his fld : Nat → Int32) (x : Int32) (post : Int32 → Prop) (h1 : ∀ j, j < 12 → x = nI j → ¬ knd j < 0 → post 1) (h0 : (∀ j, j < 12 → x = nI j → knd j < 0) → post 0) : wpY_isJob post ((nI W), (nI t), (nI rs), st, nd, np, no, nm, ask, knd, dur, pri, ovl, mis, nex, prd, sets, sta, los, msd, mnw, wai, wdu, doi, ens, his, fld) x := by
  rcases pk_ix x (n := 12) (by omega) with h | h | ⟨j, hj, rfl⟩
  · exact br_t h (h0 (fun j hj e => absurd h (by rw [e]; exact nI_pos (by omega))))
  · refine br_f (fun z => ?_) (br_t h (h0 (fun j hj e => absurd h (by rw [e]; exact ar_nle hj))))
    exact absurd (Int32.lt_of_le_of_lt h z) (by decide)
  · have hk : (nI j).toNatClampNeg = j := ar_k
    refine br_f (nI_pos (by omega)) (br_f (ar_nle (a := 12) hj) ⟨ar_in, br_c (fun z => h0 ?_) (fun z => h1 j hj rfl (by rw [hk] at z; exact z))⟩)
    intro i hi e
    have := ar_eq e
    subst this
    rw [hk] at z; exact z
theorem yr_within (x a b : Int32) (post : Int32 → Prop) (h1 : ¬ x < a → ¬ b < x → post 1) (h0 : (x < a ∨ b < x) → post 0) : wpY_within post x a b :=
  br_c (fun h => h0 (Or.inl h)) (fun h => br_c (fun g => h0 (Or.inr g)) (fun g => h1 h g))
theorem xr_minute (W t rs : Nat) (st nd np no nm : Int32) (made kin dur pri ovl mis per mnt hrs day mon wkd nxt sta los msd mss wai req bsy wjb wen kjb kst kdu : Nat → Int32) (s : Nat) (hs : s < 2147483648) (post : Int32 → Prop) (h : post (nI (s % 10))) : wpX_minuteAt post ((nI W), (nI t), st, (nI rs), nd, np, no, nm, made, kin, dur, pri, ovl, mis, per, mnt, hrs, day, mon, wkd, nxt, sta, los, msd, mss, wai, req, bsy, wjb, wen, kjb, kst, kdu) (nI s) :=
  And.intro (by decide) (by rw [← ar_rem hs (d := 10) (by omega) (by omega)] at h; exact h)
theorem xr_hour (W t rs : Nat) (st nd np no nm : Int32) (made kin dur pri ovl mis per mnt hrs day mon wkd nxt sta los msd mss wai req bsy wjb wen kjb kst kdu : Nat → Int32) (s : Nat) (hs : s < 2147483648) (post : Int32 → Prop) (h : post (nI (s / 10 % 8))) : wpX_hourAt post ((nI W), (nI t), st, (nI rs), nd, np, no, nm, made, kin, dur, pri, ovl, mis, per, mnt, hrs, day, mon, wkd, nxt, sta, los, msd, mss, wai, req, bsy, wjb, wen, kjb, kst, kdu) (nI s) :=
  And.intro (by decide) ⟨by decide, by rw [← ar_rem2 hs (c := 10) (d := 8) (by omega) (by omega) (by omega) (by omega)] at h; exact h⟩
theorem xr_month (W t rs : Nat) (st nd np no nm : Int32) (made kin dur pri ovl mis per mnt hrs day mon wkd nxt sta los msd mss wai req bsy wjb wen kjb kst kdu : Nat → Int32) (s : Nat) (hs : s < 2147483648) (post : Int32 → Prop) (h : post (nI (s / 800 % 4))) : wpX_monthIndexAt post ((nI W), (nI t), st, (nI rs), nd, np, no, nm, made, kin, dur, pri, ovl, mis, per, mnt, hrs, day, mon, wkd, nxt, sta, los, msd, mss, wai, req, bsy, wjb, wen, kjb, kst, kdu) (nI s) :=
  And.intro (by decide) ⟨by decide, by rw [← ar_rem2 hs (c := 800) (d := 4) (by omega) (by omega) (by omega) (by omega)] at h; exact h⟩
theorem xr_day (W t rs : Nat) (st nd np no nm : Int32) (made kin dur pri ovl mis per mnt hrs day mon wkd nxt sta los msd mss wai req bsy wjb wen kjb kst kdu : Nat → Int32) (s : Nat) (hs : s < 2147483648) (post : Int32 → Prop) (h : post (nI (s / 80 % 10))) : wpX_dayIndexAt post ((nI W), (nI t), st, (nI rs), nd, np, no, nm, made, kin, dur, pri, ovl, mis, per, mnt, hrs, day, mon, wkd, nxt, sta, los, msd, mss, wai, req, bsy, wjb, wen, kjb, kst, kdu) (nI s) :=
  And.intro (by decide) ⟨by decide, by rw [← ar_rem2 hs (c := 80) (d := 10) (by omega) (by omega) (by omega) (by omega)] at h; exact h⟩
theorem xr_week (W t rs : Nat) (st nd np no nm : Int32) (made kin dur pri ovl mis per mnt hrs day mon wkd nxt sta los msd mss wai req bsy wjb wen kjb kst kdu : Nat → Int32) (s : Nat) (hs : s < 2147483648) (post : Int32 → Prop) (h : post (nI (s / 80 % 7))) : wpX_weekdayAt post ((nI W), (nI t), st, (nI rs), nd, np, no, nm, made, kin, dur, pri, ovl, mis, per, mnt, hrs, day, mon, wkd, nxt, sta, los, msd, mss, wai, req, bsy, wjb, wen, kjb, kst, kdu) (nI s) :=
  And.intro (by decide) ⟨by decide, by rw [← ar_rem2 hs (c := 80) (d := 7) (by omega) (by omega) (by omega) (by omega)] at h; exact h⟩
/-- the field of time s, by number -/
def ca_f (s k : Nat) : Int32 := if k = 0 then nI (s % 10) else if k = 1 then nI (s / 10 % 8) else if k = 2 then nI (s / 80 % 10) else if k = 3 then nI (s / 800 % 4) else nI (s / 80 % 7)
theorem yr_field (s k : Nat) (hs : s < 2147483648) (hk : k < 5) (post : Int32 → Prop) (h : post (ca_f s k)) : wpY_field post (nI s) (nI k) := by
  unfold ca_f at h
  refine pk_eq k 0 (fun e => ?_) (fun e => ?_)
  · rw [if_pos e, ← ar_rem hs (d := 10) (by omega) (by omega)] at h
    exact ⟨by decide, h⟩
  · rw [if_neg e] at h
    refine pk_eq k 1 (fun e => ?_) (fun e => ?_)
    · rw [if_pos e, ← ar_rem2 hs (c := 10) (d := 8) (by omega) (by omega) (by omega) (by omega)] at h
      exact ⟨by decide, by decide, h⟩
    · rw [if_neg e] at h
      refine pk_eq k 2 (fun e => ?_) (fun e => ?_)
      · rw [if_pos e, ← ar_rem2 hs (c := 80) (d := 10) (by omega) (by omega) (by omega) (by omega)] at h
        exact ⟨by decide, by decide, h⟩
      · rw [if_neg e] at h
        refine pk_eq k 3 (fun e => ?_) (fun e => ?_)
        · rw [if_pos e, ← ar_rem2 hs (c := 800) (d := 4) (by omega) (by omega) (by omega) (by omega)] at h
          exact ⟨by decide, by decide, h⟩
        · rw [if_neg e, ← ar_rem2 hs (c := 80) (d := 7) (by omega) (by omega) (by omega) (by omega)] at h
          exact ⟨by decide, by decide, h⟩
/-- the fields array holds time s -/
def ca_F (s : Nat) (fld : Nat → Int32) : Prop := ∀ k, k < 5 → fld k = ca_f s k
theorem yr_read (W t rs : Nat) (st nd np no nm ask : Int32) (knd dur pri ovl mis nex prd sets sta los msd mnw wai wdu doi ens his fld : Nat → Int32) (s : Nat) (hs : s < 2147483648) (post : SY → Prop) (h : ∀ fld', ca_F s fld' → post ((nI W), (nI t), (nI rs), st, nd, np, no, nm, ask, knd, dur, pri, ovl, mis, nex, prd, sets, sta, los, msd, mnw, wai, wdu, doi, ens, his, fld')) : wpY_read post ((nI W), (nI t), (nI rs), st, nd, np, no, nm, ask, knd, dur, pri, ovl, mis, nex, prd, sets, sta, los, msd, mnw, wai, wdu, doi, ens, his, fld) (nI s) := by
  have key : ∀ d i fld, i + d = 5 → (∀ k, k < i → fld k = ca_f s k) → wY_read_2 post (nI s) (nI W) (nI t) (nI rs) st nd np no nm ask (d + 1) (nI i) knd dur pri ovl mis nex prd sets sta los msd mnw wai wdu doi ens his fld := by
    intro d
    induction d with
    | zero =>
      intro i fld hi hn
      exact pk_le 5 i (fun _ => h fld (fun k hk => hn k (by omega))) (fun h => absurd h (by omega))
    | succ d ih =>
      intro i fld hi hn
      refine pk_le 5 i (fun h => absurd h (by omega)) (fun hh => yr_field s i hs (by omega) _ ⟨ar_in, nm_r ar_u (nm_r (nI_1 i) (ih (i + 1) _ (by omega) ?_))⟩)
      refine lt_s (fun k hk => ?_) pk_us
      rw [pk_un (by omega)]
      exact hn k hk
  exact ⟨6, key 5 0 fld rfl lt_0⟩
