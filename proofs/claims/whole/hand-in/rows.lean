section
theorem pk_us {f : Nat → Int32} {k : Nat} {x : Int32} : upd f k x k = x := if_pos rfl
theorem pk_un {f : Nat → Int32} {k j : Nat} {x : Int32} (h : j ≠ k) : upd f k x j = f j := if_neg h
theorem pk_sub {a b : Nat} (h : b ≤ a) : nI a - nI b = nI (a - b) := by
  obtain ⟨c, rfl⟩ : ∃ c, a = c + b := ⟨a - b, by omega⟩
  rw [← nI_add, Int32.add_sub_cancel, Nat.add_sub_cancel]
theorem pk_m1 (n : Nat) : nI (n + 1) + (-1) = nI n := by
  rw [← nI_1, Int32.add_assoc, show (1 : Int32) + (-1) = 0 from rfl, Int32.add_zero]
theorem pk_mul (a b : Nat) : nI a * nI b = nI (a * b) := (Int32.ofNat_mul a b).symm
theorem pk_div {a d : Nat} (ha : a < 2 ^ 31) (h0 : 0 < d) (hd : d < 2 ^ 31) : nI a / nI d = nI (a / d) := by
  apply Int32.toInt_inj.mp
  rw [lg_idiv_nonneg (by rw [nI_toInt ha]; omega) (by rw [nI_toInt hd]; omega), nI_toInt ha, nI_toInt hd, nI_toInt (Nat.lt_of_le_of_lt (Nat.div_le_self a d) ha)]
  first | rfl | exact (Int.natCast_ediv _ _).symm
theorem pk_rem {a d : Nat} (ha : a < 2 ^ 31) (h0 : 0 < d) (hd : d < 2 ^ 31) : nI a - nI a / nI d * nI d = nI (a % d) := by
  rw [pk_div ha h0 hd, pk_mul, pk_sub (Nat.div_mul_le_self a d)]
  exact congrArg nI (by have := Nat.div_add_mod' a d; omega)
theorem pk_ix (x : Int32) {n : Nat} (hn : n < 2 ^ 31) : x < 0 ∨ nI n ≤ x ∨ ∃ j : Nat, j < n ∧ x = nI j := by
  by_cases h : x < 0
  · exact Or.inl h
  · obtain ⟨j, hj, rfl⟩ := nI_of h
    by_cases h2 : j < n
    · exact Or.inr (Or.inr ⟨j, h2, rfl⟩)
    · exact Or.inr (Or.inl (nI_le (by omega) hj))
theorem pk_le {x y : Int32} {A B : Prop} (a b : Nat) (f : a ≤ b → A) (g : b < a → B) (hx : x = nI a := by rfl) (hy : y = nI b := by rfl) (ha : a < 2 ^ 31 := by omega) (hb : b < 2 ^ 31 := by omega) : (x ≤ y → A) ∧ (¬ x ≤ y → B) := by
  subst hx hy
  rw [nI_leI ha hb]
  exact ⟨f, fun z => g (by omega)⟩
theorem pk_lt {x y : Int32} {A B : Prop} (a b : Nat) (f : a < b → A) (g : b ≤ a → B) (hx : x = nI a := by rfl) (hy : y = nI b := by rfl) (ha : a < 2 ^ 31 := by omega) (hb : b < 2 ^ 31 := by omega) : (x < y → A) ∧ (¬ x < y → B) := by
  subst hx hy
  rw [nI_ltI ha hb]
  exact ⟨f, fun z => g (by omega)⟩
theorem pk_eq {x y : Int32} {A B : Prop} (a b : Nat) (f : a = b → A) (g : a ≠ b → B) (hx : x = nI a := by rfl) (hy : y = nI b := by rfl) (ha : a < 2 ^ 31 := by omega) (hb : b < 2 ^ 31 := by omega) : (x = y → A) ∧ (¬ x = y → B) := by
  subst hx hy
  rw [nI_eq ha hb]
  exact ⟨f, g⟩
theorem pk_in {x : Int32} (n N : Nat) (h : n < N) (hx : x = nI n := by rfl) (hN : N < 2 ^ 31 := by omega) : vp_in x N := by
  subst hx
  exact vp_in_nI h hN
theorem pk_cl {x : Int32} (n : Nat) (hx : x = nI n := by rfl) (h : n < 2 ^ 31 := by omega) : x.toNatClampNeg = n := by
  subst hx
  exact nI_clamp h
def bt (x : Int32) (i : Nat) : Bool := x.toBitVec.getLsbD i
theorem b_ext {x y : Int32} (h : ∀ i, i < 32 → bt x i = bt y i) : x = y := Int32.toBitVec_inj.mp (BitVec.eq_of_getLsbD_eq (fun i hi => h i hi))
theorem b_and (x y : Int32) (i : Nat) : bt (x &&& y) i = (bt x i && bt y i) := by unfold bt; rw [Int32.toBitVec_and, BitVec.getLsbD_and]
theorem b_xor (x y : Int32) (i : Nat) : bt (x ^^^ y) i = (bt x i ^^ bt y i) := by unfold bt; rw [Int32.toBitVec_xor, BitVec.getLsbD_xor]
theorem b_big {x : Int32} {i : Nat} (h : 32 ≤ i) : bt x i = false := BitVec.getLsbD_of_ge _ _ h
theorem b_m1 : ∀ i, i < 32 → bt (-1) i = true := by decide +kernel
theorem b_0 (i : Nat) : bt 0 i = false := BitVec.getLsbD_zero

theorem ar_nb0 : vp_nar .boolean 0 = 0 := rfl
theorem ar_nb1 : vp_nar .boolean 1 = 1 := rfl
theorem ar_nw0 : narrow .boolean (.int 0) = .int 0 := rfl
theorem ar_nw1 : narrow .boolean (.int 1) = .int 1 := rfl
theorem ar_cl {a : Nat → Int32} {i : Nat} (h : i < 1000 := by omega) : a (nI i).toNatClampNeg = a i := by rw [nI_clamp (by omega)]
theorem ar_c {a : Nat → Int32} {i : Nat} {x : Int32} (h : a i = x) (hi : i < 1000 := by omega) : a (nI i).toNatClampNeg = x := by rw [nI_clamp (by omega)]; exact h
theorem ar_n {a : Nat → Int32} {i : Nat} {x : Int32} (h : ¬ a i = x) (hi : i < 1000 := by omega) : ¬ a (nI i).toNatClampNeg = x := by rw [nI_clamp (by omega)]; exact h
theorem ar_o {a : Nat → Int32} {i : Nat} {x : Int32} (h : a (nI i).toNatClampNeg = x) (hi : i < 1000 := by omega) : a i = x := by rw [nI_clamp (by omega)] at h; exact h
theorem ar_on {a : Nat → Int32} {i : Nat} {x : Int32} (h : ¬ a (nI i).toNatClampNeg = x) (hi : i < 1000 := by omega) : ¬ a i = x := by rw [nI_clamp (by omega)] at h; exact h
theorem ar_u {a : Nat → Int32} {i : Nat} {x : Int32} (hi : i < 1000 := by omega) : upd a (nI i).toNatClampNeg x = upd a i x := by rw [nI_clamp (by omega)]
theorem ar_k {i : Nat} (hi : i < 1000 := by omega) : (nI i).toNatClampNeg = i := nI_clamp (by omega)
theorem ar_m1 : (-1 : Int32) < 0 := by decide
theorem ar_m2 : (-2 : Int32) < 0 := by decide
theorem ar_ne1 {i : Nat} (h : i < 2147483648 := by omega) : ¬ nI i = -1 := by
  intro e
  exact nI_pos h (by rw [e]; decide)
theorem ar_ne2 {i : Nat} (h : i < 2147483648 := by omega) : ¬ nI i = -2 := by
  intro e
  exact nI_pos h (by rw [e]; decide)
theorem ar_le {a b : Nat} (h : a ≤ b) (hb : b < 2147483648 := by omega) : nI a ≤ nI b := nI_le h hb
theorem ar_nle {a b : Nat} (h : b < a) (hb : a < 2147483648 := by omega) : ¬ nI a ≤ nI b := nI_ge h hb
theorem ar_lt {a b : Nat} (h : a < b) (hb : b < 2147483648 := by omega) : nI a < nI b := nI_lt h hb
theorem ar_nlt {a b : Nat} (h : b ≤ a) (hb : a < 2147483648 := by omega) : ¬ nI a < nI b := nI_nlt h hb
theorem ar_eq {a b : Nat} (h : nI a = nI b) (ha : a < 2147483648 := by omega) (hb : b < 2147483648 := by omega) : a = b := (nI_eq ha hb).mp h
theorem ar_inj {a b : Nat} (h : a ≠ b) (ha : a < 2147483648 := by omega) (hb : b < 2147483648 := by omega) : ¬ nI a = nI b := fun e => h (ar_eq e ha hb)
theorem ar_in {i N : Nat} (h : i < N := by omega) (hN : N < 2147483648 := by omega) : vp_in (nI i) N := vp_in_nI h hN
theorem ar_x3 (j : Nat) : nI j * 3 = nI (3 * j) := by
  rw [show (3 : Int32) = nI 3 from rfl, pk_mul, Nat.mul_comm]
theorem ar_3x (j : Nat) : 3 * nI j = nI (3 * j) := by
  rw [show (3 : Int32) = nI 3 from rfl, pk_mul]
theorem ar_5x (j : Nat) : 5 * nI j = nI (5 * j) := by
  rw [show (5 : Int32) = nI 5 from rfl, pk_mul]
theorem ar_mask (x m : Int32) (k : Nat) (hm : ∀ i, i < 32 → bt m i = decide (i < k)) : (x &&& (m ^^^ (-1))) = 0 ↔ x.toBitVec.toNat < 2 ^ k := by
  constructor
  · intro h
    apply Nat.lt_pow_two_of_testBit
    intro i hi
    show bt x i = false
    rcases Nat.lt_or_ge i 32 with h3 | h3
    · have e := congrArg (fun z => bt z i) h
      rw [b_and, b_xor, b_m1 i h3, hm i h3, b_0, decide_eq_false (by omega)] at e
      simpa using e
    · exact b_big h3
  · intro h
    apply b_ext
    intro i hi
    rw [b_and, b_xor, b_m1 i hi, hm i hi, b_0]
    by_cases hk : i < k
    · simp [hk]
    · have : bt x i = false := by
        show x.toBitVec.toNat.testBit i = false
        exact Nat.testBit_lt_two_pow (Nat.lt_of_lt_of_le h (Nat.pow_le_pow_right (by decide) (by omega)))
      simp [this]
theorem ar_tn {x : Int32} {k : Nat} (hk : k < 31) (h : x.toBitVec.toNat < 2 ^ k) : x = nI x.toBitVec.toNat := by
  apply Int32.toBitVec_inj.mp
  apply BitVec.eq_of_toNat_eq
  show _ = (BitVec.ofNat 32 _).toNat
  rw [BitVec.toNat_ofNat]
  exact (Nat.mod_eq_of_lt x.toBitVec.isLt).symm
/-- a set of k bits, as both sides test it -/
theorem ar_set (x m : Int32) (k : Nat) (hk : k < 31) (hm : ∀ i, i < 32 → bt m i = decide (i < k)) : (¬ x = 0 ∧ (x &&& (m ^^^ (-1))) = 0) ↔ (¬ x ≤ 0 ∧ ¬ nI (2 ^ k) ≤ x) := by
  have h2 : 2 ^ k < 2 ^ 31 := Nat.pow_lt_pow_right (by decide) hk
  rw [ar_mask x m k hm]
  constructor
  · intro ⟨h0, h⟩
    have e := ar_tn hk h
    generalize x.toBitVec.toNat = n at e h
    subst e
    have hn : n ≠ 0 := fun z => h0 (by rw [z]; rfl)
    exact ⟨nI_nle (by omega) (by omega), nI_ge h h2⟩
  · intro ⟨h0, h⟩
    have hx : ¬ x < 0 := fun z => h0 (Int32.le_of_lt z)
    obtain ⟨n, hn, rfl⟩ := nI_of hx
    rw [nI_leI h2 hn] at h
    refine ⟨fun z => h0 (by rw [z]; decide), ?_⟩
    show (BitVec.ofNat 32 n).toNat < _
    rw [BitVec.toNat_ofNat, Nat.mod_eq_of_lt (by omega)]
    omega
theorem ar_b1023 : ∀ i, i < 32 → bt 1023 i = decide (i < 10) := by decide +kernel
theorem ar_b255 : ∀ i, i < 32 → bt 255 i = decide (i < 8) := by decide +kernel
theorem ar_b15 : ∀ i, i < 32 → bt 15 i = decide (i < 4) := by decide +kernel
theorem ar_b127 : ∀ i, i < 32 → bt 127 i = decide (i < 7) := by decide +kernel
/-- calendar -/
def ca_has (s f : Int32) : Prop := ((s >>> (f &&& 31)) &&& 1) = 1
def ca_fit (s0 s1 s2 s3 s4 : Int32) (t : Nat) : Prop := ca_has s0 (nI (t % 10)) ∧ ca_has s1 (nI (t / 10 % 8)) ∧ ca_has s3 (nI (t / 800 % 4)) ∧ (((s2 = 1023 ∨ s4 = 127) ∧ ca_has s2 (nI (t / 80 % 10)) ∧ ca_has s4 (nI (t / 80 % 7))) ∨ (¬ (s2 = 1023 ∨ s4 = 127) ∧ (ca_has s2 (nI (t / 80 % 10)) ∨ ca_has s4 (nI (t / 80 % 7)))))
theorem ca_per (s0 s1 s2 s3 s4 : Int32) (t : Nat) : ca_fit s0 s1 s2 s3 s4 (t + 22400) ↔ ca_fit s0 s1 s2 s3 s4 t := by
  unfold ca_fit
  rw [show (t + 22400) % 10 = t % 10 by omega, show (t + 22400) / 10 % 8 = t / 10 % 8 by omega, show (t + 22400) / 800 % 4 = t / 800 % 4 by omega, show (t + 22400) / 80 % 10 = t / 80 % 10 by omega, show (t + 22400) / 80 % 7 = t / 80 % 7 by omega]
theorem ca_nev {s0 s1 s2 s3 s4 : Int32} {b : Nat} (h : ∀ s, b ≤ s → s < b + 22400 → ¬ ca_fit s0 s1 s2 s3 s4 s) : ∀ s, b ≤ s → ¬ ca_fit s0 s1 s2 s3 s4 s := by
  intro s
  induction s using Nat.strongRecOn with
  | ind s ih =>
    intro hb
    rcases Nat.lt_or_ge s (b + 22400) with h1 | h1
    · exact h s hb h1
    · obtain ⟨r, rfl⟩ : ∃ r, s = r + 22400 := ⟨s - 22400, by omega⟩
      rw [ca_per]
      exact ih r (by omega) (by omega)
theorem ar_rem {s d : Nat} (hs : s < 2147483648) (h0 : 0 < d) (hd : d < 1000) : nI s - nI s / nI d * nI d = nI (s % d) := pk_rem (by omega) h0 (by omega)
theorem ar_rem2 {s c d : Nat} (hs : s < 2147483648) (hc : 0 < c) (hc2 : c < 1000) (h0 : 0 < d) (hd : d < 1000) : nI s / nI c - nI s / nI c / nI d * nI d = nI (s / c % d) := by
  have := Nat.div_le_self s c
  rw [pk_div (by omega) hc (by omega)]
  exact pk_rem (by omega) h0 (by omega)
end
section
/-- a run of job x goes on -/
def hp_P (bsy wjb : Nat → Int32) (x : Int32) : Prop := ∃ w, w < 3 ∧ ¬ bsy w = 0 ∧ wjb w = x
def hp_Q (W : Nat) (ens doi : Nat → Int32) (x : Int32) : Prop := ∃ w, w < W ∧ ¬ ens w ≤ 0 ∧ doi w = x
theorem xr_hasRun (W t rs : Nat) (st nd np no nm : Int32) (made kin dur pri ovl mis per mnt hrs day mon wkd nxt sta los msd mss wai req bsy wjb wen kjb kst kdu : Nat → Int32) (x : Int32) (post : Int32 → Prop) (h1 : hp_P bsy wjb x → post 1) (h0 : ¬ hp_P bsy wjb x → post 0) : wpX_hasRun post ((nI W), (nI t), st, (nI rs), nd, np, no, nm, made, kin, dur, pri, ovl, mis, per, mnt, hrs, day, mon, wkd, nxt, sta, los, msd, mss, wai, req, bsy, wjb, wen, kjb, kst, kdu) x := by
  have key : ∀ d i, i + d = 3 → (∀ w, w < i → ¬ (¬ bsy w = 0 ∧ wjb w = x)) → wX_hasRun_2 post x (nI W) (nI t) st (nI rs) nd np no nm made kin dur pri ovl mis per mnt hrs day mon wkd nxt sta los msd mss wai req bsy wjb wen kjb kst kdu (d + 1) (nI i) := by
    intro d
    induction d with
    | zero =>
      intro i hi hn
      exact pk_le 3 i (fun _ => h0 (fun ⟨w, hw, hb⟩ => hn w (by omega) hb)) (fun h => absurd h (by omega))
    | succ d ih =>
      intro i hi hn
      refine pk_le 3 i (fun h => absurd h (by omega)) (fun h => ⟨ar_in, br_c (fun z => nm_r (nI_1 i) (ih (i + 1) (by omega) ?_)) (fun z => ⟨ar_in, br_c (fun e => h1 ⟨i, h, ar_on z, ar_o e⟩) (fun e => nm_r (nI_1 i) (ih (i + 1) (by omega) ?_))⟩)⟩)
      · exact lt_s hn (fun hh => hh.1 (ar_o z))
      · exact lt_s hn (fun hh => (ar_on e) hh.2)
  exact ⟨4, key 3 0 rfl lt_0⟩
theorem yr_isRunning (W t rs : Nat) (st nd np no nm ask : Int32) (knd dur pri ovl mis nex prd sets sta los msd mnw wai wdu doi ens his fld : Nat → Int32) (hW : W ≤ 3) (x : Int32) (post : Int32 → Prop) (h1 : hp_Q W ens doi x → post 1) (h0 : ¬ hp_Q W ens doi x → post 0) : wpY_isRunning post ((nI W), (nI t), (nI rs), st, nd, np, no, nm, ask, knd, dur, pri, ovl, mis, nex, prd, sets, sta, los, msd, mnw, wai, wdu, doi, ens, his, fld) x := by
  have key : ∀ d i, i + d = W → (∀ w, w < i → ¬ (¬ ens w ≤ 0 ∧ doi w = x)) → wY_isRunning_2 post x (nI W) (nI t) (nI rs) st nd np no nm ask knd dur pri ovl mis nex prd sets sta los msd mnw wai wdu doi ens his fld (d + 1) (nI i) := by
    intro d
    induction d with
    | zero =>
      intro i hi hn
      exact pk_le W i (fun _ => h0 (fun ⟨w, hw, hb⟩ => hn w (by omega) hb)) (fun h => absurd h (by omega))
    | succ d ih =>
      intro i hi hn
      have hk : (nI i).toNatClampNeg = i := ar_k
      refine pk_le W i (fun h => absurd h (by omega)) (fun h => ⟨ar_in, br_c (fun z => nm_r (nI_1 i) (ih (i + 1) (by omega) ?_)) (fun z => ⟨ar_in, br_c (fun e => h1 ⟨i, h, by rw [hk] at z; exact z, ar_o e⟩) (fun e => nm_r (nI_1 i) (ih (i + 1) (by omega) ?_))⟩)⟩)
      · exact lt_s hn (fun hh => hh.1 (by rw [hk] at z; exact z))
      · exact lt_s hn (fun hh => (ar_on e) hh.2)
  exact ⟨_, key W 0 (by omega) lt_0⟩
theorem xr_exists (W t rs : Nat) (st nd np no nm : Int32) (made kin dur pri ovl mis per mnt hrs day mon wkd nxt sta los msd mss wai req bsy wjb wen kjb kst kdu : Nat → Int32) (x : Int32) (post : Int32 → Prop) (h1 : ∀ j, j < 12 → x = nI j → ¬ made j = 0 → post 1) (h0 : (∀ j, j < 12 → x = nI j → made j = 0) → post 0) : wpX_exists post ((nI W), (nI t), st, (nI rs), nd, np, no, nm, made, kin, dur, pri, ovl, mis, per, mnt, hrs, day, mon, wkd, nxt, sta, los, msd, mss, wai, req, bsy, wjb, wen, kjb, kst, kdu) x := by
  rcases pk_ix x (n := 12) (by omega) with h | h | ⟨j, hj, rfl⟩
  · exact br_t h (h0 (fun j hj e => absurd h (by rw [e]; exact nI_pos (by omega))))
  · refine br_f (fun z => ?_) (br_t h (h0 (fun j hj e => absurd h (by rw [e]; exact ar_nle hj))))
    exact absurd (Int32.lt_of_le_of_lt h z) (by decide)
  · refine br_f (nI_pos (by omega)) (br_f (ar_nle (a := 12) hj) ⟨ar_in, br_c (fun z => h0 ?_) (fun z => h1 j hj rfl (ar_on z))⟩)
    intro i hi e
    have := ar_eq e
    subst this
    exact ar_o z
theorem yr_isJob (W t rs : Nat) (st nd np no nm ask : Int32) (knd dur pri ovl mis nex prd sets sta los msd mnw wai wdu doi ens his fld : Nat → Int32) (x : Int32) (post : Int32 → Prop) (h1 : ∀ j, j < 12 → x = nI j → ¬ knd j < 0 → post 1) (h0 : (∀ j, j < 12 → x = nI j → knd j < 0) → post 0) : wpY_isJob post ((nI W), (nI t), (nI rs), st, nd, np, no, nm, ask, knd, dur, pri, ovl, mis, nex, prd, sets, sta, los, msd, mnw, wai, wdu, doi, ens, his, fld) x := by
  rcases pk_ix x (n := 12) (by omega) with h | h | ⟨j, hj, rfl⟩
  · exact br_t h (h0 (fun j hj e => absurd h (by rw [e]; exact nI_pos (by omega))))
  · refine br_f (fun z => ?_) (br_t h (h0 (fun j hj e => absurd h (by rw [e]; exact ar_nle hj))))
    exact absurd (Int32.lt_of_le_of_lt h z) (by decide)
  · have hk : (nI j).toNatClampNeg = j := ar_k
    refine br_f (nI_pos (by omega)) (br_f (ar_nle (a := 12) hj) ⟨ar_in, br_c (fun z => h0 ?_) (fun z => h1 j hj rfl (by rw [hk] at z; exact z))⟩)
    intro i hi e
    have := ar_eq e
    subst this
    rw [hk] at z; exact z
theorem yr_within (x a b : Int32) (post : Int32 → Prop) (h1 : ¬ x < a → ¬ b < x → post 1) (h0 : (x < a ∨ b < x) → post 0) : wpY_within post x a b :=
  br_c (fun h => h0 (Or.inl h)) (fun h => br_c (fun g => h0 (Or.inr g)) (fun g => h1 h g))
theorem xr_minute (W t rs : Nat) (st nd np no nm : Int32) (made kin dur pri ovl mis per mnt hrs day mon wkd nxt sta los msd mss wai req bsy wjb wen kjb kst kdu : Nat → Int32) (s : Nat) (hs : s < 2147483648) (post : Int32 → Prop) (h : post (nI (s % 10))) : wpX_minuteAt post ((nI W), (nI t), st, (nI rs), nd, np, no, nm, made, kin, dur, pri, ovl, mis, per, mnt, hrs, day, mon, wkd, nxt, sta, los, msd, mss, wai, req, bsy, wjb, wen, kjb, kst, kdu) (nI s) :=
  And.intro (by decide) (by rw [← ar_rem hs (d := 10) (by omega) (by omega)] at h; exact h)
theorem xr_hour (W t rs : Nat) (st nd np no nm : Int32) (made kin dur pri ovl mis per mnt hrs day mon wkd nxt sta los msd mss wai req bsy wjb wen kjb kst kdu : Nat → Int32) (s : Nat) (hs : s < 2147483648) (post : Int32 → Prop) (h : post (nI (s / 10 % 8))) : wpX_hourAt post ((nI W), (nI t), st, (nI rs), nd, np, no, nm, made, kin, dur, pri, ovl, mis, per, mnt, hrs, day, mon, wkd, nxt, sta, los, msd, mss, wai, req, bsy, wjb, wen, kjb, kst, kdu) (nI s) :=
  And.intro (by decide) ⟨by decide, by rw [← ar_rem2 hs (c := 10) (d := 8) (by omega) (by omega) (by omega) (by omega)] at h; exact h⟩
theorem xr_month (W t rs : Nat) (st nd np no nm : Int32) (made kin dur pri ovl mis per mnt hrs day mon wkd nxt sta los msd mss wai req bsy wjb wen kjb kst kdu : Nat → Int32) (s : Nat) (hs : s < 2147483648) (post : Int32 → Prop) (h : post (nI (s / 800 % 4))) : wpX_monthIndexAt post ((nI W), (nI t), st, (nI rs), nd, np, no, nm, made, kin, dur, pri, ovl, mis, per, mnt, hrs, day, mon, wkd, nxt, sta, los, msd, mss, wai, req, bsy, wjb, wen, kjb, kst, kdu) (nI s) :=
  And.intro (by decide) ⟨by decide, by rw [← ar_rem2 hs (c := 800) (d := 4) (by omega) (by omega) (by omega) (by omega)] at h; exact h⟩
theorem xr_day (W t rs : Nat) (st nd np no nm : Int32) (made kin dur pri ovl mis per mnt hrs day mon wkd nxt sta los msd mss wai req bsy wjb wen kjb kst kdu : Nat → Int32) (s : Nat) (hs : s < 2147483648) (post : Int32 → Prop) (h : post (nI (s / 80 % 10))) : wpX_dayIndexAt post ((nI W), (nI t), st, (nI rs), nd, np, no, nm, made, kin, dur, pri, ovl, mis, per, mnt, hrs, day, mon, wkd, nxt, sta, los, msd, mss, wai, req, bsy, wjb, wen, kjb, kst, kdu) (nI s) :=
  And.intro (by decide) ⟨by decide, by rw [← ar_rem2 hs (c := 80) (d := 10) (by omega) (by omega) (by omega) (by omega)] at h; exact h⟩
theorem xr_week (W t rs : Nat) (st nd np no nm : Int32) (made kin dur pri ovl mis per mnt hrs day mon wkd nxt sta los msd mss wai req bsy wjb wen kjb kst kdu : Nat → Int32) (s : Nat) (hs : s < 2147483648) (post : Int32 → Prop) (h : post (nI (s / 80 % 7))) : wpX_weekdayAt post ((nI W), (nI t), st, (nI rs), nd, np, no, nm, made, kin, dur, pri, ovl, mis, per, mnt, hrs, day, mon, wkd, nxt, sta, los, msd, mss, wai, req, bsy, wjb, wen, kjb, kst, kdu) (nI s) :=
  And.intro (by decide) ⟨by decide, by rw [← ar_rem2 hs (c := 80) (d := 7) (by omega) (by omega) (by omega) (by omega)] at h; exact h⟩
/-- the field of time s, by number -/
def ca_f (s k : Nat) : Int32 := if k = 0 then nI (s % 10) else if k = 1 then nI (s / 10 % 8) else if k = 2 then nI (s / 80 % 10) else if k = 3 then nI (s / 800 % 4) else nI (s / 80 % 7)
theorem yr_field (s k : Nat) (hs : s < 2147483648) (hk : k < 5) (post : Int32 → Prop) (h : post (ca_f s k)) : wpY_field post (nI s) (nI k) := by
  unfold ca_f at h
  refine pk_eq k 0 (fun e => ?_) (fun e => ?_)
  · rw [if_pos e, ← ar_rem hs (d := 10) (by omega) (by omega)] at h
    exact ⟨by decide, h⟩
  · rw [if_neg e] at h
    refine pk_eq k 1 (fun e => ?_) (fun e => ?_)
    · rw [if_pos e, ← ar_rem2 hs (c := 10) (d := 8) (by omega) (by omega) (by omega) (by omega)] at h
      exact ⟨by decide, by decide, h⟩
    · rw [if_neg e] at h
      refine pk_eq k 2 (fun e => ?_) (fun e => ?_)
      · rw [if_pos e, ← ar_rem2 hs (c := 80) (d := 10) (by omega) (by omega) (by omega) (by omega)] at h
        exact ⟨by decide, by decide, h⟩
      · rw [if_neg e] at h
        refine pk_eq k 3 (fun e => ?_) (fun e => ?_)
        · rw [if_pos e, ← ar_rem2 hs (c := 800) (d := 4) (by omega) (by omega) (by omega) (by omega)] at h
          exact ⟨by decide, by decide, h⟩
        · rw [if_neg e, ← ar_rem2 hs (c := 80) (d := 7) (by omega) (by omega) (by omega) (by omega)] at h
          exact ⟨by decide, by decide, h⟩
/-- the fields array holds time s -/
def ca_F (s : Nat) (fld : Nat → Int32) : Prop := ∀ k, k < 5 → fld k = ca_f s k
theorem yr_read (W t rs : Nat) (st nd np no nm ask : Int32) (knd dur pri ovl mis nex prd sets sta los msd mnw wai wdu doi ens his fld : Nat → Int32) (s : Nat) (hs : s < 2147483648) (post : SY → Prop) (h : ∀ fld', ca_F s fld' → post ((nI W), (nI t), (nI rs), st, nd, np, no, nm, ask, knd, dur, pri, ovl, mis, nex, prd, sets, sta, los, msd, mnw, wai, wdu, doi, ens, his, fld')) : wpY_read post ((nI W), (nI t), (nI rs), st, nd, np, no, nm, ask, knd, dur, pri, ovl, mis, nex, prd, sets, sta, los, msd, mnw, wai, wdu, doi, ens, his, fld) (nI s) := by
  have key : ∀ d i fld, i + d = 5 → (∀ k, k < i → fld k = ca_f s k) → wY_read_2 post (nI s) (nI W) (nI t) (nI rs) st nd np no nm ask (d + 1) (nI i) knd dur pri ovl mis nex prd sets sta los msd mnw wai wdu doi ens his fld := by
    intro d
    induction d with
    | zero =>
      intro i fld hi hn
      exact pk_le 5 i (fun _ => h fld (fun k hk => hn k (by omega))) (fun h => absurd h (by omega))
    | succ d ih =>
      intro i fld hi hn
      refine pk_le 5 i (fun h => absurd h (by omega)) (fun hh => yr_field s i hs (by omega) _ ⟨ar_in, nm_r ar_u (nm_r (nI_1 i) (ih (i + 1) _ (by omega) ?_))⟩)
      refine lt_s (fun k hk => ?_) pk_us
      rw [pk_un (by omega)]
      exact hn k hk
  exact ⟨6, key 5 0 fld rfl lt_0⟩
end
section
theorem xc_144 (W t rs : Nat) (st nd np no nm : Int32) (made kin dur pri ovl mis per mnt hrs day mon wkd nxt sta los msd mss wai req bsy wjb wen kjb kst kdu : Nat → Int32) (x4 x5 z0 : Int32) (a b c : Prop) (ha : (x4 = 1 ∧ a) ∨ (x4 = 0 ∧ ¬ a)) (hb : (x5 = 1 ∧ b) ∨ (x5 = 0 ∧ ¬ b)) (hc : (z0 = 1 ∧ c) ∨ (z0 = 0 ∧ ¬ c)) (post : Int32 → Prop) (h1 : ((c ∧ a ∧ b) ∨ (¬ c ∧ (a ∨ b))) → post 1) (h0 : ¬ ((c ∧ a ∧ b) ∨ (¬ c ∧ (a ∨ b))) → post 0) : wX_cronFits_144 post x4 x5 z0 (nI W) (nI t) st (nI rs) nd np no nm made kin dur pri ovl mis per mnt hrs day mon wkd nxt sta los msd mss wai req bsy wjb wen kjb kst kdu := by
  have n1 : ¬ (1 : Int32) = 0 := by decide
  rcases hc with ⟨rfl, c1⟩ | ⟨rfl, c0⟩
  · refine br_f n1 ?_
    rcases ha with ⟨rfl, a1⟩ | ⟨rfl, a0⟩
    · refine br_f n1 ?_
      rcases hb with ⟨rfl, b1⟩ | ⟨rfl, b0⟩
      · exact br_f n1 (h1 (Or.inl ⟨c1, a1, b1⟩))
      · exact br_t rfl (h0 (fun z => z.elim (fun y => b0 y.2.2) (fun y => y.1 c1)))
    · exact br_t rfl (h0 (fun z => z.elim (fun y => a0 y.2.1) (fun y => y.1 c1)))
  · refine br_t rfl ?_
    rcases ha with ⟨rfl, a1⟩ | ⟨rfl, a0⟩
    · exact br_f n1 (h1 (Or.inr ⟨c0, Or.inl a1⟩))
    · refine br_t rfl ?_
      rcases hb with ⟨rfl, b1⟩ | ⟨rfl, b0⟩
      · exact br_f n1 (h1 (Or.inr ⟨c0, Or.inr b1⟩))
      · exact br_t rfl (h0 (fun z => z.elim (fun y => c0 y.1) (fun y => y.2.elim a0 b0)))
theorem xc_114 (W t rs : Nat) (st nd np no nm : Int32) (made kin dur pri ovl mis per mnt hrs day mon wkd nxt sta los msd mss wai req bsy wjb wen kjb kst kdu : Nat → Int32) (j : Nat) (hj : j < 12) (x4 x5 : Int32) (a b : Prop) (ha : (x4 = 1 ∧ a) ∨ (x4 = 0 ∧ ¬ a)) (hb : (x5 = 1 ∧ b) ∨ (x5 = 0 ∧ ¬ b)) (post : Int32 → Prop) (h1 : (((day j = 1023 ∨ wkd j = 127) ∧ a ∧ b) ∨ (¬ (day j = 1023 ∨ wkd j = 127) ∧ (a ∨ b))) → post 1) (h0 : ¬ (((day j = 1023 ∨ wkd j = 127) ∧ a ∧ b) ∨ (¬ (day j = 1023 ∨ wkd j = 127) ∧ (a ∨ b))) → post 0) : wX_cronFits_114 post (nI j) x4 x5 (nI W) (nI t) st (nI rs) nd np no nm made kin dur pri ovl mis per mnt hrs day mon wkd nxt sta los msd mss wai req bsy wjb wen kjb kst kdu :=
  ⟨ar_in, br_c (fun d => xc_144 _ _ _ _ _ _ _ _ _ _ _ _ _ _ _ _ _ _ _ _ _ _ _ _ _ _ _ _ _ _ _ _ _ x4 x5 1 a b _ ha hb (Or.inl ⟨rfl, Or.inl (ar_o d)⟩) post h1 h0) (fun d => ⟨ar_in, br_c (fun e => xc_144 _ _ _ _ _ _ _ _ _ _ _ _ _ _ _ _ _ _ _ _ _ _ _ _ _ _ _ _ _ _ _ _ _ x4 x5 1 a b _ ha hb (Or.inl ⟨rfl, Or.inr (ar_o e)⟩) post h1 h0) (fun e => xc_144 _ _ _ _ _ _ _ _ _ _ _ _ _ _ _ _ _ _ _ _ _ _ _ _ _ _ _ _ _ _ _ _ _ x4 x5 0 a b _ ha hb (Or.inr ⟨rfl, fun z => z.elim (ar_on d) (ar_on e)⟩) post h1 h0)⟩)⟩
theorem xc_fits (W t rs : Nat) (st nd np no nm : Int32) (made kin dur pri ovl mis per mnt hrs day mon wkd nxt sta los msd mss wai req bsy wjb wen kjb kst kdu : Nat → Int32) (j s : Nat) (hj : j < 12) (hs : s < 2147483648) (post : Int32 → Prop) (h1 : ca_fit (mnt j) (hrs j) (day j) (mon j) (wkd j) s → post 1) (h0 : ¬ ca_fit (mnt j) (hrs j) (day j) (mon j) (wkd j) s → post 0) : wpX_cronFits post ((nI W), (nI t), st, (nI rs), nd, np, no, nm, made, kin, dur, pri, ovl, mis, per, mnt, hrs, day, mon, wkd, nxt, sta, los, msd, mss, wai, req, bsy, wjb, wen, kjb, kst, kdu) (nI j) (nI s) := by
  have hk : (nI j).toNatClampNeg = j := ar_k
  refine And.intro ar_in (xr_minute _ _ _ _ _ _ _ _ _ _ _ _ _ _ _ _ _ _ _ _ _ _ _ _ _ _ _ _ _ _ _ _ _ s hs _ (br_c (fun a => ⟨ar_in, xr_hour _ _ _ _ _ _ _ _ _ _ _ _ _ _ _ _ _ _ _ _ _ _ _ _ _ _ _ _ _ _ _ _ _ s hs _ (br_c (fun b => ⟨ar_in, xr_month _ _ _ _ _ _ _ _ _ _ _ _ _ _ _ _ _ _ _ _ _ _ _ _ _ _ _ _ _ _ _ _ _ s hs _ (br_c (fun c => ?_) (fun c => ?_))⟩) (fun b => ?_))⟩) (fun a => ?_)))
  · rw [hk] at a b c
    refine br_f (by decide) ⟨ar_in, xr_day _ _ _ _ _ _ _ _ _ _ _ _ _ _ _ _ _ _ _ _ _ _ _ _ _ _ _ _ _ _ _ _ _ s hs _ ?_⟩
    have fin : ∀ x4 x5 : Int32, ((x4 = 1 ∧ ca_has (day j) (nI (s / 80 % 10))) ∨ (x4 = 0 ∧ ¬ ca_has (day j) (nI (s / 80 % 10)))) → ((x5 = 1 ∧ ca_has (wkd j) (nI (s / 80 % 7))) ∨ (x5 = 0 ∧ ¬ ca_has (wkd j) (nI (s / 80 % 7)))) → wX_cronFits_114 post (nI j) x4 x5 (nI W) (nI t) st (nI rs) nd np no nm made kin dur pri ovl mis per mnt hrs day mon wkd nxt sta los msd mss wai req bsy wjb wen kjb kst kdu := fun x4 x5 ha hb => xc_114 _ _ _ _ _ _ _ _ _ _ _ _ _ _ _ _ _ _ _ _ _ _ _ _ _ _ _ _ _ _ _ _ _ j hj x4 x5 _ _ ha hb post (fun z => h1 ⟨a, b, c, z⟩) (fun z => h0 (fun y => z y.2.2.2))
    have fin2 : ∀ x4 : Int32, ((x4 = 1 ∧ ca_has (day j) (nI (s / 80 % 10))) ∨ (x4 = 0 ∧ ¬ ca_has (day j) (nI (s / 80 % 10)))) → wX_cronFits_89 post (nI j) (nI s) x4 (nI W) (nI t) st (nI rs) nd np no nm made kin dur pri ovl mis per mnt hrs day mon wkd nxt sta los msd mss wai req bsy wjb wen kjb kst kdu := fun x4 ha => And.intro ar_in (xr_week _ _ _ _ _ _ _ _ _ _ _ _ _ _ _ _ _ _ _ _ _ _ _ _ _ _ _ _ _ _ _ _ _ s hs _ (br_c (fun w => fin x4 1 ha (Or.inl ⟨rfl, by rw [hk] at w; exact w⟩)) (fun w => fin x4 0 ha (Or.inr ⟨rfl, by rw [hk] at w; exact w⟩))))
    exact br_c (fun w => fin2 1 (Or.inl ⟨rfl, by rw [hk] at w; exact w⟩)) (fun w => fin2 0 (Or.inr ⟨rfl, by rw [hk] at w; exact w⟩))
  · exact br_t rfl (h0 (fun y => by rw [hk] at c; exact c y.2.2.1))
  · exact br_t rfl (h0 (fun y => by rw [hk] at b; exact b y.2.1))
  · exact br_t rfl (h0 (fun y => by rw [hk] at a; exact a y.1))
theorem xc_next (W t rs : Nat) (st nd np no nm : Int32) (made kin dur pri ovl mis per mnt hrs day mon wkd nxt sta los msd mss wai req bsy wjb wen kjb kst kdu : Nat → Int32) (j : Nat) (hj : j < 12) (ht : t ≤ 1000000) (post : Int32 → Prop) (h1 : ∀ d, t + 1 ≤ d → d ≤ t + 22400 → ca_fit (mnt j) (hrs j) (day j) (mon j) (wkd j) d → (∀ s, t + 1 ≤ s → s < d → ¬ ca_fit (mnt j) (hrs j) (day j) (mon j) (wkd j) s) → post (nI d)) (h0 : (∀ s, t + 1 ≤ s → ¬ ca_fit (mnt j) (hrs j) (day j) (mon j) (wkd j) s) → post (-2)) : wpX_nextCronTime post ((nI W), (nI t), st, (nI rs), nd, np, no, nm, made, kin, dur, pri, ovl, mis, per, mnt, hrs, day, mon, wkd, nxt, sta, los, msd, mss, wai, req, bsy, wjb, wen, kjb, kst, kdu) (nI j) := by
  have key : ∀ d i, 1 ≤ i → i + d = 22401 → (∀ s, t + 1 ≤ s → s < t + i → ¬ ca_fit (mnt j) (hrs j) (day j) (mon j) (wkd j) s) → wX_nextCronTime_2 post (nI j) (nI W) (nI t) st (nI rs) nd np no nm made kin dur pri ovl mis per mnt hrs day mon wkd nxt sta los msd mss wai req bsy wjb wen kjb kst kdu (d + 1) (nI i) := by
    intro d
    induction d with
    | zero =>
      intro i h1i hi hn
      exact pk_lt 22400 i (fun _ => h0 (ca_nev (fun s ha hb => hn s ha (by omega)))) (fun h => absurd h (by omega))
    | succ d ih =>
      intro i h1i hi hn
      refine pk_lt 22400 i (fun h => absurd h (by omega)) (fun h => ?_)
      rw [nI_add]
      refine xc_fits _ _ _ _ _ _ _ _ _ _ _ _ _ _ _ _ _ _ _ _ _ _ _ _ _ _ _ _ _ _ _ _ _ j (t + i) hj (by omega) _ (fun y => br_f (by decide) (h1 (t + i) (by omega) (by omega) y hn)) (fun y => br_t rfl (nm_r (nI_1 i) (ih (i + 1) (by omega) (by omega) ?_)))
      intro s hs1 hs2
      rcases Nat.lt_or_ge s (t + i) with hh | hh
      · exact hn s hs1 hh
      · rw [show s = t + i by omega]; exact y
  exact ⟨_, key 22400 1 (by omega) (by omega) (fun s ha hb => absurd hb (by omega))⟩
theorem yc_has (W t rs : Nat) (st nd np no nm ask : Int32) (knd dur pri ovl mis nex prd sets sta los msd mnw wai wdu doi ens his fld : Nat → Int32) (j k : Nat) (hj : j < 12) (hk : k < 5) (post : Int32 → Prop) (h1 : ca_has (sets (5 * j + k)) (fld k) → post 1) (h0 : ¬ ca_has (sets (5 * j + k)) (fld k) → post 0) : wpY_has post ((nI W), (nI t), (nI rs), st, nd, np, no, nm, ask, knd, dur, pri, ovl, mis, nex, prd, sets, sta, los, msd, mnw, wai, wdu, doi, ens, his, fld) (nI j) (nI k) := by
  have e : 5 * nI j + nI k = nI (5 * j + k) := by rw [ar_5x, nI_add]
  have k1 : (5 * nI j + nI k).toNatClampNeg = 5 * j + k := by rw [e]; exact ar_k
  have k2 : (nI k).toNatClampNeg = k := ar_k
  refine And.intro (by rw [e]; exact ar_in) ⟨ar_in, br_c (fun z => h1 ?_) (fun z => h0 ?_)⟩
  · rw [k1, k2] at z; exact z
  · rw [k1, k2] at z; exact z
theorem yc_65 (W t rs : Nat) (st nd np no nm ask : Int32) (knd dur pri ovl mis nex prd sets sta los msd mnw wai wdu doi ens his fld : Nat → Int32) (j : Nat) (hj : j < 12) (z0 : Int32) (c : Prop) (hc : (z0 = 1 ∧ c) ∨ (z0 = 0 ∧ ¬ c)) (post : Int32 → Prop) (h1 : ((c ∧ ca_has (sets (5 * j + 2)) (fld 2) ∧ ca_has (sets (5 * j + 4)) (fld 4)) ∨ (¬ c ∧ (ca_has (sets (5 * j + 2)) (fld 2) ∨ ca_has (sets (5 * j + 4)) (fld 4)))) → post 1) (h0 : ¬ ((c ∧ ca_has (sets (5 * j + 2)) (fld 2) ∧ ca_has (sets (5 * j + 4)) (fld 4)) ∨ (¬ c ∧ (ca_has (sets (5 * j + 2)) (fld 2) ∨ ca_has (sets (5 * j + 4)) (fld 4)))) → post 0) : wY_fits_65 post (nI j) z0 (nI W) (nI t) (nI rs) st nd np no nm ask knd dur pri ovl mis nex prd sets sta los msd mnw wai wdu doi ens his fld := by
  have n1 : ¬ (1 : Int32) = 0 := by decide
  refine yc_has _ _ _ _ _ _ _ _ _ _ _ _ _ _ _ _ _ _ _ _ _ _ _ _ _ _ _ j 2 hj (by omega) _ (fun a => yc_has _ _ _ _ _ _ _ _ _ _ _ _ _ _ _ _ _ _ _ _ _ _ _ _ _ _ _ j 4 hj (by omega) _ (fun b => ?_) (fun b => ?_)) (fun a => yc_has _ _ _ _ _ _ _ _ _ _ _ _ _ _ _ _ _ _ _ _ _ _ _ _ _ _ _ j 4 hj (by omega) _ (fun b => ?_) (fun b => ?_))
  · rcases hc with ⟨rfl, c1⟩ | ⟨rfl, c0⟩
    · exact br_f n1 (br_f n1 (br_f n1 (h1 (Or.inl ⟨c1, a, b⟩))))
    · exact br_t rfl (br_f n1 (h1 (Or.inr ⟨c0, Or.inl a⟩)))
  · rcases hc with ⟨rfl, c1⟩ | ⟨rfl, c0⟩
    · exact br_f n1 (br_f n1 (br_t rfl (h0 (fun z => z.elim (fun y => b y.2.2) (fun y => y.1 c1)))))
    · exact br_t rfl (br_f n1 (h1 (Or.inr ⟨c0, Or.inl a⟩)))
  · rcases hc with ⟨rfl, c1⟩ | ⟨rfl, c0⟩
    · exact br_f n1 (br_t rfl (h0 (fun z => z.elim (fun y => a y.2.1) (fun y => y.1 c1))))
    · exact br_t rfl (br_t rfl (br_f n1 (h1 (Or.inr ⟨c0, Or.inr b⟩))))
  · rcases hc with ⟨rfl, c1⟩ | ⟨rfl, c0⟩
    · exact br_f n1 (br_t rfl (h0 (fun z => z.elim (fun y => a y.2.1) (fun y => y.1 c1))))
    · exact br_t rfl (br_t rfl (br_t rfl (h0 (fun z => z.elim (fun y => c0 y.1) (fun y => y.2.elim a b)))))
theorem yc_fits (W t rs : Nat) (st nd np no nm ask : Int32) (knd dur pri ovl mis nex prd sets sta los msd mnw wai wdu doi ens his fld : Nat → Int32) (j s : Nat) (hj : j < 12) (hF : ca_F s fld) (post : Int32 → Prop) (h1 : ca_fit (sets (5 * j)) (sets (5 * j + 1)) (sets (5 * j + 2)) (sets (5 * j + 3)) (sets (5 * j + 4)) s → post 1) (h0 : ¬ ca_fit (sets (5 * j)) (sets (5 * j + 1)) (sets (5 * j + 2)) (sets (5 * j + 3)) (sets (5 * j + 4)) s → post 0) : wpY_fits post ((nI W), (nI t), (nI rs), st, nd, np, no, nm, ask, knd, dur, pri, ovl, mis, nex, prd, sets, sta, los, msd, mnw, wai, wdu, doi, ens, his, fld) (nI j) := by
  have f0 : fld 0 = nI (s % 10) := hF 0 (by omega)
  have f1 : fld 1 = nI (s / 10 % 8) := hF 1 (by omega)
  have f2 : fld 2 = nI (s / 80 % 10) := hF 2 (by omega)
  have f3 : fld 3 = nI (s / 800 % 4) := hF 3 (by omega)
  have f4 : fld 4 = nI (s / 80 % 7) := hF 4 (by omega)
  have n1 : ¬ (1 : Int32) = 0 := by decide
  have e2 : 5 * nI j + 2 = nI (5 * j + 2) := by rw [ar_5x]; exact nI_add _ 2
  have e4 : 5 * nI j + 4 = nI (5 * j + 4) := by rw [ar_5x]; exact nI_add _ 4
  have k2 : (5 * nI j + 2).toNatClampNeg = 5 * j + 2 := by rw [e2]; exact ar_k
  have k4 : (5 * nI j + 4).toNatClampNeg = 5 * j + 4 := by rw [e4]; exact ar_k
  unfold ca_fit at h1 h0
  rw [← f0, ← f1, ← f2, ← f3, ← f4] at h1 h0
  unfold wpY_fits
  dsimp only
  refine yc_has _ _ _ _ _ _ _ _ _ _ _ _ _ _ _ _ _ _ _ _ _ _ _ _ _ _ _ j 0 hj (by omega) _ (fun a => br_f n1 (yc_has _ _ _ _ _ _ _ _ _ _ _ _ _ _ _ _ _ _ _ _ _ _ _ _ _ _ _ j 1 hj (by omega) _ (fun b => br_f n1 (yc_has _ _ _ _ _ _ _ _ _ _ _ _ _ _ _ _ _ _ _ _ _ _ _ _ _ _ _ j 3 hj (by omega) _ (fun c => br_f n1 ?_) (fun c => br_t rfl (h0 (fun y => c y.2.2.1))))) (fun b => br_t rfl (h0 (fun y => b y.2.1))))) (fun a => br_t rfl (h0 (fun y => a y.1)))
  have fin : ∀ z0 : Int32, ((z0 = 1 ∧ (sets (5 * j + 2) = 1023 ∨ sets (5 * j + 4) = 127)) ∨ (z0 = 0 ∧ ¬ (sets (5 * j + 2) = 1023 ∨ sets (5 * j + 4) = 127))) → wY_fits_65 post (nI j) z0 (nI W) (nI t) (nI rs) st nd np no nm ask knd dur pri ovl mis nex prd sets sta los msd mnw wai wdu doi ens his fld := fun z0 hc => yc_65 _ _ _ _ _ _ _ _ _ _ _ _ _ _ _ _ _ _ _ _ _ _ _ _ _ _ _ j hj z0 _ hc post (fun y => h1 ⟨a, b, c, y⟩) (fun y => h0 (fun x => y x.2.2.2))
  refine ⟨by rw [e2]; exact ar_in, br_c (fun d => fin 1 (Or.inl ⟨rfl, Or.inl (by rw [k2] at d; exact d)⟩)) (fun d => ⟨by rw [e4]; exact ar_in, br_c (fun e => fin 1 (Or.inl ⟨rfl, Or.inr (by rw [k4] at e; exact e)⟩)) (fun e => fin 0 (Or.inr ⟨rfl, ?_⟩))⟩)⟩
  rw [k2] at d
  rw [k4] at e
  exact fun z => z.elim d e
theorem yc_dueAt (W t rs : Nat) (st nd np no nm ask : Int32) (knd dur pri ovl mis nex prd sets sta los msd mnw wai wdu doi ens his fld : Nat → Int32) (j s : Nat) (hj : j < 12) (hs : s < 2147483648) (post : Int32 → SY → Prop) (h1 : ∀ fld', ca_fit (sets (5 * j)) (sets (5 * j + 1)) (sets (5 * j + 2)) (sets (5 * j + 3)) (sets (5 * j + 4)) s → post 1 ((nI W), (nI t), (nI rs), st, nd, np, no, nm, ask, knd, dur, pri, ovl, mis, nex, prd, sets, sta, los, msd, mnw, wai, wdu, doi, ens, his, fld')) (h0 : ∀ fld', ¬ ca_fit (sets (5 * j)) (sets (5 * j + 1)) (sets (5 * j + 2)) (sets (5 * j + 3)) (sets (5 * j + 4)) s → post 0 ((nI W), (nI t), (nI rs), st, nd, np, no, nm, ask, knd, dur, pri, ovl, mis, nex, prd, sets, sta, los, msd, mnw, wai, wdu, doi, ens, his, fld')) : wpY_isDueAt post ((nI W), (nI t), (nI rs), st, nd, np, no, nm, ask, knd, dur, pri, ovl, mis, nex, prd, sets, sta, los, msd, mnw, wai, wdu, doi, ens, his, fld) (nI j) (nI s) := by
  refine yr_read _ _ _ _ _ _ _ _ _ _ _ _ _ _ _ _ _ _ _ _ _ _ _ _ _ _ _ s hs _ (fun fld' hF => ?_)
  exact yc_fits _ _ _ _ _ _ _ _ _ _ _ _ _ _ _ _ _ _ _ _ _ _ _ _ _ _ fld' j s hj hF _ (fun y => ⟨ar_nw1, h1 fld' y⟩) (fun y => ⟨ar_nw0, h0 fld' y⟩)
theorem yc_isDue (W t rs : Nat) (st nd np no nm ask : Int32) (knd dur pri ovl mis nex prd sets sta los msd mnw wai wdu doi ens his fld : Nat → Int32) (j : Nat) (hj : j < 12) (hF : ca_F t fld) (post : Int32 → Prop) (h1 : ((knd j = 3 ∧ ca_fit (sets (5 * j)) (sets (5 * j + 1)) (sets (5 * j + 2)) (sets (5 * j + 3)) (sets (5 * j + 4)) t) ∨ (¬ knd j = 3 ∧ ¬ knd j < 0 ∧ nex j = nI t)) → post 1) (h0 : ¬ ((knd j = 3 ∧ ca_fit (sets (5 * j)) (sets (5 * j + 1)) (sets (5 * j + 2)) (sets (5 * j + 3)) (sets (5 * j + 4)) t) ∨ (¬ knd j = 3 ∧ ¬ knd j < 0 ∧ nex j = nI t)) → post 0) : wpY_isDue post ((nI W), (nI t), (nI rs), st, nd, np, no, nm, ask, knd, dur, pri, ovl, mis, nex, prd, sets, sta, los, msd, mnw, wai, wdu, doi, ens, his, fld) (nI j) := by
  have hk : (nI j).toNatClampNeg = j := ar_k
  refine And.intro ar_in (br_c (fun a => ?_) (fun a => ⟨ar_in, br_c (fun b => ?_) (fun b => ⟨ar_in, br_c (fun c => ?_) (fun c => ?_)⟩)⟩))
  · have a' := ar_o a
    exact yc_fits _ _ _ _ _ _ _ _ _ _ _ _ _ _ _ _ _ _ _ _ _ _ _ _ _ _ _ j t hj hF _ (fun y => ⟨ar_nw1, h1 (Or.inl ⟨a', y⟩)⟩) (fun y => ⟨ar_nw0, h0 (fun z => z.elim (fun x => y x.2) (fun x => x.1 a'))⟩)
  · rw [hk] at a b
    exact h0 (fun z => z.elim (fun x => a x.1) (fun x => x.2.1 b))
  · rw [hk] at a b c
    exact h1 (Or.inr ⟨a, b, c⟩)
  · rw [hk] at a b c
    exact h0 (fun z => z.elim (fun x => a x.1) (fun x => c x.2.2))
theorem yc_due63 (W t rs : Nat) (st nd np no nm ask : Int32) (knd dur pri ovl mis nex prd sets sta los msd mnw wai wdu doi ens his fld : Nat → Int32) (j s0 : Nat) (hj : j < 12) (hs0 : s0 ≤ 1000001) (post : Int32 → SY → Prop) (h1 : ∀ s fld', s0 ≤ s → s ≤ 1000000 → ca_fit (sets (5 * j)) (sets (5 * j + 1)) (sets (5 * j + 2)) (sets (5 * j + 3)) (sets (5 * j + 4)) s → (∀ s', s0 ≤ s' → s' < s → ¬ ca_fit (sets (5 * j)) (sets (5 * j + 1)) (sets (5 * j + 2)) (sets (5 * j + 3)) (sets (5 * j + 4)) s') → post (nI s) ((nI W), (nI t), (nI rs), st, nd, np, no, nm, ask, knd, dur, pri, ovl, mis, nex, prd, sets, sta, los, msd, mnw, wai, wdu, doi, ens, his, fld')) (h0 : ∀ fld', (∀ s', s0 ≤ s' → s' ≤ 1000000 → ¬ ca_fit (sets (5 * j)) (sets (5 * j + 1)) (sets (5 * j + 2)) (sets (5 * j + 3)) (sets (5 * j + 4)) s') → post (-2) ((nI W), (nI t), (nI rs), st, nd, np, no, nm, ask, knd, dur, pri, ovl, mis, nex, prd, sets, sta, los, msd, mnw, wai, wdu, doi, ens, his, fld')) : ∃ n, wY_due_63 post (nI j) n (nI s0) (nI W) (nI t) (nI rs) st nd np no nm ask knd dur pri ovl mis nex prd sets sta los msd mnw wai wdu doi ens his fld := by
  have key : ∀ d s fld, s0 ≤ s → s + d = 1000001 → (∀ s', s0 ≤ s' → s' < s → ¬ ca_fit (sets (5 * j)) (sets (5 * j + 1)) (sets (5 * j + 2)) (sets (5 * j + 3)) (sets (5 * j + 4)) s') → wY_due_63 post (nI j) (d + 1) (nI s) (nI W) (nI t) (nI rs) st nd np no nm ask knd dur pri ovl mis nex prd sets sta los msd mnw wai wdu doi ens his fld := by
    intro d
    induction d with
    | zero =>
      intro s fld hb hs hn
      exact pk_lt 1000000 s (fun h => pk_lt 1000000 s (fun _ => h0 fld (fun s' g1 g2 => hn s' g1 (by omega))) (fun h => absurd h (by omega))) (fun h => absurd h (by omega))
    | succ d ih =>
      intro s fld hb hs hn
      refine pk_lt 1000000 s (fun h => absurd h (by omega)) (fun h => ?_)
      refine yc_dueAt _ _ _ _ _ _ _ _ _ _ _ _ _ _ _ _ _ _ _ _ _ _ _ _ _ _ _ j s hj (by omega) _ (fun fld' y => br_f (by decide) (pk_lt 1000000 s (fun h => absurd h (by omega)) (fun _ => h1 s fld' hb (by omega) y hn))) (fun fld' y => br_t rfl (nm_r (nI_1 s) (ih (s + 1) fld' (by omega) (by omega) ?_)))
      intro s' g1 g2
      rcases Nat.lt_or_ge s' s with hh | hh
      · exact hn s' g1 hh
      · rw [show s' = s by omega]; exact y
  exact ⟨_, key (1000001 - s0) s0 fld (by omega) (by omega) (fun s' g1 g2 => absurd g2 (by omega))⟩
end
section
/-- the first number that is free, or 12 -/
theorem fr_ex (p : Nat → Prop) : ∃ m, m ≤ 12 ∧ (∀ j, j < m → ¬ p j) ∧ (m < 12 → p m) := by
  have key : ∀ d i, i + d = 12 → (∀ j, j < i → ¬ p j) → ∃ m, m ≤ 12 ∧ (∀ j, j < m → ¬ p j) ∧ (m < 12 → p m) := by
    intro d
    induction d with
    | zero => intro i hi h; exact ⟨i, by omega, h, fun z => absurd z (by omega)⟩
    | succ d ih =>
      intro i hi h
      by_cases hp : p i
      · exact ⟨i, by omega, h, fun _ => hp⟩
      · exact ih (i + 1) (by omega) (lt_s h hp)
  exact key 12 0 rfl lt_0
theorem xm_reset (W t rs : Nat) (st nd np no nm : Int32) (made kin dur pri ovl mis per mnt hrs day mon wkd nxt sta los msd mss wai req bsy wjb wen kjb kst kdu : Nat → Int32) (j : Nat) (hj : j < 12) (kd : Int32) (post : SX → Prop) (h : post ((nI W), (nI t), st, (nI rs), nd, np, no, nm, (upd made j 1), (upd kin j kd), (upd dur j nd), (upd pri j np), (upd ovl j no), (upd mis j nm), per, mnt, hrs, day, mon, wkd, nxt, (upd sta j 0), (upd los j 0), (upd msd j 0), (upd mss j 0), (upd wai j 0), req, bsy, wjb, wen, kjb, kst, kdu)) : wpX_resetJob post ((nI W), (nI t), st, (nI rs), nd, np, no, nm, made, kin, dur, pri, ovl, mis, per, mnt, hrs, day, mon, wkd, nxt, sta, los, msd, mss, wai, req, bsy, wjb, wen, kjb, kst, kdu) (nI j) kd :=
  ⟨ar_in, nm_r (by rw [ar_nb1]; exact ar_u) ⟨ar_in, nm_r ar_u ⟨ar_in, nm_r ar_u ⟨ar_in, nm_r ar_u ⟨ar_in, nm_r ar_u ⟨ar_in, nm_r ar_u ⟨ar_in, nm_r ar_u ⟨ar_in, nm_r ar_u ⟨ar_in, nm_r ar_u ⟨ar_in, nm_r ar_u ⟨ar_in, nm_r ar_u h⟩⟩⟩⟩⟩⟩⟩⟩⟩⟩⟩
theorem xm_make (W t rs : Nat) (st nd np no nm : Int32) (made kin dur pri ovl mis per mnt hrs day mon wkd nxt sta los msd mss wai req bsy wjb wen kjb kst kdu : Nat → Int32) (m : Nat) (hm : m ≤ 12) (hb : ∀ j, j < m → ¬ made j = 0) (he : m < 12 → made m = 0) (kd : Int32) (post : Int32 → SX → Prop) (h12 : m = 12 → post (-1) ((nI W), (nI t), st, (nI rs), nd, np, no, nm, made, kin, dur, pri, ovl, mis, per, mnt, hrs, day, mon, wkd, nxt, sta, los, msd, mss, wai, req, bsy, wjb, wen, kjb, kst, kdu)) (h : m < 12 → post (nI m) ((nI W), (nI t), st, (nI rs), nd, np, no, nm, (upd made m 1), (upd kin m kd), (upd dur m nd), (upd pri m np), (upd ovl m no), (upd mis m nm), per, mnt, hrs, day, mon, wkd, nxt, (upd sta m 0), (upd los m 0), (upd msd m 0), (upd mss m 0), (upd wai m 0), req, bsy, wjb, wen, kjb, kst, kdu)) : wpX_makeJob post ((nI W), (nI t), st, (nI rs), nd, np, no, nm, made, kin, dur, pri, ovl, mis, per, mnt, hrs, day, mon, wkd, nxt, sta, los, msd, mss, wai, req, bsy, wjb, wen, kjb, kst, kdu) kd := by
  have key : ∀ d i, i + d = m → wX_makeJob_2 post kd (nI W) (nI t) st (nI rs) nd np no nm made kin dur pri ovl mis per mnt hrs day mon wkd nxt sta los msd mss wai req bsy wjb wen kjb kst kdu (d + 1) (nI i) := by
    intro d
    induction d with
    | zero =>
      intro i hi
      have hi' : i = m := by omega
      subst hi'
      exact pk_le 12 i (fun g => h12 (by omega)) (fun g => ⟨ar_in, br_t (ar_c (he g)) (xm_reset _ _ _ _ _ _ _ _ _ _ _ _ _ _ _ _ _ _ _ _ _ _ _ _ _ _ _ _ _ _ _ _ _ i g kd _ (h g))⟩)
    | succ d ih =>
      intro i hi
      exact pk_le 12 i (fun g => absurd g (by omega)) (fun g => ⟨ar_in, br_f (ar_n (hb i (by omega))) (nm_r (nI_1 i) (ih (i + 1) (by omega)))⟩)
  exact ⟨_, key m 0 (by omega)⟩
theorem ym_free (W t rs : Nat) (st nd np no nm ask : Int32) (knd dur pri ovl mis nex prd sets sta los msd mnw wai wdu doi ens his fld : Nat → Int32) (m : Nat) (hm : m ≤ 12) (hb : ∀ j, j < m → ¬ knd j < 0) (he : m < 12 → knd m < 0) (post : Int32 → Prop) (h12 : m = 12 → post (-1)) (h : m < 12 → post (nI m)) : wpY_free post ((nI W), (nI t), (nI rs), st, nd, np, no, nm, ask, knd, dur, pri, ovl, mis, nex, prd, sets, sta, los, msd, mnw, wai, wdu, doi, ens, his, fld) := by
  have key : ∀ d i, i + d = m → wY_free_2 post (nI W) (nI t) (nI rs) st nd np no nm ask knd dur pri ovl mis nex prd sets sta los msd mnw wai wdu doi ens his fld (d + 1) (nI i) := by
    intro d
    induction d with
    | zero =>
      intro i hi
      have hi' : i = m := by omega
      subst hi'
      refine pk_le 12 i (fun g => h12 (by omega)) (fun g => ⟨ar_in, br_f ?_ (h g)⟩)
      rw [ar_k]
      exact Int32.not_le.mpr (he g)
    | succ d ih =>
      intro i hi
      refine pk_le 12 i (fun g => absurd g (by omega)) (fun g => ⟨ar_in, br_t ?_ (nm_r (nI_1 i) (ih (i + 1) (by omega)))⟩)
      rw [ar_k]
      exact Int32.not_lt.mp (hb i (by omega))
  exact ⟨_, key m 0 (by omega)⟩
theorem ym_make (W t rs : Nat) (st nd np no nm ask : Int32) (knd dur pri ovl mis nex prd sets sta los msd mnw wai wdu doi ens his fld : Nat → Int32) (m : Nat) (hm : m < 12) (hb : ∀ j, j < m → ¬ knd j < 0) (he : knd m < 0) (kd at_ pe : Int32) (post : Int32 → SY → Prop) (h : post (nI m) ((nI W), (nI t), (nI rs), st, nd, np, no, nm, ask, (upd knd m kd), (upd dur m nd), (upd pri m np), (upd ovl m no), (upd mis m nm), (upd nex m at_), (upd prd m pe), sets, (upd sta m 0), (upd los m 0), (upd msd m 0), (upd mnw m 0), (upd wai m 0), wdu, doi, ens, his, fld)) : wpY_make post ((nI W), (nI t), (nI rs), st, nd, np, no, nm, ask, knd, dur, pri, ovl, mis, nex, prd, sets, sta, los, msd, mnw, wai, wdu, doi, ens, his, fld) kd at_ pe := by
  unfold wpY_make
  dsimp only
  exact ym_free _ _ _ _ _ _ _ _ _ _ _ _ _ _ _ _ _ _ _ _ _ _ _ _ _ _ _ m (by omega) hb (fun _ => he) _ (fun z => absurd z (by omega)) (fun _ => ⟨ar_in, nm_r ar_u ⟨ar_in, nm_r ar_u ⟨ar_in, nm_r ar_u ⟨ar_in, nm_r ar_u ⟨ar_in, nm_r ar_u ⟨ar_in, nm_r ar_u ⟨ar_in, nm_r ar_u ⟨ar_in, nm_r ar_u ⟨ar_in, nm_r ar_u ⟨ar_in, nm_r ar_u ⟨ar_in, nm_r ar_u ⟨ar_in, nm_r ar_u h⟩⟩⟩⟩⟩⟩⟩⟩⟩⟩⟩⟩)
end
section
def rl_n (b : Nat) (nx ne : Int32) : Prop := (nx = -2 ∧ ne = -1) ∨ ∃ d, nx = nI d ∧ ne = nI d ∧ b ≤ d ∧ d ≤ 1100000
def rl_c (b : Nat) (s0 s1 s2 s3 s4 nx : Int32) : Prop := (nx = -2 ∧ ∀ s, b ≤ s → ¬ ca_fit s0 s1 s2 s3 s4 s) ∨ ∃ d, nx = nI d ∧ b ≤ d ∧ d ≤ 1100000 ∧ ca_fit s0 s1 s2 s3 s4 d ∧ ∀ s, b ≤ s → s < d → ¬ ca_fit s0 s1 s2 s3 s4 s
/-- one job: b is the earliest time at which it may be due next -/
def rl_j (b : Nat) (st ma ki mi du pe mt hr dy mo wd nx ms kn ne pr s0 s1 s2 s3 s4 mn wa : Int32) : Prop :=
  (ma = 0 ∧ kn = -1 ∧ wa = 0) ∨
  (ma = 1 ∧ ki = kn ∧ ms = mn ∧ (∃ m, mn = nI m ∧ m + 1 ≤ b) ∧ (st = 0 → mn = 0) ∧ (mi = 0 ∨ mi = 1 ∨ mi = 2) ∧ (∃ d, du = nI d ∧ 1 ≤ d ∧ d ≤ 200) ∧
   ((kn = 0 ∧ rl_n b nx ne) ∨ ((kn = 1 ∨ kn = 2) ∧ rl_n b nx ne ∧ ∃ p, pe = nI p ∧ pr = nI p ∧ 1 ≤ p ∧ p ≤ 2000) ∨ (kn = 3 ∧ (mt = s0 ∧ hr = s1 ∧ dy = s2 ∧ mo = s3 ∧ wd = s4) ∧ rl_c b mt hr dy mo wd nx)))
def rl_J (b : Nat → Nat) (st : Int32) (made kin mis dur per mnt hrs day mon wkd nxt mss knd nex prd sets mnw wai : Nat → Int32) : Prop :=
  ∀ j, j < 12 → rl_j (b j) st (made j) (kin j) (mis j) (dur j) (per j) (mnt j) (hrs j) (day j) (mon j) (wkd j) (nxt j) (mss j) (knd j) (nex j) (prd j) (sets (5 * j)) (sets (5 * j + 1)) (sets (5 * j + 2)) (sets (5 * j + 3)) (sets (5 * j + 4)) (mnw j) (wai j)
/-- the workers; those below wb have been looked at in this tick -/
def rl_W (wb t W : Nat) (bsy wjb wen doi ens : Nat → Int32) : Prop :=
  ∀ w, w < 3 → (bsy w = 0 ∧ ens w = 0) ∨ (bsy w = 1 ∧ w < W ∧ (∃ e, ens w = nI e ∧ wen w = nI e ∧ t ≤ e ∧ (w < wb → t < e) ∧ e ≤ 1000200 ∧ 1 ≤ e) ∧ wjb w = doi w ∧ (wjb w = -1 ∨ ∃ j, j < 12 ∧ wjb w = nI j))
def rl_Q (wai req wdu : Nat → Int32) : Prop := ∀ j, j < 12 → ∃ n, wai j = nI n ∧ n ≤ 3 ∧ ∀ i, i < n → req (3 * j + i) = wdu (3 * j + i)
def rl_S (wai : Nat → Int32) : Nat → Int32
  | 0 => 0
  | n + 1 => rl_S wai n + wai n
def rl_H (rs : Nat) (kjb kst kdu his : Nat → Int32) : Prop := ∀ k, k < 16 → k < rs → his (3 * k) = kjb ((rs - 1 - k) % 16) ∧ his (3 * k + 1) = kst ((rs - 1 - k) % 16) ∧ his (3 * k + 2) = kdu ((rs - 1 - k) % 16)
def rl_T (rs : Nat) (sta : Nat → Int32) : Prop := ∀ j, j < 12 → ∃ m, sta j = nI m ∧ m ≤ rs
def rl_R (K : Nat) (W t rs : Nat) (st nd np no nm ask : Int32) (made kin dur pri ovl mis per mnt hrs day mon wkd nxt sta los msd mss wai req bsy wjb wen kjb kst kdu knd nex prd sets mnw wdu doi ens his fld : Nat → Int32) : Prop :=
  1 ≤ W ∧ W ≤ 3 ∧ t ≤ 1000000 ∧ rs ≤ 3 * t + K ∧ (st = 0 ∨ st = 1) ∧ (∃ d, nd = nI d ∧ 1 ≤ d ∧ d ≤ 200) ∧ (nm = 0 ∨ nm = 1 ∨ nm = 2) ∧ rl_J (fun _ => t + 1) st made kin mis dur per mnt hrs day mon wkd nxt mss knd nex prd sets mnw wai ∧ rl_W 3 t W bsy wjb wen doi ens ∧ rl_Q wai req wdu ∧ ask = rl_S wai 12 ∧ rl_H rs kjb kst kdu his ∧ rl_T rs sta
/-- the relation at the head of a turn whose first cell is k -/
def i_Rel (k : Nat) (u : SX) (v : SY) : Prop := ∃ (W t rs : Nat) (st nd np no nm ask : Int32) (made kin dur pri ovl mis per mnt hrs day mon wkd nxt sta los msd mss wai req bsy wjb wen kjb kst kdu knd nex prd sets mnw wdu doi ens his fld : Nat → Int32), u = ((nI W), (nI t), st, (nI rs), nd, np, no, nm, made, kin, dur, pri, ovl, mis, per, mnt, hrs, day, mon, wkd, nxt, sta, los, msd, mss, wai, req, bsy, wjb, wen, kjb, kst, kdu) ∧ v = ((nI W), (nI t), (nI rs), st, nd, np, no, nm, ask, knd, dur, pri, ovl, mis, nex, prd, sets, sta, los, msd, mnw, wai, wdu, doi, ens, his, fld) ∧ rl_R k W t rs st nd np no nm ask made kin dur pri ovl mis per mnt hrs day mon wkd nxt sta los msd mss wai req bsy wjb wen kjb kst kdu knd nex prd sets mnw wdu doi ens his fld
theorem rl_mk (W t rs : Nat) (st nd np no nm ask : Int32) (made kin dur pri ovl mis per mnt hrs day mon wkd nxt sta los msd mss wai req bsy wjb wen kjb kst kdu knd nex prd sets mnw wdu doi ens his fld : Nat → Int32) (k : Nat) (h : rl_R k W t rs st nd np no nm ask made kin dur pri ovl mis per mnt hrs day mon wkd nxt sta los msd mss wai req bsy wjb wen kjb kst kdu knd nex prd sets mnw wdu doi ens his fld) : i_Rel k ((nI W), (nI t), st, (nI rs), nd, np, no, nm, made, kin, dur, pri, ovl, mis, per, mnt, hrs, day, mon, wkd, nxt, sta, los, msd, mss, wai, req, bsy, wjb, wen, kjb, kst, kdu) ((nI W), (nI t), (nI rs), st, nd, np, no, nm, ask, knd, dur, pri, ovl, mis, nex, prd, sets, sta, los, msd, mnw, wai, wdu, doi, ens, his, fld) := ⟨W, t, rs, st, nd, np, no, nm, ask, made, kin, dur, pri, ovl, mis, per, mnt, hrs, day, mon, wkd, nxt, sta, los, msd, mss, wai, req, bsy, wjb, wen, kjb, kst, kdu, knd, nex, prd, sets, mnw, wdu, doi, ens, his, fld, rfl, rfl, h⟩
theorem rl_up {k m : Nat} (W t rs : Nat) (st nd np no nm ask : Int32) (made kin dur pri ovl mis per mnt hrs day mon wkd nxt sta los msd mss wai req bsy wjb wen kjb kst kdu knd nex prd sets mnw wdu doi ens his fld : Nat → Int32) (hm : k ≤ m) (h : rl_R k W t rs st nd np no nm ask made kin dur pri ovl mis per mnt hrs day mon wkd nxt sta los msd mss wai req bsy wjb wen kjb kst kdu knd nex prd sets mnw wdu doi ens his fld) : rl_R m W t rs st nd np no nm ask made kin dur pri ovl mis per mnt hrs day mon wkd nxt sta los msd mss wai req bsy wjb wen kjb kst kdu knd nex prd sets mnw wdu doi ens his fld := by
  obtain ⟨h1, h2, h3, h4, h5⟩ := h
  exact ⟨h1, h2, h3, by omega, h5⟩
theorem i_up {k : Nat} {u : SX} {v : SY} (h : i_Rel k u v) : i_Rel (k + 6) u v := by
  obtain ⟨W, t, rs, st, nd, np, no, nm, ask, made, kin, dur, pri, ovl, mis, per, mnt, hrs, day, mon, wkd, nxt, sta, los, msd, mss, wai, req, bsy, wjb, wen, kjb, kst, kdu, knd, nex, prd, sets, mnw, wdu, doi, ens, his, fld, rfl, rfl, h⟩ := h
  exact rl_mk W t rs st nd np no nm ask made kin dur pri ovl mis per mnt hrs day mon wkd nxt sta los msd mss wai req bsy wjb wen kjb kst kdu knd nex prd sets mnw wdu doi ens his fld _ (rl_up W t rs st nd np no nm ask made kin dur pri ovl mis per mnt hrs day mon wkd nxt sta los msd mss wai req bsy wjb wen kjb kst kdu knd nex prd sets mnw wdu doi ens his fld (by omega) h)
/-! what the pieces give -/
theorem rl_m0 {b : Nat} {st ma ki mi du pe mt hr dy mo wd nx ms kn ne pr s0 s1 s2 s3 s4 mn wa : Int32} (h : rl_j b st ma ki mi du pe mt hr dy mo wd nx ms kn ne pr s0 s1 s2 s3 s4 mn wa) (e : ma = 0) : kn = -1 ∧ wa = 0 := by
  rcases h with ⟨_, h⟩ | ⟨h, _⟩
  · exact h
  · rw [h] at e; exact absurd e (by decide)
theorem rl_k0 {b : Nat} {st ma ki mi du pe mt hr dy mo wd nx ms kn ne pr s0 s1 s2 s3 s4 mn wa : Int32} (h : rl_j b st ma ki mi du pe mt hr dy mo wd nx ms kn ne pr s0 s1 s2 s3 s4 mn wa) (e : kn < 0) : ma = 0 := by
  rcases h with ⟨h, _⟩ | ⟨_, _, _, _, _, _, _, h⟩
  · exact h
  · rcases h with ⟨h, _⟩ | ⟨h | h, _⟩ | ⟨h, _⟩
    all_goals (rw [h] at e; exact absurd e (by decide))
theorem rl_m1 {b : Nat} {st ma ki mi du pe mt hr dy mo wd nx ms kn ne pr s0 s1 s2 s3 s4 mn wa : Int32} (h : rl_j b st ma ki mi du pe mt hr dy mo wd nx ms kn ne pr s0 s1 s2 s3 s4 mn wa) (e : ¬ ma = 0) : ¬ kn < 0 := fun z => e (rl_k0 h z)
theorem rl_PQ {wb t W : Nat} {bsy wjb wen doi ens : Nat → Int32} (hW : W ≤ 3) (h : rl_W wb t W bsy wjb wen doi ens) (x : Int32) : hp_P bsy wjb x ↔ hp_Q W ens doi x := by
  constructor
  · rintro ⟨w, hw, hb, he⟩
    rcases h w hw with ⟨g, _⟩ | ⟨_, g, ⟨e, e1, _, _, _, e5, e6⟩, g2, _⟩
    · exact absurd g hb
    · exact ⟨w, g, by rw [e1]; exact nI_nle (by omega) (by omega), by rw [← g2]; exact he⟩
  · rintro ⟨w, hw, hb, he⟩
    rcases h w (by omega) with ⟨_, g⟩ | ⟨g, _, _, g2, _⟩
    · rw [g] at hb; exact absurd (by decide) hb
    · exact ⟨w, by omega, by rw [g]; decide, by rw [g2]; exact he⟩
theorem up_id {a : Nat → Int32} {i : Nat} {x : Int32} (h : a i = x) : upd a i x = a := by
  funext j
  by_cases e : j = i
  · rw [e, pk_us, h]
  · rw [pk_un e]
theorem rl_Su {wai : Nat → Int32} {i : Nat} {x : Int32} : ∀ n, rl_S (upd wai i x) n = if i < n then rl_S wai n - wai i + x else rl_S wai n := by
  intro n
  induction n with
  | zero => rfl
  | succ n ih =>
    show rl_S (upd wai i x) n + upd wai i x n = _
    rw [ih]
    by_cases h : i < n
    · rw [if_pos h, if_pos (by omega), pk_un (by omega)]
      show _ = rl_S wai n + wai n - wai i + x
      grind
    · rw [if_neg h]
      by_cases e : i = n
      · rw [if_pos (by omega), e, pk_us]
        show _ = rl_S wai n + wai n - wai n + x
        grind
      · rw [if_neg (by omega), pk_un (by omega)]
        rfl
theorem rl_Sp {wai req wdu : Nat → Int32} (h : rl_Q wai req wdu) : ∀ n, n ≤ 12 → ∃ s, rl_S wai n = nI s ∧ s ≤ 3 * n ∧ ∀ j, j < n → ∀ m, m ≤ 3 → wai j = nI m → m ≤ s := by
  intro n
  induction n with
  | zero => intro _; exact ⟨0, rfl, by omega, fun j hj => absurd hj (by omega)⟩
  | succ n ih =>
    intro hn
    obtain ⟨s, e, hs, hm⟩ := ih (by omega)
    obtain ⟨q, eq, hq, _⟩ := h n (by omega)
    refine ⟨s + q, by show rl_S wai n + wai n = _; rw [e, eq, nI_add], by omega, ?_⟩
    intro j hj m h3 hm2
    rcases Nat.lt_or_ge j n with g | g
    · have := hm j g m h3 hm2
      omega
    · have e2 : j = n := by omega
      rw [e2, eq] at hm2
      have := ar_eq hm2
      omega
end
section
theorem ar_ge0 {x : Int32} {n : Nat} (h : nI n ≤ x) (hn : n < 2147483648 := by omega) : ¬ x < 0 := fun z => nI_pos hn (Int32.lt_of_le_of_lt h z)
theorem sm_run (W t rs : Nat) (st nd np no nm ask : Int32) (made kin dur pri ovl mis per mnt hrs day mon wkd nxt sta los msd mss wai req bsy wjb wen kjb kst kdu knd nex prd sets mnw wdu doi ens his fld : Nat → Int32) (hRs : rs < 2147483648) (hH : rl_H rs kjb kst kdu his) (v1 v2 : Int32) : ∃ r, (∀ post : Int32 → Prop, post r → wpX_run post ((nI W), (nI t), st, (nI rs), nd, np, no, nm, made, kin, dur, pri, ovl, mis, per, mnt, hrs, day, mon, wkd, nxt, sta, los, msd, mss, wai, req, bsy, wjb, wen, kjb, kst, kdu) v1 v2) ∧ (∀ post : Int32 → Prop, post r → wpY_run post ((nI W), (nI t), (nI rs), st, nd, np, no, nm, ask, knd, dur, pri, ovl, mis, nex, prd, sets, sta, los, msd, mnw, wai, wdu, doi, ens, his, fld) v1 v2) := by
  rcases pk_ix v1 (n := 16) (by omega) with h | h | ⟨k, hk, rfl⟩
  · exact ⟨-1, fun post hp => br_t h hp, fun post hp => br_t h hp⟩
  · have h0 : ¬ v1 < 0 := ar_ge0 h
    have h15 : 15 < v1 := Int32.lt_of_lt_of_le (by decide) h
    exact ⟨-1, fun post hp => br_f h0 (br_t h hp), fun post hp => br_f h0 (br_t h15 hp)⟩
  · have h0 : ¬ nI k < 0 := nI_pos (by omega)
    have h16 : ¬ (16 : Int32) ≤ nI k := ar_nle (a := 16) hk
    have h15 : ¬ (15 : Int32) < nI k := ar_nlt (b := k) (a := 15) (by omega)
    by_cases hr : k < rs
    · have e : nI rs - 1 - nI k = nI (rs - 1 - k) := by
        show nI rs - nI 1 - nI k = _
        rw [pk_sub (by omega), pk_sub (by omega)]
      have e2 : (nI rs - 1 - nI k) - (nI rs - 1 - nI k) / 16 * 16 = nI ((rs - 1 - k) % 16) := by
        rw [e]; exact ar_rem (d := 16) (by omega) (by omega) (by omega)
      have hm : (rs - 1 - k) % 16 < 16 := Nat.mod_lt _ (by omega)
      obtain ⟨g0, g1, g2⟩ := hH k hk hr
      have X1 : ∀ post : Int32 → Prop, ∀ r : Int32, ((v2 < 0 → post (-1)) ∧ (¬ v2 < 0 → (((2 < v2 → post (-1)) ∧ (¬ 2 < v2 → (((v2 = 0 → (vp_in (nI ((rs - 1 - k) % 16)) 16 ∧ post (kjb (nI ((rs - 1 - k) % 16)).toNatClampNeg))) ∧ (¬ v2 = 0 → (((v2 = 1 → (vp_in (nI ((rs - 1 - k) % 16)) 16 ∧ post (kst (nI ((rs - 1 - k) % 16)).toNatClampNeg))) ∧ (¬ v2 = 1 → (((v2 = 2 → (vp_in (nI ((rs - 1 - k) % 16)) 16 ∧ post (kdu (nI ((rs - 1 - k) % 16)).toNatClampNeg))) ∧ (¬ v2 = 2 → True)))))))))))))) → wpX_run post ((nI W), (nI t), st, (nI rs), nd, np, no, nm, made, kin, dur, pri, ovl, mis, per, mnt, hrs, day, mon, wkd, nxt, sta, los, msd, mss, wai, req, bsy, wjb, wen, kjb, kst, kdu) (nI k) v2 := fun post r hh => br_f h0 (br_f h16 (pk_lt k rs (fun _ => ⟨by decide, nm_r e2 hh⟩) (fun z => absurd z (by omega))))
      have Y1 : ∀ post : Int32 → Prop, wpY_within (fun r_4 => (((r_4 = 0 → (post (-1))) ∧ (¬ r_4 = 0 → (vp_in ((3 * nI k) + v2) 48 ∧ (post (his ((3 * nI k) + v2).toNatClampNeg))))))) v2 0 2 → wpY_run post ((nI W), (nI t), (nI rs), st, nd, np, no, nm, ask, knd, dur, pri, ovl, mis, nex, prd, sets, sta, los, msd, mnw, wai, wdu, doi, ens, his, fld) (nI k) v2 := fun post hh => br_f h0 (br_f h15 (pk_le rs k (fun z => absurd z (by omega)) (fun _ => hh)))
      rcases pk_ix v2 (n := 3) (by omega) with h | h | ⟨q, hq, rfl⟩
      · exact ⟨-1, fun post hp => X1 post 0 (br_t h hp), fun post hp => Y1 post (yr_within _ _ _ _ (fun a _ => absurd h a) (fun _ => br_t rfl hp))⟩
      · have g0 : ¬ v2 < 0 := ar_ge0 h
        have g2 : 2 < v2 := Int32.lt_of_lt_of_le (by decide) h
        exact ⟨-1, fun post hp => X1 post 0 (br_f g0 (br_t g2 hp)), fun post hp => Y1 post (yr_within _ _ _ _ (fun _ a => absurd g2 a) (fun _ => br_t rfl hp))⟩
      · have es : 3 * nI k + nI q = nI (3 * k + q) := by rw [ar_3x, nI_add]
        have Y2 : ∀ post : Int32 → Prop, post (his (3 * k + q)) → wpY_run post ((nI W), (nI t), (nI rs), st, nd, np, no, nm, ask, knd, dur, pri, ovl, mis, nex, prd, sets, sta, los, msd, mnw, wai, wdu, doi, ens, his, fld) (nI k) (nI q) := fun post hh => Y1 post (yr_within _ _ _ _ (fun _ _ => br_f (by decide) (by rw [es, ar_k]; exact ⟨ar_in, hh⟩)) (fun z => z.elim (fun a => absurd a (nI_pos (by omega))) (fun a => absurd a (ar_nlt (b := q) (a := 2) (by omega)))))
        have hq3 : q = 0 ∨ q = 1 ∨ q = 2 := by omega
        rcases hq3 with rfl | rfl | rfl
        · exact ⟨his (3 * k), fun post hp => X1 post 0 (br_f (by decide) (br_f (by decide) (br_t rfl ⟨ar_in, by rw [ar_k, ← g0]; exact hp⟩))), fun post hp => Y2 post hp⟩
        · exact ⟨his (3 * k + 1), fun post hp => X1 post 0 (br_f (by decide) (br_f (by decide) (br_f (by decide) (br_t rfl ⟨ar_in, by rw [ar_k, ← g1]; exact hp⟩)))), fun post hp => Y2 post hp⟩
        · exact ⟨his (3 * k + 2), fun post hp => X1 post 0 (br_f (by decide) (br_f (by decide) (br_f (by decide) (br_f (by decide) (br_t rfl ⟨ar_in, by rw [ar_k, ← g2]; exact hp⟩))))), fun post hp => Y2 post hp⟩
    · exact ⟨-1, fun post hp => br_f h0 (br_f h16 (pk_lt k rs (fun z => absurd z hr) (fun _ => hp))), fun post hp => br_f h0 (br_f h15 (pk_le rs k (fun _ => hp) (fun z => absurd z (by omega))))⟩
theorem sm_free (W t rs : Nat) (st nd np no nm ask : Int32) (made kin dur pri ovl mis per mnt hrs day mon wkd nxt sta los msd mss wai req bsy wjb wen kjb kst kdu knd nex prd sets mnw wdu doi ens his fld : Nat → Int32) (hW : W ≤ 3) (hK : rl_W 3 t W bsy wjb wen doi ens) : ∃ r, (∀ post : Int32 → Prop, post r → wpX_countFreeWorkers post ((nI W), (nI t), st, (nI rs), nd, np, no, nm, made, kin, dur, pri, ovl, mis, per, mnt, hrs, day, mon, wkd, nxt, sta, los, msd, mss, wai, req, bsy, wjb, wen, kjb, kst, kdu)) ∧ (∀ post : Int32 → Prop, post r → ∃ n, wY_state_63 post (nI W) (nI t) (nI rs) st nd np no nm ask knd dur pri ovl mis nex prd sets sta los msd mnw wai wdu doi ens his fld n 0 0) := by
  have key : ∀ d i x, i + d = W → ∃ r, (∀ post : Int32 → Prop, post r → wX_countFreeWorkers_4 post (nI W) (nI t) st (nI rs) nd np no nm made kin dur pri ovl mis per mnt hrs day mon wkd nxt sta los msd mss wai req bsy wjb wen kjb kst kdu (d + 1) x (nI i)) ∧ (∀ post : Int32 → Prop, post r → wY_state_63 post (nI W) (nI t) (nI rs) st nd np no nm ask knd dur pri ovl mis nex prd sets sta los msd mnw wai wdu doi ens his fld (d + 1) x (nI i)) := by
    intro d
    induction d with
    | zero =>
      intro i x hi
      exact ⟨x, fun post hp => pk_le W i (fun _ => hp) (fun z => absurd z (by omega)), fun post hp => pk_le W i (fun _ => hp) (fun z => absurd z (by omega))⟩
    | succ d ih =>
      intro i x hi
      rcases hK i (by omega) with ⟨b0, e0⟩ | ⟨b1, _, ⟨e, e1, _, _, _, e5, e6⟩, _⟩
      · obtain ⟨r, hx, hy⟩ := ih (i + 1) (x + 1) (by omega)
        exact ⟨r, fun post hp => pk_le W i (fun z => absurd z (by omega)) (fun _ => ⟨ar_in, br_t (ar_c b0) (nm_e (nm_r (nI_1 i) (hx post hp)))⟩), fun post hp => pk_le W i (fun z => absurd z (by omega)) (fun _ => ⟨ar_in, br_t (ar_c e0) (nm_e (nm_r (nI_1 i) (hy post hp)))⟩)⟩
      · obtain ⟨r, hx, hy⟩ := ih (i + 1) x (by omega)
        refine ⟨r, fun post hp => pk_le W i (fun z => absurd z (by omega)) (fun _ => ⟨ar_in, br_f (ar_n (by rw [b1]; decide)) (nm_r (Int32.add_zero x) (nm_r (nI_1 i) (hx post hp)))⟩), fun post hp => pk_le W i (fun z => absurd z (by omega)) (fun _ => ⟨ar_in, br_f (ar_n (by rw [e1]; exact nI_ne0 (by omega) (by omega))) (nm_r (nI_1 i) (hy post hp))⟩)⟩
  obtain ⟨r, hx, hy⟩ := key W 0 0 (by omega)
  exact ⟨r, fun post hp => ⟨_, hx post hp⟩, fun post hp => ⟨_, hy post hp⟩⟩
theorem sm_wait (W t rs : Nat) (st nd np no nm ask : Int32) (made kin dur pri ovl mis per mnt hrs day mon wkd nxt sta los msd mss wai req bsy wjb wen kjb kst kdu knd nex prd sets mnw wdu doi ens his fld : Nat → Int32) : ∃ r, (∀ post : Int32 → Prop, post r → wpX_countWaiting post ((nI W), (nI t), st, (nI rs), nd, np, no, nm, made, kin, dur, pri, ovl, mis, per, mnt, hrs, day, mon, wkd, nxt, sta, los, msd, mss, wai, req, bsy, wjb, wen, kjb, kst, kdu)) ∧ (∀ post : Int32 → Prop, post r → ∃ n, wY_state_93 post (nI W) (nI t) (nI rs) st nd np no nm ask knd dur pri ovl mis nex prd sets sta los msd mnw wai wdu doi ens his fld n 0 0) := by
  have key : ∀ d i x, i + d = 12 → ∃ r, (∀ post : Int32 → Prop, post r → wX_countWaiting_4 post (nI W) (nI t) st (nI rs) nd np no nm made kin dur pri ovl mis per mnt hrs day mon wkd nxt sta los msd mss wai req bsy wjb wen kjb kst kdu (d + 1) x (nI i)) ∧ (∀ post : Int32 → Prop, post r → wY_state_93 post (nI W) (nI t) (nI rs) st nd np no nm ask knd dur pri ovl mis nex prd sets sta los msd mnw wai wdu doi ens his fld (d + 1) x (nI i)) := by
    intro d
    induction d with
    | zero =>
      intro i x hi
      exact ⟨x, fun post hp => pk_le 12 i (fun _ => hp) (fun z => absurd z (by omega)), fun post hp => pk_le 12 i (fun _ => hp) (fun z => absurd z (by omega))⟩
    | succ d ih =>
      intro i x hi
      obtain ⟨r, hx, hy⟩ := ih (i + 1) (x + wai i) (by omega)
      have e : x + wai (nI i).toNatClampNeg = x + wai i := by rw [ar_k]
      exact ⟨r, fun post hp => pk_le 12 i (fun z => absurd z (by omega)) (fun _ => ⟨ar_in, nm_r e (nm_r (nI_1 i) (hx post hp))⟩), fun post hp => pk_le 12 i (fun z => absurd z (by omega)) (fun _ => ⟨ar_in, nm_r e (nm_r (nI_1 i) (hy post hp))⟩)⟩
  obtain ⟨r, hx, hy⟩ := key 12 0 0 (by omega)
  exact ⟨r, fun post hp => ⟨_, hx post hp⟩, fun post hp => ⟨_, hy post hp⟩⟩
theorem sm_nextEnd (W t rs : Nat) (st nd np no nm ask : Int32) (made kin dur pri ovl mis per mnt hrs day mon wkd nxt sta los msd mss wai req bsy wjb wen kjb kst kdu knd nex prd sets mnw wdu doi ens his fld : Nat → Int32) (hW : W ≤ 3) (hK : rl_W 3 t W bsy wjb wen doi ens) : ∃ r, (∀ post : Int32 → Prop, post r → wpX_nextEnd post ((nI W), (nI t), st, (nI rs), nd, np, no, nm, made, kin, dur, pri, ovl, mis, per, mnt, hrs, day, mon, wkd, nxt, sta, los, msd, mss, wai, req, bsy, wjb, wen, kjb, kst, kdu)) ∧ (∀ post : Int32 → Prop, post r → wpY_nextEnd post ((nI W), (nI t), (nI rs), st, nd, np, no, nm, ask, knd, dur, pri, ovl, mis, nex, prd, sets, sta, los, msd, mnw, wai, wdu, doi, ens, his, fld)) := by
  have tail : ∀ d i x, i + d = 3 → W ≤ i → (∀ post : Int32 → Prop, post x → wX_nextEnd_5 post (nI W) (nI t) st (nI rs) nd np no nm made kin dur pri ovl mis per mnt hrs day mon wkd nxt sta los msd mss wai req bsy wjb wen kjb kst kdu (d + 1) x (nI i)) := by
    intro d
    induction d with
    | zero =>
      intro i x hi hw post hp
      exact pk_le 3 i (fun _ => hp) (fun z => absurd z (by omega))
    | succ d ih =>
      intro i x hi hw post hp
      rcases hK i (by omega) with ⟨b0, e0⟩ | ⟨b1, g, _⟩
      · exact pk_le 3 i (fun z => absurd z (by omega)) (fun _ => ⟨ar_in, br_t (ar_c b0) (nm_r (nI_1 i) (ih (i + 1) x (by omega) (by omega) post hp))⟩)
      · exact absurd g (by omega)
  have key : ∀ d i x, i + d = W → (x = -2 ∨ ∃ e, x = nI e ∧ e < 2147483648) → ∃ r, (∀ post : Int32 → Prop, post r → wX_nextEnd_5 post (nI W) (nI t) st (nI rs) nd np no nm made kin dur pri ovl mis per mnt hrs day mon wkd nxt sta los msd mss wai req bsy wjb wen kjb kst kdu (3 - i + 1) x (nI i)) ∧ (∀ post : Int32 → Prop, post r → wY_nextEnd_5 post (nI W) (nI t) (nI rs) st nd np no nm ask knd dur pri ovl mis nex prd sets sta los msd mnw wai wdu doi ens his fld (d + 1) x (nI i)) := by
    intro d
    induction d with
    | zero =>
      intro i x hi hx
      exact ⟨x, tail (3 - i) i x (by omega) (by omega), fun post hp => pk_le W i (fun _ => hp) (fun z => absurd z (by omega))⟩
    | succ d ih =>
      intro i x hi hx
      have e3 : 3 - i + 1 = (3 - (i + 1) + 1) + 1 := by omega
      rw [e3]
      have hk : (nI i).toNatClampNeg = i := ar_k
      rcases hK i (by omega) with ⟨b0, e0⟩ | ⟨b1, _, ⟨e, e1, e2, _, _, e5, e6⟩, _⟩
      · obtain ⟨r, hx, hy⟩ := ih (i + 1) x (by omega) hx
        exact ⟨r, fun post hp => pk_le 3 i (fun z => absurd z (by omega)) (fun _ => ⟨ar_in, br_t (ar_c b0) (nm_r (nI_1 i) (hx post hp))⟩), fun post hp => pk_le W i (fun z => absurd z (by omega)) (fun _ => ⟨ar_in, br_t (by rw [hk, e0]; decide) (nm_r (nI_1 i) (hy post hp))⟩)⟩
      · have nb : ¬ bsy (nI i).toNatClampNeg = 0 := ar_n (by rw [b1]; decide)
        have ne : ¬ ens (nI i).toNatClampNeg ≤ 0 := by rw [hk, e1]; exact nI_nle (by omega) (by omega)
        have w1 : wen (nI i).toNatClampNeg = nI e := ar_c e2
        have w2 : ens (nI i).toNatClampNeg = nI e := ar_c e1
        rcases hx with rfl | ⟨f, rfl, hf⟩
        · obtain ⟨r, hx, hy⟩ := ih (i + 1) (nI e) (by omega) (Or.inr ⟨e, rfl, by omega⟩)
          exact ⟨r, fun post hp => pk_le 3 i (fun z => absurd z (by omega)) (fun _ => ⟨ar_in, br_f nb (br_t rfl ⟨ar_in, nm_r w1 (nm_r (nI_1 i) (hx post hp))⟩)⟩), fun post hp => pk_le W i (fun z => absurd z (by omega)) (fun _ => ⟨ar_in, br_f ne (br_t (by decide) ⟨ar_in, nm_r w2 (nm_r (nI_1 i) (hy post hp))⟩)⟩)⟩
        · by_cases hfe : f ≤ e
          · obtain ⟨r, hx, hy⟩ := ih (i + 1) (nI f) (by omega) (Or.inr ⟨f, rfl, hf⟩)
            exact ⟨r, fun post hp => pk_le 3 i (fun z => absurd z (by omega)) (fun _ => ⟨ar_in, br_f nb (br_f (ar_ne2 hf) ⟨ar_in, br_t (by rw [w1]; exact ar_le hfe) (nm_r (nI_1 i) (hx post hp))⟩)⟩), fun post hp => pk_le W i (fun z => absurd z (by omega)) (fun _ => ⟨ar_in, br_f ne (br_f (nI_pos hf) ⟨ar_in, br_t (by rw [w2]; exact ar_le hfe) (nm_r (nI_1 i) (hy post hp))⟩)⟩)⟩
          · obtain ⟨r, hx, hy⟩ := ih (i + 1) (nI e) (by omega) (Or.inr ⟨e, rfl, by omega⟩)
            exact ⟨r, fun post hp => pk_le 3 i (fun z => absurd z (by omega)) (fun _ => ⟨ar_in, br_f nb (br_f (ar_ne2 hf) ⟨ar_in, br_f (by rw [w1]; exact ar_nle (by omega) hf) ⟨ar_in, nm_r w1 (nm_r (nI_1 i) (hx post hp))⟩⟩)⟩), fun post hp => pk_le W i (fun z => absurd z (by omega)) (fun _ => ⟨ar_in, br_f ne (br_f (nI_pos hf) ⟨ar_in, br_f (by rw [w2]; exact ar_nle (by omega) hf) ⟨ar_in, nm_r w2 (nm_r (nI_1 i) (hy post hp))⟩⟩)⟩)⟩
  obtain ⟨r, hx, hy⟩ := key W 0 (-2) (by omega) (Or.inl rfl)
  exact ⟨r, fun post hp => ⟨_, hx post hp⟩, fun post hp => ⟨_, hy post hp⟩⟩
theorem sm_state (W t rs : Nat) (st nd np no nm ask : Int32) (made kin dur pri ovl mis per mnt hrs day mon wkd nxt sta los msd mss wai req bsy wjb wen kjb kst kdu knd nex prd sets mnw wdu doi ens his fld : Nat → Int32) (ht : t ≤ 1000000) (hW : W ≤ 3) (hst : st = 0 ∨ st = 1) (hK : rl_W 3 t W bsy wjb wen doi ens) (v1 : Int32) : ∃ r, (∀ post : Int32 → Prop, post r → wpX_state post ((nI W), (nI t), st, (nI rs), nd, np, no, nm, made, kin, dur, pri, ovl, mis, per, mnt, hrs, day, mon, wkd, nxt, sta, los, msd, mss, wai, req, bsy, wjb, wen, kjb, kst, kdu) v1) ∧ (∀ post : Int32 → Prop, post r → wpY_state post ((nI W), (nI t), (nI rs), st, nd, np, no, nm, ask, knd, dur, pri, ovl, mis, nex, prd, sets, sta, los, msd, mnw, wai, wdu, doi, ens, his, fld) v1) := by
  rcases pk_ix v1 (n := 10) (by omega) with h | h | ⟨k, hk, rfl⟩
  · exact ⟨-1, fun post hp => br_t h hp, fun post hp => br_t h hp⟩
  · have h0 : ¬ v1 < 0 := ar_ge0 h
    have h9 : 9 < v1 := Int32.lt_of_lt_of_le (by decide) h
    exact ⟨-1, fun post hp => br_f h0 (br_t h9 hp), fun post hp => br_f h0 (br_t h9 hp)⟩
  · have hk10 : k = 0 ∨ k = 1 ∨ k = 2 ∨ k = 3 ∨ k = 4 ∨ k = 5 ∨ k = 6 ∨ k = 7 ∨ k = 8 ∨ k = 9 := by omega
    rcases hk10 with rfl | rfl | rfl | rfl | rfl | rfl | rfl | rfl | rfl | rfl
    · exact ⟨nI t, fun post hp => (br_f (by decide) (br_f (by decide) (br_t rfl hp))), fun post hp => (br_f (by decide) (br_f (by decide) (br_t rfl hp)))⟩
    · obtain ⟨r, hx, hy⟩ := sm_free W t rs st nd np no nm ask made kin dur pri ovl mis per mnt hrs day mon wkd nxt sta los msd mss wai req bsy wjb wen kjb kst kdu knd nex prd sets mnw wdu doi ens his fld hW hK
      exact ⟨r, fun post hp => (br_f (by decide) (br_f (by decide) (br_f (by decide) (br_t rfl (hx _ hp))))), fun post hp => (br_f (by decide) (br_f (by decide) (br_f (by decide) (br_t rfl (hy _ hp)))))⟩
    · obtain ⟨r, hx, hy⟩ := sm_wait W t rs st nd np no nm ask made kin dur pri ovl mis per mnt hrs day mon wkd nxt sta los msd mss wai req bsy wjb wen kjb kst kdu knd nex prd sets mnw wdu doi ens his fld
      exact ⟨r, fun post hp => (br_f (by decide) (br_f (by decide) (br_f (by decide) (br_f (by decide) (br_t rfl (hx _ hp)))))), fun post hp => (br_f (by decide) (br_f (by decide) (br_f (by decide) (br_f (by decide) (br_t rfl (hy _ hp))))))⟩
    · exact ⟨nI rs, fun post hp => (br_f (by decide) (br_f (by decide) (br_f (by decide) (br_f (by decide) (br_f (by decide) (br_t rfl hp)))))), fun post hp => (br_f (by decide) (br_f (by decide) (br_f (by decide) (br_f (by decide) (br_f (by decide) (br_t rfl hp))))))⟩
    · rcases hst with rfl | rfl
      · exact ⟨0, fun post hp => (br_f (by decide) (br_f (by decide) (br_f (by decide) (br_f (by decide) (br_f (by decide) (br_f (by decide) (br_t rfl (br_t rfl hp)))))))), fun post hp => (br_f (by decide) (br_f (by decide) (br_f (by decide) (br_f (by decide) (br_f (by decide) (br_f (by decide) (br_t rfl (br_t rfl hp))))))))⟩
      · exact ⟨1, fun post hp => (br_f (by decide) (br_f (by decide) (br_f (by decide) (br_f (by decide) (br_f (by decide) (br_f (by decide) (br_t rfl (br_f (by decide) hp)))))))), fun post hp => (br_f (by decide) (br_f (by decide) (br_f (by decide) (br_f (by decide) (br_f (by decide) (br_f (by decide) (br_t rfl (br_f (by decide) hp))))))))⟩
    · exact ⟨ca_f t 0, fun post hp => (br_f (by decide) (br_f (by decide) (br_f (by decide) (br_f (by decide) (br_f (by decide) (br_f (by decide) (br_f (by decide) (br_t rfl (xr_minute _ _ _ _ _ _ _ _ _ _ _ _ _ _ _ _ _ _ _ _ _ _ _ _ _ _ _ _ _ _ _ _ _ t (by omega) _ hp))))))))), fun post hp => (br_f (by decide) (br_f (by decide) (br_f (by decide) (br_f (by decide) (br_f (by decide) (br_f (by decide) (br_f (by decide) (br_t rfl (yr_field t 0 (by omega) (by omega) _ hp)))))))))⟩
    · exact ⟨ca_f t 1, fun post hp => (br_f (by decide) (br_f (by decide) (br_f (by decide) (br_f (by decide) (br_f (by decide) (br_f (by decide) (br_f (by decide) (br_f (by decide) (br_t rfl (xr_hour _ _ _ _ _ _ _ _ _ _ _ _ _ _ _ _ _ _ _ _ _ _ _ _ _ _ _ _ _ _ _ _ _ t (by omega) _ hp)))))))))), fun post hp => (br_f (by decide) (br_f (by decide) (br_f (by decide) (br_f (by decide) (br_f (by decide) (br_f (by decide) (br_f (by decide) (br_f (by decide) (br_t rfl (yr_field t 1 (by omega) (by omega) _ hp))))))))))⟩
    · exact ⟨ca_f t 2 + 1, fun post hp => (br_f (by decide) (br_f (by decide) (br_f (by decide) (br_f (by decide) (br_f (by decide) (br_f (by decide) (br_f (by decide) (br_f (by decide) (br_f (by decide) (br_t rfl (xr_day _ _ _ _ _ _ _ _ _ _ _ _ _ _ _ _ _ _ _ _ _ _ _ _ _ _ _ _ _ _ _ _ _ t (by omega) _ hp))))))))))), fun post hp => (br_f (by decide) (br_f (by decide) (br_f (by decide) (br_f (by decide) (br_f (by decide) (br_f (by decide) (br_f (by decide) (br_f (by decide) (br_f (by decide) (br_t rfl (yr_field t 2 (by omega) (by omega) _ hp)))))))))))⟩
    · exact ⟨ca_f t 3 + 1, fun post hp => (br_f (by decide) (br_f (by decide) (br_f (by decide) (br_f (by decide) (br_f (by decide) (br_f (by decide) (br_f (by decide) (br_f (by decide) (br_f (by decide) (br_f (by decide) (br_t rfl (xr_month _ _ _ _ _ _ _ _ _ _ _ _ _ _ _ _ _ _ _ _ _ _ _ _ _ _ _ _ _ _ _ _ _ t (by omega) _ hp)))))))))))), fun post hp => (br_f (by decide) (br_f (by decide) (br_f (by decide) (br_f (by decide) (br_f (by decide) (br_f (by decide) (br_f (by decide) (br_f (by decide) (br_f (by decide) (br_f (by decide) (br_t rfl (yr_field t 3 (by omega) (by omega) _ hp))))))))))))⟩
    · exact ⟨ca_f t 4, fun post hp => (br_f (by decide) (br_f (by decide) (br_f (by decide) (br_f (by decide) (br_f (by decide) (br_f (by decide) (br_f (by decide) (br_f (by decide) (br_f (by decide) (br_f (by decide) (br_f (by decide) (br_t rfl (xr_week _ _ _ _ _ _ _ _ _ _ _ _ _ _ _ _ _ _ _ _ _ _ _ _ _ _ _ _ _ _ _ _ _ t (by omega) _ hp))))))))))))), fun post hp => (br_f (by decide) (br_f (by decide) (br_f (by decide) (br_f (by decide) (br_f (by decide) (br_f (by decide) (br_f (by decide) (br_f (by decide) (br_f (by decide) (br_f (by decide) (br_f (by decide) (br_t rfl (yr_field t 4 (by omega) (by omega) _ hp)))))))))))))⟩
theorem i_vc_run {k : Nat} {u : SX} {v : SY} (I : i_Rel k u v) (hk : k + 6 ≤ 3073) (v1 : Int32) (v2 : Int32) : wpX_run (fun r => wpY_run (fun r' => r' = r ∧ i_Rel (k + 6) u v) v v1 v2) u v1 v2 := by
  obtain ⟨W, t, rs, st, nd, np, no, nm, ask, made, kin, dur, pri, ovl, mis, per, mnt, hrs, day, mon, wkd, nxt, sta, los, msd, mss, wai, req, bsy, wjb, wen, kjb, kst, kdu, knd, nex, prd, sets, mnw, wdu, doi, ens, his, fld, rfl, rfl, h⟩ := I
  have h' := rl_mk W t rs st nd np no nm ask made kin dur pri ovl mis per mnt hrs day mon wkd nxt sta los msd mss wai req bsy wjb wen kjb kst kdu knd nex prd sets mnw wdu doi ens his fld _ (rl_up W t rs st nd np no nm ask made kin dur pri ovl mis per mnt hrs day mon wkd nxt sta los msd mss wai req bsy wjb wen kjb kst kdu knd nex prd sets mnw wdu doi ens his fld (m := k + 6) (by omega) h)
  obtain ⟨hW1, hW3, ht, hRs, hst, hnd, hnm, hJ, hK, hQ, hA, hH, hT⟩ := h
  obtain ⟨r, hx, hy⟩ := sm_run W t rs st nd np no nm ask made kin dur pri ovl mis per mnt hrs day mon wkd nxt sta los msd mss wai req bsy wjb wen kjb kst kdu knd nex prd sets mnw wdu doi ens his fld (by omega) hH v1 v2
  exact hx _ (hy _ ⟨rfl, h'⟩)
theorem i_vc_state {k : Nat} {u : SX} {v : SY} (I : i_Rel k u v) (hk : k + 6 ≤ 3073) (v1 : Int32) : wpX_state (fun r => wpY_state (fun r' => r' = r ∧ i_Rel (k + 6) u v) v v1) u v1 := by
  obtain ⟨W, t, rs, st, nd, np, no, nm, ask, made, kin, dur, pri, ovl, mis, per, mnt, hrs, day, mon, wkd, nxt, sta, los, msd, mss, wai, req, bsy, wjb, wen, kjb, kst, kdu, knd, nex, prd, sets, mnw, wdu, doi, ens, his, fld, rfl, rfl, h⟩ := I
  have h' := rl_mk W t rs st nd np no nm ask made kin dur pri ovl mis per mnt hrs day mon wkd nxt sta los msd mss wai req bsy wjb wen kjb kst kdu knd nex prd sets mnw wdu doi ens his fld _ (rl_up W t rs st nd np no nm ask made kin dur pri ovl mis per mnt hrs day mon wkd nxt sta los msd mss wai req bsy wjb wen kjb kst kdu knd nex prd sets mnw wdu doi ens his fld (m := k + 6) (by omega) h)
  obtain ⟨hW1, hW3, ht, hRs, hst, hnd, hnm, hJ, hK, hQ, hA, hH, hT⟩ := h
  obtain ⟨r, hx, hy⟩ := sm_state W t rs st nd np no nm ask made kin dur pri ovl mis per mnt hrs day mon wkd nxt sta los msd mss wai req bsy wjb wen kjb kst kdu knd nex prd sets mnw wdu doi ens his fld ht hW3 hst hK v1
  exact hx _ (hy _ ⟨rfl, h'⟩)
theorem i_vc_nextEnd {k : Nat} {u : SX} {v : SY} (I : i_Rel k u v) (hk : k + 6 ≤ 3073) : wpX_nextEnd (fun r => wpY_nextEnd (fun r' => r' = r ∧ i_Rel (k + 6) u v) v) u := by
  obtain ⟨W, t, rs, st, nd, np, no, nm, ask, made, kin, dur, pri, ovl, mis, per, mnt, hrs, day, mon, wkd, nxt, sta, los, msd, mss, wai, req, bsy, wjb, wen, kjb, kst, kdu, knd, nex, prd, sets, mnw, wdu, doi, ens, his, fld, rfl, rfl, h⟩ := I
  have h' := rl_mk W t rs st nd np no nm ask made kin dur pri ovl mis per mnt hrs day mon wkd nxt sta los msd mss wai req bsy wjb wen kjb kst kdu knd nex prd sets mnw wdu doi ens his fld _ (rl_up W t rs st nd np no nm ask made kin dur pri ovl mis per mnt hrs day mon wkd nxt sta los msd mss wai req bsy wjb wen kjb kst kdu knd nex prd sets mnw wdu doi ens his fld (m := k + 6) (by omega) h)
  obtain ⟨hW1, hW3, ht, hRs, hst, hnd, hnm, hJ, hK, hQ, hA, hH, hT⟩ := h
  obtain ⟨r, hx, hy⟩ := sm_nextEnd W t rs st nd np no nm ask made kin dur pri ovl mis per mnt hrs day mon wkd nxt sta los msd mss wai req bsy wjb wen kjb kst kdu knd nex prd sets mnw wdu doi ens his fld hW3 hK
  exact hx _ (hy _ ⟨rfl, h'⟩)
end
section
theorem sm_ex (W t rs : Nat) (st nd np no nm ask : Int32) (made kin dur pri ovl mis per mnt hrs day mon wkd nxt sta los msd mss wai req bsy wjb wen kjb kst kdu knd nex prd sets mnw wdu doi ens his fld : Nat → Int32) (b : Nat → Nat) (hJ : rl_J b st made kin mis dur per mnt hrs day mon wkd nxt mss knd nex prd sets mnw wai) (x : Int32) : ((∀ post : Int32 → Prop, post 0 → wpX_exists post ((nI W), (nI t), st, (nI rs), nd, np, no, nm, made, kin, dur, pri, ovl, mis, per, mnt, hrs, day, mon, wkd, nxt, sta, los, msd, mss, wai, req, bsy, wjb, wen, kjb, kst, kdu) x) ∧ (∀ post : Int32 → Prop, post 0 → wpY_isJob post ((nI W), (nI t), (nI rs), st, nd, np, no, nm, ask, knd, dur, pri, ovl, mis, nex, prd, sets, sta, los, msd, mnw, wai, wdu, doi, ens, his, fld) x)) ∨ ∃ j, j < 12 ∧ x = nI j ∧ ¬ made j = 0 ∧ ¬ knd j < 0 ∧ (∀ post : Int32 → Prop, post 1 → wpX_exists post ((nI W), (nI t), st, (nI rs), nd, np, no, nm, made, kin, dur, pri, ovl, mis, per, mnt, hrs, day, mon, wkd, nxt, sta, los, msd, mss, wai, req, bsy, wjb, wen, kjb, kst, kdu) x) ∧ (∀ post : Int32 → Prop, post 1 → wpY_isJob post ((nI W), (nI t), (nI rs), st, nd, np, no, nm, ask, knd, dur, pri, ovl, mis, nex, prd, sets, sta, los, msd, mnw, wai, wdu, doi, ens, his, fld) x) := by
  by_cases h : ∃ j, j < 12 ∧ x = nI j ∧ ¬ made j = 0
  · obtain ⟨j, hj, rfl, hm⟩ := h
    have hk := rl_m1 (hJ j hj) hm
    refine Or.inr ⟨j, hj, rfl, hm, hk, fun post hp => xr_exists _ _ _ _ _ _ _ _ _ _ _ _ _ _ _ _ _ _ _ _ _ _ _ _ _ _ _ _ _ _ _ _ _ _ post (fun _ _ _ _ => hp) (fun z => absurd (z j hj rfl) hm), fun post hp => yr_isJob _ _ _ _ _ _ _ _ _ _ _ _ _ _ _ _ _ _ _ _ _ _ _ _ _ _ _ _ post (fun _ _ _ _ => hp) (fun z => absurd (z j hj rfl) hk)⟩
  · have h' : ∀ j, j < 12 → x = nI j → made j = 0 := fun j hj e => Classical.byContradiction (fun z => h ⟨j, hj, e, z⟩)
    refine Or.inl ⟨fun post hp => xr_exists _ _ _ _ _ _ _ _ _ _ _ _ _ _ _ _ _ _ _ _ _ _ _ _ _ _ _ _ _ _ _ _ _ _ post (fun j hj e hm => absurd (h' j hj e) hm) (fun _ => hp), fun post hp => yr_isJob _ _ _ _ _ _ _ _ _ _ _ _ _ _ _ _ _ _ _ _ _ _ _ _ _ _ _ _ post (fun j hj e hm => ?_) (fun _ => hp)⟩
    refine absurd ?_ hm
    rw [(rl_m0 (hJ j hj) (h' j hj e)).1]
    decide
theorem sm_about (W t rs : Nat) (st nd np no nm ask : Int32) (made kin dur pri ovl mis per mnt hrs day mon wkd nxt sta los msd mss wai req bsy wjb wen kjb kst kdu knd nex prd sets mnw wdu doi ens his fld : Nat → Int32) (hW : W ≤ 3) (b : Nat → Nat) (hJ : rl_J b st made kin mis dur per mnt hrs day mon wkd nxt mss knd nex prd sets mnw wai) (hK : rl_W 3 t W bsy wjb wen doi ens) (v1 v2 : Int32) : ∃ r, (∀ post : Int32 → Prop, post r → wpX_about post ((nI W), (nI t), st, (nI rs), nd, np, no, nm, made, kin, dur, pri, ovl, mis, per, mnt, hrs, day, mon, wkd, nxt, sta, los, msd, mss, wai, req, bsy, wjb, wen, kjb, kst, kdu) v1 v2) ∧ (∀ post : Int32 → Prop, post r → wpY_about post ((nI W), (nI t), (nI rs), st, nd, np, no, nm, ask, knd, dur, pri, ovl, mis, nex, prd, sets, sta, los, msd, mnw, wai, wdu, doi, ens, his, fld) v1 v2) := by
  unfold wpX_about wpY_about
  dsimp only
  have n1 : ¬ (1 : Int32) = 0 := by decide
  rcases sm_ex W t rs st nd np no nm ask made kin dur pri ovl mis per mnt hrs day mon wkd nxt sta los msd mss wai req bsy wjb wen kjb kst kdu knd nex prd sets mnw wdu doi ens his fld b hJ v1 with ⟨hx, hy⟩ | ⟨j, hj, rfl, hm, hk, hx, hy⟩
  · exact ⟨-1, fun post hp => hx _ (br_t rfl hp), fun post hp => hy _ (br_t rfl hp)⟩
  · rcases pk_ix v2 (n := 6) (by omega) with h | h | ⟨q, hq, rfl⟩
    · exact ⟨-1, fun post hp => hx _ (br_f n1 (br_t h hp)), fun post hp => hy _ (br_f n1 (br_t h hp))⟩
    · have h0 : ¬ v2 < 0 := ar_ge0 h
      have h5 : 5 < v2 := Int32.lt_of_lt_of_le (by decide) h
      exact ⟨-1, fun post hp => hx _ (br_f n1 (br_f h0 (br_t h5 hp))), fun post hp => hy _ (br_f n1 (br_f h0 (br_t h5 hp)))⟩
    · have hq6 : q = 0 ∨ q = 1 ∨ q = 2 ∨ q = 3 ∨ q = 4 ∨ q = 5 := by omega
      rcases hq6 with rfl | rfl | rfl | rfl | rfl | rfl
      · exact ⟨sta j, fun post hp => hx _ (br_f (by decide) (br_f (by decide) (br_f (by decide) (br_t rfl ⟨ar_in, by rw [ar_k]; exact hp⟩)))), fun post hp => hy _ (br_f (by decide) (br_f (by decide) (br_f (by decide) (br_t rfl ⟨ar_in, by rw [ar_k]; exact hp⟩))))⟩
      · exact ⟨los j, fun post hp => hx _ (br_f (by decide) (br_f (by decide) (br_f (by decide) (br_f (by decide) (br_t rfl ⟨ar_in, by rw [ar_k]; exact hp⟩))))), fun post hp => hy _ (br_f (by decide) (br_f (by decide) (br_f (by decide) (br_f (by decide) (br_t rfl ⟨ar_in, by rw [ar_k]; exact hp⟩)))))⟩
      · exact ⟨msd j, fun post hp => hx _ (br_f (by decide) (br_f (by decide) (br_f (by decide) (br_f (by decide) (br_f (by decide) (br_t rfl ⟨ar_in, by rw [ar_k]; exact hp⟩)))))), fun post hp => hy _ (br_f (by decide) (br_f (by decide) (br_f (by decide) (br_f (by decide) (br_f (by decide) (br_t rfl ⟨ar_in, by rw [ar_k]; exact hp⟩))))))⟩
      · exact ⟨wai j, fun post hp => hx _ (br_f (by decide) (br_f (by decide) (br_f (by decide) (br_f (by decide) (br_f (by decide) (br_f (by decide) (br_t rfl ⟨ar_in, by rw [ar_k]; exact hp⟩))))))), fun post hp => hy _ (br_f (by decide) (br_f (by decide) (br_f (by decide) (br_f (by decide) (br_f (by decide) (br_f (by decide) (br_t rfl ⟨ar_in, by rw [ar_k]; exact hp⟩)))))))⟩
      · by_cases hp : hp_P bsy wjb (nI j)
        · have hq := (rl_PQ hW hK (nI j)).mp hp
          exact ⟨1, fun post g => hx _ (br_f (by decide) (br_f (by decide) (br_f (by decide) (br_f (by decide) (br_f (by decide) (br_f (by decide) (br_f (by decide) (br_t rfl (xr_hasRun _ _ _ _ _ _ _ _ _ _ _ _ _ _ _ _ _ _ _ _ _ _ _ _ _ _ _ _ _ _ _ _ _ _ _ (fun _ => br_f n1 g) (fun z => absurd hp z)))))))))), fun post g => hy _ (br_f (by decide) (br_f (by decide) (br_f (by decide) (br_f (by decide) (br_f (by decide) (br_f (by decide) (br_f (by decide) (br_t rfl (yr_isRunning _ _ _ _ _ _ _ _ _ _ _ _ _ _ _ _ _ _ _ _ _ _ _ _ _ _ _ hW _ _ (fun _ => br_f n1 g) (fun z => absurd hq z))))))))))⟩
        · have hq : ¬ hp_Q W ens doi (nI j) := fun z => hp ((rl_PQ hW hK (nI j)).mpr z)
          exact ⟨0, fun post g => hx _ (br_f (by decide) (br_f (by decide) (br_f (by decide) (br_f (by decide) (br_f (by decide) (br_f (by decide) (br_f (by decide) (br_t rfl (xr_hasRun _ _ _ _ _ _ _ _ _ _ _ _ _ _ _ _ _ _ _ _ _ _ _ _ _ _ _ _ _ _ _ _ _ _ _ (fun z => absurd z hp) (fun _ => br_t rfl g)))))))))), fun post g => hy _ (br_f (by decide) (br_f (by decide) (br_f (by decide) (br_f (by decide) (br_f (by decide) (br_f (by decide) (br_f (by decide) (br_t rfl (yr_isRunning _ _ _ _ _ _ _ _ _ _ _ _ _ _ _ _ _ _ _ _ _ _ _ _ _ _ _ hW _ _ (fun z => absurd z hq) (fun _ => br_t rfl g))))))))))⟩
      · have ek : kin j = knd j := by
          rcases hJ j hj with ⟨g, _⟩ | ⟨_, g, _⟩
          · exact absurd g hm
          · exact g
        exact ⟨kin j, fun post hp => hx _ (br_f (by decide) (br_f (by decide) (br_f (by decide) (br_f (by decide) (br_f (by decide) (br_f (by decide) (br_f (by decide) (br_f (by decide) (br_t rfl ⟨ar_in, by rw [ar_k]; exact hp⟩))))))))), fun post hp => hy _ (br_f (by decide) (br_f (by decide) (br_f (by decide) (br_f (by decide) (br_f (by decide) (br_f (by decide) (br_f (by decide) (br_f (by decide) (br_t rfl ⟨ar_in, by rw [ar_k, ← ek]; exact hp⟩)))))))))⟩
theorem i_vc_about {k : Nat} {u : SX} {v : SY} (I : i_Rel k u v) (hk : k + 6 ≤ 3073) (v1 : Int32) (v2 : Int32) : wpX_about (fun r => wpY_about (fun r' => r' = r ∧ i_Rel (k + 6) u v) v v1 v2) u v1 v2 := by
  obtain ⟨W, t, rs, st, nd, np, no, nm, ask, made, kin, dur, pri, ovl, mis, per, mnt, hrs, day, mon, wkd, nxt, sta, los, msd, mss, wai, req, bsy, wjb, wen, kjb, kst, kdu, knd, nex, prd, sets, mnw, wdu, doi, ens, his, fld, rfl, rfl, h⟩ := I
  have h' := rl_mk W t rs st nd np no nm ask made kin dur pri ovl mis per mnt hrs day mon wkd nxt sta los msd mss wai req bsy wjb wen kjb kst kdu knd nex prd sets mnw wdu doi ens his fld _ (rl_up W t rs st nd np no nm ask made kin dur pri ovl mis per mnt hrs day mon wkd nxt sta los msd mss wai req bsy wjb wen kjb kst kdu knd nex prd sets mnw wdu doi ens his fld (m := k + 6) (by omega) h)
  obtain ⟨hW1, hW3, ht, hRs, hst, hnd, hnm, hJ, hK, hQ, hA, hH, hT⟩ := h
  obtain ⟨r, hx, hy⟩ := sm_about W t rs st nd np no nm ask made kin dur pri ovl mis per mnt hrs day mon wkd nxt sta los msd mss wai req bsy wjb wen kjb kst kdu knd nex prd sets mnw wdu doi ens his fld hW3 _ hJ hK v1 v2
  exact hx _ (hy _ ⟨rfl, h'⟩)
theorem sm_due (W t rs : Nat) (st nd np no nm ask : Int32) (made kin dur pri ovl mis per mnt hrs day mon wkd nxt sta los msd mss wai req bsy wjb wen kjb kst kdu knd nex prd sets mnw wdu doi ens his fld : Nat → Int32) (ht : t ≤ 1000000) (hJ : rl_J (fun _ => t + 1) st made kin mis dur per mnt hrs day mon wkd nxt mss knd nex prd sets mnw wai) (v1 : Int32) : ∃ r, (∀ post : Int32 → Prop, post r → wpX_due post ((nI W), (nI t), st, (nI rs), nd, np, no, nm, made, kin, dur, pri, ovl, mis, per, mnt, hrs, day, mon, wkd, nxt, sta, los, msd, mss, wai, req, bsy, wjb, wen, kjb, kst, kdu) v1) ∧ (∀ post : Int32 → SY → Prop, (∀ fld', post r ((nI W), (nI t), (nI rs), st, nd, np, no, nm, ask, knd, dur, pri, ovl, mis, nex, prd, sets, sta, los, msd, mnw, wai, wdu, doi, ens, his, fld')) → wpY_due post ((nI W), (nI t), (nI rs), st, nd, np, no, nm, ask, knd, dur, pri, ovl, mis, nex, prd, sets, sta, los, msd, mnw, wai, wdu, doi, ens, his, fld) v1) := by
  unfold wpX_due wpY_due
  dsimp only
  have n1 : ¬ (1 : Int32) = 0 := by decide
  rcases sm_ex W t rs st nd np no nm ask made kin dur pri ovl mis per mnt hrs day mon wkd nxt sta los msd mss wai req bsy wjb wen kjb kst kdu knd nex prd sets mnw wdu doi ens his fld _ hJ v1 with ⟨hx, hy⟩ | ⟨j, hj, rfl, hm, hk, hx, hy⟩
  · exact ⟨-1, fun post hp => hx _ (br_t rfl hp), fun post hp => hy _ (br_t rfl (hp fld))⟩
  · have kc : (nI j).toNatClampNeg = j := ar_k
    have XA : ∀ d, nxt j = nI d → d ≤ 1000000 → (∀ post : Int32 → Prop, post (nI d) → wpX_exists (fun r_1 => (((r_1 = 0 → (post (-1))) ∧ (¬ r_1 = 0 → (vp_in (nI j) 12 ∧ ((((nxt (nI j).toNatClampNeg) ≤ 1000000 → (vp_in (nI j) 12 ∧ (post (nxt (nI j).toNatClampNeg)))) ∧ (¬ (nxt (nI j).toNatClampNeg) ≤ 1000000 → (post (-2)))))))))) ((nI W), (nI t), st, (nI rs), nd, np, no, nm, made, kin, dur, pri, ovl, mis, per, mnt, hrs, day, mon, wkd, nxt, sta, los, msd, mss, wai, req, bsy, wjb, wen, kjb, kst, kdu) (nI j)) := fun d e hd post hp => hx _ (br_f n1 ⟨ar_in, by rw [kc, e]; exact br_t (ar_le (b := 1000000) hd) ⟨ar_in, hp⟩⟩)
    have XB2 : ∀ d, nxt j = nI d → 1000000 < d → d ≤ 1100000 → (∀ post : Int32 → Prop, post (-2) → wpX_exists (fun r_1 => (((r_1 = 0 → (post (-1))) ∧ (¬ r_1 = 0 → (vp_in (nI j) 12 ∧ ((((nxt (nI j).toNatClampNeg) ≤ 1000000 → (vp_in (nI j) 12 ∧ (post (nxt (nI j).toNatClampNeg)))) ∧ (¬ (nxt (nI j).toNatClampNeg) ≤ 1000000 → (post (-2)))))))))) ((nI W), (nI t), st, (nI rs), nd, np, no, nm, made, kin, dur, pri, ovl, mis, per, mnt, hrs, day, mon, wkd, nxt, sta, los, msd, mss, wai, req, bsy, wjb, wen, kjb, kst, kdu) (nI j)) := fun d e hd hd2 post hp => hx _ (br_f n1 ⟨ar_in, by rw [kc, e]; exact br_f (ar_nle (b := 1000000) hd) hp⟩)
    have XC : nxt j = -2 → (∀ post : Int32 → Prop, post (-2) → wpX_exists (fun r_1 => (((r_1 = 0 → (post (-1))) ∧ (¬ r_1 = 0 → (vp_in (nI j) 12 ∧ ((((nxt (nI j).toNatClampNeg) ≤ 1000000 → (vp_in (nI j) 12 ∧ (post (nxt (nI j).toNatClampNeg)))) ∧ (¬ (nxt (nI j).toNatClampNeg) ≤ 1000000 → (post (-2)))))))))) ((nI W), (nI t), st, (nI rs), nd, np, no, nm, made, kin, dur, pri, ovl, mis, per, mnt, hrs, day, mon, wkd, nxt, sta, los, msd, mss, wai, req, bsy, wjb, wen, kjb, kst, kdu) (nI j)) := fun e post hp => hx _ (br_f n1 ⟨ar_in, by rw [kc, e]; exact br_t (by decide) ⟨ar_in, hp⟩⟩)
    rcases hJ j hj with ⟨g, _⟩ | ⟨_, _, _, _, _, _, _, g⟩
    · exact absurd g hm
    · have plain : ¬ knd j = 3 → rl_n (t + 1) (nxt j) (nex j) → ∃ r, (∀ post : Int32 → Prop, post r → wpX_exists (fun r_1 => (((r_1 = 0 → (post (-1))) ∧ (¬ r_1 = 0 → (vp_in (nI j) 12 ∧ ((((nxt (nI j).toNatClampNeg) ≤ 1000000 → (vp_in (nI j) 12 ∧ (post (nxt (nI j).toNatClampNeg)))) ∧ (¬ (nxt (nI j).toNatClampNeg) ≤ 1000000 → (post (-2)))))))))) ((nI W), (nI t), st, (nI rs), nd, np, no, nm, made, kin, dur, pri, ovl, mis, per, mnt, hrs, day, mon, wkd, nxt, sta, los, msd, mss, wai, req, bsy, wjb, wen, kjb, kst, kdu) (nI j)) ∧ (∀ post : Int32 → SY → Prop, (∀ fld', post r ((nI W), (nI t), (nI rs), st, nd, np, no, nm, ask, knd, dur, pri, ovl, mis, nex, prd, sets, sta, los, msd, mnw, wai, wdu, doi, ens, his, fld')) → wpY_due post ((nI W), (nI t), (nI rs), st, nd, np, no, nm, ask, knd, dur, pri, ovl, mis, nex, prd, sets, sta, los, msd, mnw, wai, wdu, doi, ens, his, fld) (nI j)) := by
        intro k3 hn
        have YA : ∀ post : Int32 → SY → Prop, (vp_in (nI j) 12 ∧ ((((nex (nI j).toNatClampNeg) ≤ (nI t) → (post (-2) ((nI W), (nI t), (nI rs), st, nd, np, no, nm, ask, knd, dur, pri, ovl, mis, nex, prd, sets, sta, los, msd, mnw, wai, wdu, doi, ens, his, fld))) ∧ (¬ (nex (nI j).toNatClampNeg) ≤ (nI t) → (vp_in (nI j) 12 ∧ (((1000000 < (nex (nI j).toNatClampNeg) → (post (-2) ((nI W), (nI t), (nI rs), st, nd, np, no, nm, ask, knd, dur, pri, ovl, mis, nex, prd, sets, sta, los, msd, mnw, wai, wdu, doi, ens, his, fld))) ∧ (¬ 1000000 < (nex (nI j).toNatClampNeg) → (vp_in (nI j) 12 ∧ (post (nex (nI j).toNatClampNeg) ((nI W), (nI t), (nI rs), st, nd, np, no, nm, ask, knd, dur, pri, ovl, mis, nex, prd, sets, sta, los, msd, mnw, wai, wdu, doi, ens, his, fld))))))))))) → wpY_due post ((nI W), (nI t), (nI rs), st, nd, np, no, nm, ask, knd, dur, pri, ovl, mis, nex, prd, sets, sta, los, msd, mnw, wai, wdu, doi, ens, his, fld) (nI j) := by
          intro post hh
          unfold wpY_due
          dsimp only
          exact hy _ (br_f n1 ⟨ar_in, br_f (ar_n k3) hh⟩)
        rcases hn with ⟨e1, e2⟩ | ⟨d, e1, e2, h1, h2⟩
        · refine ⟨-2, XC e1, fun post hp => YA post ⟨ar_in, br_t ?_ (hp fld)⟩⟩
          rw [kc, e2]
          exact Int32.le_trans (by decide) (nI_pos' (by omega))
        · by_cases hd : d ≤ 1000000
          · refine ⟨nI d, XA d e1 hd, fun post hp => YA post ⟨ar_in, ?_⟩⟩
            rw [kc, e2]
            exact br_f (ar_nle (by omega)) ⟨ar_in, br_f (ar_nlt (b := d) (a := 1000000) hd) ⟨ar_in, hp fld⟩⟩
          · refine ⟨-2, XB2 d e1 (by omega) h2, fun post hp => YA post ⟨ar_in, ?_⟩⟩
            rw [kc, e2]
            exact br_f (ar_nle (by omega)) ⟨ar_in, br_t (ar_lt (a := 1000000) (by omega)) (hp fld)⟩
      unfold wpY_due at plain
      dsimp only at plain
      rcases g with ⟨g, gn⟩ | ⟨g, gn, _⟩ | ⟨g, ⟨q0, q1, q2, q3, q4⟩, gc⟩
      · exact plain (by rw [g]; decide) gn
      · exact plain (by rcases g with g | g <;> rw [g] <;> decide) gn
      · have YC : ∀ post : Int32 → SY → Prop, (∃ n63 : Nat, wY_due_63 post (nI j) n63 (nI (t + 1)) (nI W) (nI t) (nI rs) st nd np no nm ask knd dur pri ovl mis nex prd sets sta los msd mnw wai wdu doi ens his fld) → wpY_due post ((nI W), (nI t), (nI rs), st, nd, np, no, nm, ask, knd, dur, pri, ovl, mis, nex, prd, sets, sta, los, msd, mnw, wai, wdu, doi, ens, his, fld) (nI j) := by
          intro post hh
          unfold wpY_due
          dsimp only
          exact hy _ (br_f n1 ⟨ar_in, br_t (ar_c g) (nm_r (nI_1 t) hh)⟩)
        unfold wpY_due at YC
        dsimp only at YC
        rw [q0, q1, q2, q3, q4] at gc
        rcases gc with ⟨e1, hn⟩ | ⟨d, e1, h1, h2, hf, hn⟩
        · exact ⟨-2, XC e1, fun post hp => YC post (yc_due63 _ _ _ _ _ _ _ _ _ _ _ _ _ _ _ _ _ _ _ _ _ _ _ _ _ _ _ j (t + 1) hj (by omega) post (fun s fld' g1 g2 g3 _ => absurd g3 (hn s g1)) (fun fld' _ => hp fld'))⟩
        · by_cases hd : d ≤ 1000000
          · refine ⟨nI d, XA d e1 hd, fun post hp => YC post (yc_due63 _ _ _ _ _ _ _ _ _ _ _ _ _ _ _ _ _ _ _ _ _ _ _ _ _ _ _ j (t + 1) hj (by omega) post (fun s fld' g1 g2 g3 g4 => ?_) (fun fld' z => absurd hf (z d h1 hd)))⟩
            have : s = d := by
              rcases Nat.lt_trichotomy s d with c | c | c
              · exact absurd g3 (hn s g1 c)
              · exact c
              · exact absurd hf (g4 d h1 c)
            rw [this]
            exact hp fld'
          · exact ⟨-2, XB2 d e1 (by omega) h2, fun post hp => YC post (yc_due63 _ _ _ _ _ _ _ _ _ _ _ _ _ _ _ _ _ _ _ _ _ _ _ _ _ _ _ j (t + 1) hj (by omega) post (fun s fld' g1 g2 g3 _ => absurd g3 (hn s g1 (by omega))) (fun fld' _ => hp fld'))⟩
theorem i_vc_due {k : Nat} {u : SX} {v : SY} (I : i_Rel k u v) (hk : k + 6 ≤ 3073) (v1 : Int32) : wpX_due (fun r => wpY_due (fun r' v' => r' = r ∧ i_Rel (k + 6) u v') v v1) u v1 := by
  obtain ⟨W, t, rs, st, nd, np, no, nm, ask, made, kin, dur, pri, ovl, mis, per, mnt, hrs, day, mon, wkd, nxt, sta, los, msd, mss, wai, req, bsy, wjb, wen, kjb, kst, kdu, knd, nex, prd, sets, mnw, wdu, doi, ens, his, fld, rfl, rfl, h⟩ := I
  have h0 := rl_up W t rs st nd np no nm ask made kin dur pri ovl mis per mnt hrs day mon wkd nxt sta los msd mss wai req bsy wjb wen kjb kst kdu knd nex prd sets mnw wdu doi ens his fld (m := k + 6) (by omega) h
  obtain ⟨hW1, hW3, ht, hRs, hst, hnd, hnm, hJ, hK, hQ, hA, hH, hT⟩ := h
  obtain ⟨r, hx, hy⟩ := sm_due W t rs st nd np no nm ask made kin dur pri ovl mis per mnt hrs day mon wkd nxt sta los msd mss wai req bsy wjb wen kjb kst kdu knd nex prd sets mnw wdu doi ens his fld ht hJ v1
  refine hx _ (hy _ (fun fld' => ⟨rfl, ?_⟩))
  have h1 : rl_R (k + 6) W t rs st nd np no nm ask made kin dur pri ovl mis per mnt hrs day mon wkd nxt sta los msd mss wai req bsy wjb wen kjb kst kdu knd nex prd sets mnw wdu doi ens his fld' := h0
  exact rl_mk _ _ _ _ _ _ _ _ _ _ _ _ _ _ _ _ _ _ _ _ _ _ _ _ _ _ _ _ _ _ _ _ _ _ _ _ _ _ _ _ _ _ _ _ _ h1
end
section
theorem yi_stop (W t rs : Nat) (st nd np no nm ask : Int32) (knd dur pri ovl mis nex prd sets sta los msd mnw wai wdu doi ens his fld : Nat → Int32) (post : Int32 → SY → Prop) (h : ∀ mnw', (∀ j, j < 12 → mnw' j = 0) → post 1 ((nI W), (nI t), (nI rs), st, nd, np, no, nm, ask, knd, dur, pri, ovl, mis, nex, prd, sets, sta, los, msd, mnw', wai, wdu, doi, ens, his, fld)) : ∃ n, wY_stop_16 post (nI W) (nI t) (nI rs) st nd np no nm ask n 0 knd dur pri ovl mis nex prd sets sta los msd mnw wai wdu doi ens his fld := by
  have key : ∀ d i mnw, i + d = 12 → (∀ j, j < i → mnw j = 0) → wY_stop_16 post (nI W) (nI t) (nI rs) st nd np no nm ask (d + 1) (nI i) knd dur pri ovl mis nex prd sets sta los msd mnw wai wdu doi ens his fld := by
    intro d
    induction d with
    | zero => intro i mnw hi hn; exact pk_le 12 i (fun _ => h mnw (fun j hj => hn j (by omega))) (fun z => absurd z (by omega))
    | succ d ih =>
      intro i mnw hi hn
      refine pk_le 12 i (fun z => absurd z (by omega)) (fun _ => ⟨ar_in, nm_r ar_u (nm_r (nI_1 i) (ih (i + 1) _ (by omega) ?_))⟩)
      refine lt_s (fun j hj => ?_) pk_us
      rw [pk_un (by omega)]
      exact hn j hj
  exact ⟨_, key 12 0 mnw (by omega) lt_0⟩
theorem yi_init (W t rs : Nat) (st nd np no nm ask : Int32) (knd dur pri ovl mis nex prd sets sta los msd mnw wai wdu doi ens his fld : Nat → Int32) (post : SY → Prop) (h : ∀ knd', (∀ j, j < 12 → knd' j = -1) → post ((nI W), (nI t), (nI rs), st, nd, np, no, nm, ask, knd', dur, pri, ovl, mis, nex, prd, sets, sta, los, msd, mnw, wai, wdu, doi, ens, his, fld)) : ∃ n, wY_init_175 post (nI W) (nI t) (nI rs) st nd np no nm ask n 0 knd dur pri ovl mis nex prd sets sta los msd mnw wai wdu doi ens his fld := by
  have key : ∀ d i knd, i + d = 12 → (∀ j, j < i → knd j = -1) → wY_init_175 post (nI W) (nI t) (nI rs) st nd np no nm ask (d + 1) (nI i) knd dur pri ovl mis nex prd sets sta los msd mnw wai wdu doi ens his fld := by
    intro d
    induction d with
    | zero => intro i knd hi hn; exact pk_le 12 i (fun _ => h knd (fun j hj => hn j (by omega))) (fun z => absurd z (by omega))
    | succ d ih =>
      intro i knd hi hn
      refine pk_le 12 i (fun z => absurd z (by omega)) (fun _ => ⟨ar_in, nm_r ar_u (nm_r (nI_1 i) (ih (i + 1) _ (by omega) ?_))⟩)
      refine lt_s (fun j hj => ?_) pk_us
      rw [pk_un (by omega)]
      exact hn j hj
  exact ⟨_, key 12 0 knd (by omega) lt_0⟩
theorem i_vc_stop {k : Nat} {u : SX} {v : SY} (I : i_Rel k u v) (hk : k + 6 ≤ 3073) : wpX_stop (fun r u' => wpY_stop (fun r' v' => r' = r ∧ i_Rel (k + 6) u' v') v) u := by
  obtain ⟨W, t, rs, st, nd, np, no, nm, ask, made, kin, dur, pri, ovl, mis, per, mnt, hrs, day, mon, wkd, nxt, sta, los, msd, mss, wai, req, bsy, wjb, wen, kjb, kst, kdu, knd, nex, prd, sets, mnw, wdu, doi, ens, his, fld, rfl, rfl, h⟩ := I
  have h0 := rl_up W t rs st nd np no nm ask made kin dur pri ovl mis per mnt hrs day mon wkd nxt sta los msd mss wai req bsy wjb wen kjb kst kdu knd nex prd sets mnw wdu doi ens his fld (m := k + 6) (by omega) h
  have h' := rl_mk W t rs st nd np no nm ask made kin dur pri ovl mis per mnt hrs day mon wkd nxt sta los msd mss wai req bsy wjb wen kjb kst kdu knd nex prd sets mnw wdu doi ens his fld _ h0
  obtain ⟨hW1, hW3, ht, hRs, hst, hnd, hnm, hJ, hK, hQ, hA, hH, hT⟩ := h0
  rcases hst with rfl | rfl
  · refine br_t rfl (br_t rfl (yi_stop W t rs 1 nd np no nm ask knd dur pri ovl mis nex prd sets sta los msd mnw wai wdu doi ens his fld _ (fun mnw' hm => ⟨rfl, ?_⟩)))
    refine rl_mk W t rs 1 nd np no nm ask made kin dur pri ovl mis per mnt hrs day mon wkd nxt sta los msd mss wai req bsy wjb wen kjb kst kdu knd nex prd sets mnw' wdu doi ens his fld _ ?_
    refine ⟨hW1, hW3, ht, hRs, Or.inr rfl, hnd, hnm, ?_, hK, hQ, hA, hH, hT⟩
    intro j hj
    rcases hJ j hj with g | ⟨g1, g2, g3, g4, g5, g6, g7, g8⟩
    · exact Or.inl g
    · exact Or.inr ⟨g1, g2, by rw [g3, hm j hj]; exact g5 rfl, ⟨0, hm j hj, by omega⟩, fun z => hm j hj, g6, g7, g8⟩
  · exact br_f (by decide) (br_f (by decide) ⟨rfl, h'⟩)
theorem i_vc0 (k0 : Int32) : wpX_init (fun u => wpY_init (fun v => i_Rel 1 u v) k0) k0 := by
  have key : ∀ w, 1 ≤ w → w ≤ 3 → ∀ knd' : Nat → Int32, (∀ j, j < 12 → knd' j = -1) → i_Rel 1 (nI w, 0, 0, 0, 1, 0, 0, 0, (fun _ => 0), (fun _ => 0), (fun _ => 0), (fun _ => 0), (fun _ => 0), (fun _ => 0), (fun _ => 0), (fun _ => 0), (fun _ => 0), (fun _ => 0), (fun _ => 0), (fun _ => 0), (fun _ => 0), (fun _ => 0), (fun _ => 0), (fun _ => 0), (fun _ => 0), (fun _ => 0), (fun _ => 0), (fun _ => 0), (fun _ => 0), (fun _ => 0), (fun _ => 0), (fun _ => 0), (fun _ => 0)) (nI w, 0, 0, 0, 1, 0, 0, 0, 0, knd', (fun _ => 0), (fun _ => 0), (fun _ => 0), (fun _ => 0), (fun _ => 0), (fun _ => 0), (fun _ => 0), (fun _ => 0), (fun _ => 0), (fun _ => 0), (fun _ => 0), (fun _ => 0), (fun _ => 0), (fun _ => 0), (fun _ => 0), (fun _ => 0), (fun _ => 0)) := by
    intro w h1 h3 knd' hk
    refine rl_mk w 0 0 0 1 0 0 0 0 (fun _ => 0) (fun _ => 0) (fun _ => 0) (fun _ => 0) (fun _ => 0) (fun _ => 0) (fun _ => 0) (fun _ => 0) (fun _ => 0) (fun _ => 0) (fun _ => 0) (fun _ => 0) (fun _ => 0) (fun _ => 0) (fun _ => 0) (fun _ => 0) (fun _ => 0) (fun _ => 0) (fun _ => 0) (fun _ => 0) (fun _ => 0) (fun _ => 0) (fun _ => 0) (fun _ => 0) (fun _ => 0) knd' (fun _ => 0) (fun _ => 0) (fun _ => 0) (fun _ => 0) (fun _ => 0) (fun _ => 0) (fun _ => 0) (fun _ => 0) (fun _ => 0) 1 ?_
    refine ⟨h1, h3, by omega, by omega, Or.inl rfl, ⟨1, rfl, by omega, by omega⟩, Or.inl rfl, ?_, ?_, ?_, ?_, ?_, ?_⟩
    · intro j hj
      exact Or.inl ⟨rfl, hk j hj, rfl⟩
    · intro j hj
      exact Or.inl ⟨rfl, rfl⟩
    · intro j hj
      exact ⟨0, rfl, by omega, fun i hi => absurd hi (by omega)⟩
    · decide
    · intro j hj hj2
      exact absurd hj2 (by omega)
    · intro j hj
      exact ⟨0, rfl, by omega⟩
  have fin : ∀ w, 1 ≤ w → w ≤ 3 → ∃ n, wY_init_175 (fun v => i_Rel 1 (nI w, 0, 0, 0, 1, 0, 0, 0, (fun _ => 0), (fun _ => 0), (fun _ => 0), (fun _ => 0), (fun _ => 0), (fun _ => 0), (fun _ => 0), (fun _ => 0), (fun _ => 0), (fun _ => 0), (fun _ => 0), (fun _ => 0), (fun _ => 0), (fun _ => 0), (fun _ => 0), (fun _ => 0), (fun _ => 0), (fun _ => 0), (fun _ => 0), (fun _ => 0), (fun _ => 0), (fun _ => 0), (fun _ => 0), (fun _ => 0), (fun _ => 0)) v) (nI w) 0 0 0 1 0 0 0 0 n 0 (fun _ => 0) (fun _ => 0) (fun _ => 0) (fun _ => 0) (fun _ => 0) (fun _ => 0) (fun _ => 0) (fun _ => 0) (fun _ => 0) (fun _ => 0) (fun _ => 0) (fun _ => 0) (fun _ => 0) (fun _ => 0) (fun _ => 0) (fun _ => 0) (fun _ => 0) (fun _ => 0) := by
    intro w h1 h3
    exact yi_init w 0 0 0 1 0 0 0 0 (fun _ => 0) (fun _ => 0) (fun _ => 0) (fun _ => 0) (fun _ => 0) (fun _ => 0) (fun _ => 0) (fun _ => 0) (fun _ => 0) (fun _ => 0) (fun _ => 0) (fun _ => 0) (fun _ => 0) (fun _ => 0) (fun _ => 0) (fun _ => 0) (fun _ => 0) (fun _ => 0) _ (fun knd' hk => key w h1 h3 knd' hk)
  by_cases h1 : (1 : Int32) ≤ k0
  · by_cases h3 : k0 ≤ 3
    · obtain ⟨w, hw, rfl⟩ := nI_of2 (x := k0) (M := 3) (n := 3) (by decide) (fun z => absurd (Int32.lt_of_le_of_lt h1 z) (by decide)) h3
      have hw1 : 1 ≤ w := (nI_leI (a := 1) (by omega) (by omega)).mp h1
      exact br_t h1 (br_t h3 (br_t h1 (br_t h3 (fin w hw1 hw))))
    · exact br_t h1 (br_f h3 (br_t h1 (br_f h3 (fin 3 (by omega) (by omega)))))
  · exact br_f h1 (br_f h1 (fin 1 (by omega) (by omega)))
theorem i_vc_manner {k : Nat} {u : SX} {v : SY} (I : i_Rel k u v) (hk : k + 6 ≤ 3073) (v1 : Int32) (v2 : Int32) (v3 : Int32) (v4 : Int32) : wpX_manner (fun r u' => wpY_manner (fun r' v' => r' = r ∧ i_Rel (k + 6) u' v') v v1 v2 v3 v4) u v1 v2 v3 v4 := by
  obtain ⟨W, t, rs, st, nd, np, no, nm, ask, made, kin, dur, pri, ovl, mis, per, mnt, hrs, day, mon, wkd, nxt, sta, los, msd, mss, wai, req, bsy, wjb, wen, kjb, kst, kdu, knd, nex, prd, sets, mnw, wdu, doi, ens, his, fld, rfl, rfl, h⟩ := I
  have h0 := rl_up W t rs st nd np no nm ask made kin dur pri ovl mis per mnt hrs day mon wkd nxt sta los msd mss wai req bsy wjb wen kjb kst kdu knd nex prd sets mnw wdu doi ens his fld (m := k + 6) (by omega) h
  have h' := rl_mk W t rs st nd np no nm ask made kin dur pri ovl mis per mnt hrs day mon wkd nxt sta los msd mss wai req bsy wjb wen kjb kst kdu knd nex prd sets mnw wdu doi ens his fld _ h0
  obtain ⟨hW1, hW3, ht, hRs, hst, hnd, hnm, hJ, hK, hQ, hA, hH, hT⟩ := h0
  have n1 : ¬ (1 : Int32) = 0 := by decide
  unfold wpX_manner wpY_manner
  dsimp only
  by_cases a1 : v1 < 1
  · exact br_t a1 (yr_within _ _ _ _ (fun z _ => absurd a1 z) (fun _ => br_t rfl ⟨rfl, h'⟩))
  refine br_f a1 ?_
  by_cases a2 : 200 < v1
  · exact br_t a2 (yr_within _ _ _ _ (fun _ z => absurd a2 z) (fun _ => br_t rfl ⟨rfl, h'⟩))
  refine br_f a2 ?_
  by_cases b1 : v2 < 0
  · exact br_t b1 (yr_within _ _ _ _ (fun _ _ => br_f n1 (yr_within _ _ _ _ (fun z _ => absurd b1 z) (fun _ => br_t rfl ⟨rfl, h'⟩))) (fun z => absurd z (by simp only [not_or]; exact ⟨a1, a2⟩)))
  refine br_f b1 ?_
  by_cases b2 : v2 ≤ 9
  case neg => exact br_f b2 (yr_within _ _ _ _ (fun _ _ => br_f n1 (yr_within _ _ _ _ (fun _ z => absurd (Int32.not_le.mp b2) z) (fun _ => br_t rfl ⟨rfl, h'⟩))) (fun z => absurd z (by simp only [not_or]; exact ⟨a1, a2⟩)))
  refine br_t b2 ?_
  have b2' : ¬ 9 < v2 := Int32.not_lt.mpr b2
  by_cases c1 : v3 < 0
  · exact br_t c1 (yr_within _ _ _ _ (fun _ _ => br_f n1 (yr_within _ _ _ _ (fun _ _ => br_f n1 (yr_within _ _ _ _ (fun z _ => absurd c1 z) (fun _ => br_t rfl ⟨rfl, h'⟩))) (fun z => absurd z (by simp only [not_or]; exact ⟨b1, b2'⟩)))) (fun z => absurd z (by simp only [not_or]; exact ⟨a1, a2⟩)))
  refine br_f c1 ?_
  by_cases c2 : 1 < v3
  · exact br_t c2 (yr_within _ _ _ _ (fun _ _ => br_f n1 (yr_within _ _ _ _ (fun _ _ => br_f n1 (yr_within _ _ _ _ (fun _ z => absurd c2 z) (fun _ => br_t rfl ⟨rfl, h'⟩))) (fun z => absurd z (by simp only [not_or]; exact ⟨b1, b2'⟩)))) (fun z => absurd z (by simp only [not_or]; exact ⟨a1, a2⟩)))
  refine br_f c2 ?_
  by_cases d1 : v4 < 0
  · exact br_t d1 (yr_within _ _ _ _ (fun _ _ => br_f n1 (yr_within _ _ _ _ (fun _ _ => br_f n1 (yr_within _ _ _ _ (fun _ _ => br_f n1 (yr_within _ _ _ _ (fun z _ => absurd d1 z) (fun _ => br_t rfl ⟨rfl, h'⟩))) (fun z => absurd z (by simp only [not_or]; exact ⟨c1, c2⟩)))) (fun z => absurd z (by simp only [not_or]; exact ⟨b1, b2'⟩)))) (fun z => absurd z (by simp only [not_or]; exact ⟨a1, a2⟩)))
  refine br_f d1 ?_
  by_cases d2 : v4 ≤ 2
  case neg => exact br_f d2 (yr_within _ _ _ _ (fun _ _ => br_f n1 (yr_within _ _ _ _ (fun _ _ => br_f n1 (yr_within _ _ _ _ (fun _ _ => br_f n1 (yr_within _ _ _ _ (fun _ z => absurd (Int32.not_le.mp d2) z) (fun _ => br_t rfl ⟨rfl, h'⟩))) (fun z => absurd z (by simp only [not_or]; exact ⟨c1, c2⟩)))) (fun z => absurd z (by simp only [not_or]; exact ⟨b1, b2'⟩)))) (fun z => absurd z (by simp only [not_or]; exact ⟨a1, a2⟩)))
  refine br_t d2 ?_
  have d2' : ¬ 2 < v4 := Int32.not_lt.mpr d2
  refine yr_within _ _ _ _ (fun _ _ => br_f n1 (yr_within _ _ _ _ (fun _ _ => br_f n1 (yr_within _ _ _ _ (fun _ _ => br_f n1 (yr_within _ _ _ _ (fun _ _ => br_f n1 ⟨rfl, ?_⟩) (fun z => absurd z (by simp only [not_or]; exact ⟨d1, d2'⟩)))) (fun z => absurd z (by simp only [not_or]; exact ⟨c1, c2⟩)))) (fun z => absurd z (by simp only [not_or]; exact ⟨b1, b2'⟩)))) (fun z => absurd z (by simp only [not_or]; exact ⟨a1, a2⟩))
  have e1 : ∃ d, v1 = nI d ∧ 1 ≤ d ∧ d ≤ 200 := by
    obtain ⟨d, hd, rfl⟩ := nI_of2 (x := v1) (M := 200) (n := 200) (by decide) (fun z => a1 (Int32.lt_trans z (by decide))) (Int32.not_lt.mp a2)
    refine ⟨d, rfl, ?_, hd⟩
    rcases Nat.eq_zero_or_pos d with z | z
    · exact absurd (by rw [z]; decide) a1
    · exact z
  have e4 : v4 = 0 ∨ v4 = 1 ∨ v4 = 2 := by
    obtain ⟨d, hd, rfl⟩ := nI_of2 (x := v4) (M := 2) (n := 2) (by decide) d1 d2
    have : d = 0 ∨ d = 1 ∨ d = 2 := by omega
    rcases this with rfl | rfl | rfl
    · exact Or.inl rfl
    · exact Or.inr (Or.inl rfl)
    · exact Or.inr (Or.inr rfl)
  exact rl_mk _ _ _ _ _ _ _ _ _ _ _ _ _ _ _ _ _ _ _ _ _ _ _ _ _ _ _ _ _ _ _ _ _ _ _ _ _ _ _ _ _ _ _ _ _ ⟨hW1, hW3, ht, hRs, hst, e1, e4, hJ, hK, hQ, hA, hH, hT⟩
end
section
theorem ar_ue {a : Nat → Int32} {i : Nat} {y x : Int32} (he : y = nI i) (hi : i < 1000 := by omega) : upd a y.toNatClampNeg x = upd a i x := by rw [he]; exact ar_u
theorem jb_rel (W t rs : Nat) (st nd np no nm ask : Int32) (made kin dur pri ovl mis per mnt hrs day mon wkd nxt sta los msd mss wai req bsy wjb wen kjb kst kdu knd nex prd sets mnw wdu doi ens his fld : Nat → Int32) (k : Nat) (h : rl_R k W t rs st nd np no nm ask made kin dur pri ovl mis per mnt hrs day mon wkd nxt sta los msd mss wai req bsy wjb wen kjb kst kdu knd nex prd sets mnw wdu doi ens his fld) (m : Nat) (hm : m < 12) (hf : made m = 0) (v1 v2 v3 : Int32) (hv : v1 = 0 ∨ v1 = 1 ∨ v1 = 2) (hp : v1 = 0 ∨ ∃ p, v3 = nI p ∧ 1 ≤ p ∧ p ≤ 2000) (d : Nat) (hd : v2 = nI d) (hd1 : t + 1 ≤ d) (hd2 : d ≤ 1000000) : i_Rel k ((nI W), (nI t), st, (nI rs), nd, np, no, nm, (upd made m 1), (upd kin m v1), (upd dur m nd), (upd pri m np), (upd ovl m no), (upd mis m nm), (upd per m v3), mnt, hrs, day, mon, wkd, (upd nxt m v2), (upd sta m 0), (upd los m 0), (upd msd m 0), (upd mss m 0), (upd wai m 0), req, bsy, wjb, wen, kjb, kst, kdu) ((nI W), (nI t), (nI rs), st, nd, np, no, nm, ask, (upd knd m v1), (upd dur m nd), (upd pri m np), (upd ovl m no), (upd mis m nm), (upd nex m v2), (upd prd m v3), sets, (upd sta m 0), (upd los m 0), (upd msd m 0), (upd mnw m 0), (upd wai m 0), wdu, doi, ens, his, fld) := by
  obtain ⟨hW1, hW3, ht, hRs, hst, hnd, hnm, hJ, hK, hQ, hA, hH, hT⟩ := h
  have ew : upd wai m 0 = wai := up_id (rl_m0 (hJ m hm) hf).2
  rw [ew]
  refine rl_mk _ _ _ _ _ _ _ _ _ _ _ _ _ _ _ _ _ _ _ _ _ _ _ _ _ _ _ _ _ _ _ _ _ _ _ _ _ _ _ _ _ _ _ _ _ ⟨hW1, hW3, ht, hRs, hst, hnd, hnm, ?_, hK, hQ, hA, hH, ?_⟩
  · intro j hj
    by_cases e : j = m
    · subst e
      simp only [pk_us]
      have hn : rl_n (t + 1) v2 v2 := Or.inr ⟨d, hd, hd, hd1, by omega⟩
      refine Or.inr ⟨rfl, rfl, rfl, ⟨0, rfl, by omega⟩, fun _ => rfl, hnm, hnd, ?_⟩
      rcases hv with hv | hv
      · exact Or.inl ⟨hv, hn⟩
      · refine Or.inr (Or.inl ⟨hv, hn, ?_⟩)
        rcases hp with hp | ⟨p, e1, e2, e3⟩
        · rw [hp] at hv; exact absurd hv (by decide)
        · exact ⟨p, e1, e1, e2, e3⟩
    · simp only [pk_un e]
      exact hJ j hj
  · intro j hj
    by_cases e : j = m
    · rw [e, pk_us]; exact ⟨0, rfl, by omega⟩
    · rw [pk_un e]; exact hT j hj
theorem jb_34 (W t rs : Nat) (st nd np no nm ask : Int32) (made kin dur pri ovl mis per mnt hrs day mon wkd nxt sta los msd mss wai req bsy wjb wen kjb kst kdu knd nex prd sets mnw wdu doi ens his fld : Nat → Int32) (k : Nat) (h : rl_R k W t rs st nd np no nm ask made kin dur pri ovl mis per mnt hrs day mon wkd nxt sta los msd mss wai req bsy wjb wen kjb kst kdu knd nex prd sets mnw wdu doi ens his fld) (v1 v2 v3 : Int32) (hv : v1 = 0 ∨ v1 = 1 ∨ v1 = 2) (hp : v1 = 0 ∨ ∃ p, v3 = nI p ∧ 1 ≤ p ∧ p ≤ 2000) : ∃ r u' v', i_Rel k u' v' ∧ (∀ post : Int32 → SX → Prop, post r u' → wX_job_34 post v1 v2 v3 (nI W) (nI t) st (nI rs) nd np no nm made kin dur pri ovl mis per mnt hrs day mon wkd nxt sta los msd mss wai req bsy wjb wen kjb kst kdu) ∧ (∀ post : Int32 → SY → Prop, post r v' → wY_job_24 post v1 v2 v3 (nI W) (nI t) (nI rs) st nd np no nm ask knd dur pri ovl mis nex prd sets sta los msd mnw wai wdu doi ens his fld) := by
  have h' := rl_mk W t rs st nd np no nm ask made kin dur pri ovl mis per mnt hrs day mon wkd nxt sta los msd mss wai req bsy wjb wen kjb kst kdu knd nex prd sets mnw wdu doi ens his fld _ h
  have ht : t ≤ 1000000 := h.2.2.1
  have hJ := h.2.2.2.2.2.2.2.1
  by_cases a : v2 ≤ nI t
  · exact ⟨-1, _, _, h', fun post hp => br_t a hp, fun post hp => br_t a hp⟩
  by_cases b : v2 ≤ 1000000
  case neg => exact ⟨-1, _, _, h', fun post hp => br_f a (br_f b hp), fun post hp => br_f a (br_t (Int32.not_le.mp b) hp)⟩
  have b' : ¬ 1000000 < v2 := Int32.not_lt.mpr b
  obtain ⟨d, hd, e⟩ := nI_of2 (x := v2) (M := 1000000) (n := 1000000) (by decide) (fun z => a (Int32.le_trans (Int32.le_of_lt z) (nI_pos' (by omega)))) b
  have hd1 : t + 1 ≤ d := by
    rcases Nat.lt_or_ge t d with z | z
    · exact z
    · exact absurd (by rw [e]; exact ar_le z) a
  obtain ⟨m, hm, hb, he⟩ := fr_ex (fun j => made j = 0)
  have hb' : ∀ j, j < m → ¬ knd j < 0 := fun j hj => rl_m1 (hJ j (by omega)) (hb j hj)
  rcases Nat.lt_or_ge m 12 with g | g
  · have hk : knd m < 0 := by rw [(rl_m0 (hJ m g) (he g)).1]; decide
    exact ⟨nI m, _, _, jb_rel W t rs st nd np no nm ask made kin dur pri ovl mis per mnt hrs day mon wkd nxt sta los msd mss wai req bsy wjb wen kjb kst kdu knd nex prd sets mnw wdu doi ens his fld k h m g (he g) v1 v2 v3 hv hp d e hd1 hd, fun post hp => br_f a (br_t b (xm_make _ _ _ _ _ _ _ _ _ _ _ _ _ _ _ _ _ _ _ _ _ _ _ _ _ _ _ _ _ _ _ _ _ m hm hb he v1 _ (fun z => absurd z (by omega)) (fun _ => br_f ar_ne1 ⟨ar_in, nm_r ar_u ⟨ar_in, nm_r ar_u hp⟩⟩))), fun post hp => br_f a (br_f b' (ym_free _ _ _ _ _ _ _ _ _ _ _ _ _ _ _ _ _ _ _ _ _ _ _ _ _ _ _ m hm hb' (fun _ => hk) _ (fun z => absurd z (by omega)) (fun _ => br_t (nI_pos' (by omega)) (ym_make _ _ _ _ _ _ _ _ _ _ _ _ _ _ _ _ _ _ _ _ _ _ _ _ _ _ _ m g hb' hk v1 v2 v3 _ hp))))⟩
  · exact ⟨-1, _, _, h', fun post hp => br_f a (br_t b (xm_make _ _ _ _ _ _ _ _ _ _ _ _ _ _ _ _ _ _ _ _ _ _ _ _ _ _ _ _ _ _ _ _ _ m hm hb he v1 _ (fun _ => br_t rfl hp) (fun z => absurd z (by omega)))), fun post hp => br_f a (br_f b' (ym_free _ _ _ _ _ _ _ _ _ _ _ _ _ _ _ _ _ _ _ _ _ _ _ _ _ _ _ m hm hb' (fun z => absurd z (by omega)) _ (fun _ => br_f (by decide) hp) (fun z => absurd z (by omega))))⟩
theorem i_vc_job {k : Nat} {u : SX} {v : SY} (I : i_Rel k u v) (hk : k + 6 ≤ 3073) (v1 : Int32) (v2 : Int32) (v3 : Int32) : wpX_job (fun r u' => wpY_job (fun r' v' => r' = r ∧ i_Rel (k + 6) u' v') v v1 v2 v3) u v1 v2 v3 := by
  obtain ⟨W, t, rs, st, nd, np, no, nm, ask, made, kin, dur, pri, ovl, mis, per, mnt, hrs, day, mon, wkd, nxt, sta, los, msd, mss, wai, req, bsy, wjb, wen, kjb, kst, kdu, knd, nex, prd, sets, mnw, wdu, doi, ens, his, fld, rfl, rfl, h⟩ := I
  have h0 := rl_up W t rs st nd np no nm ask made kin dur pri ovl mis per mnt hrs day mon wkd nxt sta los msd mss wai req bsy wjb wen kjb kst kdu knd nex prd sets mnw wdu doi ens his fld (m := k + 6) (by omega) h
  have h' := rl_mk W t rs st nd np no nm ask made kin dur pri ovl mis per mnt hrs day mon wkd nxt sta los msd mss wai req bsy wjb wen kjb kst kdu knd nex prd sets mnw wdu doi ens his fld _ h0
  have n1 : ¬ (1 : Int32) = 0 := by decide
  unfold wpX_job wpY_job
  dsimp only
  by_cases a0 : v1 = 0
  · obtain ⟨r, u', v', hr, hx, hy⟩ := jb_34 W t rs st nd np no nm ask made kin dur pri ovl mis per mnt hrs day mon wkd nxt sta los msd mss wai req bsy wjb wen kjb kst kdu knd nex prd sets mnw wdu doi ens his fld (k + 6) h0 v1 v2 v3 (Or.inl a0) (Or.inl a0)
    exact br_t a0 (br_t a0 (hx _ (yr_within _ _ _ _ (fun _ _ => br_f n1 (br_t a0 (hy _ ⟨rfl, hr⟩))) (fun z => absurd z (by rw [a0]; decide)))))
  · by_cases a12 : v1 = 1 ∨ v1 = 2
    · have Y0 : ∀ post : Int32 → Prop, post 1 → wpY_within post v1 0 2 := fun post hp => yr_within _ _ _ _ (fun _ _ => hp) (fun z => absurd z (by rcases a12 with a | a <;> rw [a] <;> decide))
      have X0 : ∀ post : Int32 → SX → Prop, wX_job_16 post v1 v2 v3 (nI W) (nI t) st (nI rs) nd np no nm made kin dur pri ovl mis per mnt hrs day mon wkd nxt sta los msd mss wai req bsy wjb wen kjb kst kdu → ((v1 = 0 → (wX_job_16 post v1 v2 v3 (nI W) (nI t) st (nI rs) nd np no nm made kin dur pri ovl mis per mnt hrs day mon wkd nxt sta los msd mss wai req bsy wjb wen kjb kst kdu)) ∧ (¬ v1 = 0 → (((v1 = 1 → (wX_job_16 post v1 v2 v3 (nI W) (nI t) st (nI rs) nd np no nm made kin dur pri ovl mis per mnt hrs day mon wkd nxt sta los msd mss wai req bsy wjb wen kjb kst kdu)) ∧ (¬ v1 = 1 → (((v1 = 2 → (wX_job_16 post v1 v2 v3 (nI W) (nI t) st (nI rs) nd np no nm made kin dur pri ovl mis per mnt hrs day mon wkd nxt sta los msd mss wai req bsy wjb wen kjb kst kdu)) ∧ (¬ v1 = 2 → (post (-1) ((nI W), (nI t), st, (nI rs), nd, np, no, nm, made, kin, dur, pri, ovl, mis, per, mnt, hrs, day, mon, wkd, nxt, sta, los, msd, mss, wai, req, bsy, wjb, wen, kjb, kst, kdu)))))))))) := by
        intro post hh
        refine br_f a0 (br_c (fun _ => hh) (fun z => br_t ?_ hh))
        rcases a12 with a | a
        · exact absurd a z
        · exact a
      by_cases p1 : v3 < 1
      · exact X0 _ (br_f a0 (br_t p1 (Y0 _ (br_f n1 (br_f a0 (yr_within _ _ _ _ (fun z _ => absurd p1 z) (fun _ => br_t rfl ⟨rfl, h'⟩)))))))
      by_cases p2 : v3 ≤ 2000
      case neg => exact X0 _ (br_f a0 (br_f p1 (br_f p2 (Y0 _ (br_f n1 (br_f a0 (yr_within _ _ _ _ (fun _ z => absurd (Int32.not_le.mp p2) z) (fun _ => br_t rfl ⟨rfl, h'⟩))))))))
      have hp : ∃ p, v3 = nI p ∧ 1 ≤ p ∧ p ≤ 2000 := by
        obtain ⟨d, hd, e⟩ := nI_of2 (x := v3) (M := 2000) (n := 2000) (by decide) (fun z => p1 (Int32.lt_trans z (by decide))) p2
        refine ⟨d, e, ?_, hd⟩
        rcases Nat.eq_zero_or_pos d with z | z
        · exact absurd (by rw [e, z]; decide) p1
        · exact z
      obtain ⟨r, u', v', hr, hx, hy⟩ := jb_34 W t rs st nd np no nm ask made kin dur pri ovl mis per mnt hrs day mon wkd nxt sta los msd mss wai req bsy wjb wen kjb kst kdu knd nex prd sets mnw wdu doi ens his fld (k + 6) h0 v1 v2 v3 (Or.inr a12) (Or.inr hp)
      exact X0 _ (br_f a0 (br_f p1 (br_t p2 (hx _ (Y0 _ (br_f n1 (br_f a0 (yr_within _ _ _ _ (fun _ _ => br_f n1 (hy _ ⟨rfl, hr⟩)) (fun z => absurd z (by simp only [not_or]; exact ⟨p1, Int32.not_lt.mpr p2⟩))))))))))
    · have a1 : ¬ v1 = 1 := fun z => a12 (Or.inl z)
      have a2 : ¬ v1 = 2 := fun z => a12 (Or.inr z)
      refine br_f a0 (br_f a1 (br_f a2 (yr_within _ _ _ _ (fun z1 z2 => ?_) (fun _ => br_t rfl ⟨rfl, h'⟩))))
      obtain ⟨d, hd, e⟩ := nI_of2 (x := v1) (M := 2) (n := 2) (by decide) z1 (Int32.not_lt.mp z2)
      have : d = 0 ∨ d = 1 ∨ d = 2 := by omega
      rcases this with rfl | rfl | rfl
      · exact absurd e a0
      · exact absurd e a1
      · exact absurd e a2
theorem sm_set (W t rs : Nat) (st nd np no nm : Int32) (made kin dur pri ovl mis per mnt hrs day mon wkd nxt sta los msd mss wai req bsy wjb wen kjb kst kdu : Nat → Int32) (x m kk : Int32) (k : Nat) (hk : k < 31) (hm : ∀ i, i < 32 → bt m i = decide (i < k)) (he : ((1 : Int32) <<< (kk &&& 31)) = nI (2 ^ k)) : ((∀ post : Int32 → Prop, post 1 → wpX_isSetOf post ((nI W), (nI t), st, (nI rs), nd, np, no, nm, made, kin, dur, pri, ovl, mis, per, mnt, hrs, day, mon, wkd, nxt, sta, los, msd, mss, wai, req, bsy, wjb, wen, kjb, kst, kdu) x m) ∧ (∀ post : Int32 → Prop, post 1 → wpY_isSet post x kk)) ∨ ((∀ post : Int32 → Prop, post 0 → wpX_isSetOf post ((nI W), (nI t), st, (nI rs), nd, np, no, nm, made, kin, dur, pri, ovl, mis, per, mnt, hrs, day, mon, wkd, nxt, sta, los, msd, mss, wai, req, bsy, wjb, wen, kjb, kst, kdu) x m) ∧ (∀ post : Int32 → Prop, post 0 → wpY_isSet post x kk)) := by
  have key := ar_set x m k hk hm
  by_cases h : ¬ x = 0 ∧ (x &&& (m ^^^ (-1))) = 0
  · have h2 := key.mp h
    exact Or.inl ⟨fun post hp => br_f h.1 (br_t h.2 hp), fun post hp => br_f h2.1 (br_f (by rw [he]; exact h2.2) hp)⟩
  · have h2 : ¬ (¬ x ≤ 0 ∧ ¬ nI (2 ^ k) ≤ x) := fun z => h (key.mpr z)
    refine Or.inr ⟨fun post hp => br_c (fun _ => hp) (fun z => br_c (fun y => absurd ⟨z, y⟩ h) (fun _ => hp)), fun post hp => br_c (fun _ => hp) (fun z => br_c (fun _ => hp) (fun y => absurd ⟨z, by rw [← he]; exact y⟩ h2))⟩
theorem cr_s5 (sets : Nat → Int32) (m : Nat) (v1 v2 v3 v4 v5 : Int32) : (upd (upd (upd (upd (upd sets (5 * m) v1) (5 * m + 1) v2) (5 * m + 2) v3) (5 * m + 3) v4) (5 * m + 4) v5) (5 * m) = v1 ∧ (upd (upd (upd (upd (upd sets (5 * m) v1) (5 * m + 1) v2) (5 * m + 2) v3) (5 * m + 3) v4) (5 * m + 4) v5) (5 * m + 1) = v2 ∧ (upd (upd (upd (upd (upd sets (5 * m) v1) (5 * m + 1) v2) (5 * m + 2) v3) (5 * m + 3) v4) (5 * m + 4) v5) (5 * m + 2) = v3 ∧ (upd (upd (upd (upd (upd sets (5 * m) v1) (5 * m + 1) v2) (5 * m + 2) v3) (5 * m + 3) v4) (5 * m + 4) v5) (5 * m + 3) = v4 ∧ (upd (upd (upd (upd (upd sets (5 * m) v1) (5 * m + 1) v2) (5 * m + 2) v3) (5 * m + 3) v4) (5 * m + 4) v5) (5 * m + 4) = v5 := by
  refine ⟨?_, ?_, ?_, ?_, ?_⟩
  · rw [pk_un (by omega), pk_un (by omega), pk_un (by omega), pk_un (by omega), pk_us]
  · rw [pk_un (by omega), pk_un (by omega), pk_un (by omega), pk_us]
  · rw [pk_un (by omega), pk_un (by omega), pk_us]
  · rw [pk_un (by omega), pk_us]
  · rw [pk_us]
theorem cr_n5 (sets : Nat → Int32) (m j i : Nat) (hi : i < 5) (hj : j ≠ m) (v1 v2 v3 v4 v5 : Int32) : (upd (upd (upd (upd (upd sets (5 * m) v1) (5 * m + 1) v2) (5 * m + 2) v3) (5 * m + 3) v4) (5 * m + 4) v5) (5 * j + i) = sets (5 * j + i) := by
  rw [pk_un (by omega), pk_un (by omega), pk_un (by omega), pk_un (by omega), pk_un (by omega)]
theorem cr_rel (W t rs : Nat) (st nd np no nm ask : Int32) (made kin dur pri ovl mis per mnt hrs day mon wkd nxt sta los msd mss wai req bsy wjb wen kjb kst kdu knd nex prd sets mnw wdu doi ens his fld : Nat → Int32) (k : Nat) (h : rl_R k W t rs st nd np no nm ask made kin dur pri ovl mis per mnt hrs day mon wkd nxt sta los msd mss wai req bsy wjb wen kjb kst kdu knd nex prd sets mnw wdu doi ens his fld) (m : Nat) (hm : m < 12) (hf : made m = 0) (v1 v2 v3 v4 v5 r : Int32) (hc : rl_c (t + 1) v1 v2 v3 v4 v5 r) : i_Rel k ((nI W), (nI t), st, (nI rs), nd, np, no, nm, (upd made m 1), (upd kin m 3), (upd dur m nd), (upd pri m np), (upd ovl m no), (upd mis m nm), per, (upd mnt m v1), (upd hrs m v2), (upd day m v3), (upd mon m v4), (upd wkd m v5), (upd nxt m r), (upd sta m 0), (upd los m 0), (upd msd m 0), (upd mss m 0), (upd wai m 0), req, bsy, wjb, wen, kjb, kst, kdu) ((nI W), (nI t), (nI rs), st, nd, np, no, nm, ask, (upd knd m 3), (upd dur m nd), (upd pri m np), (upd ovl m no), (upd mis m nm), (upd nex m (-1)), (upd prd m 0), (upd (upd (upd (upd (upd sets (5 * m) v1) (5 * m + 1) v2) (5 * m + 2) v3) (5 * m + 3) v4) (5 * m + 4) v5), (upd sta m 0), (upd los m 0), (upd msd m 0), (upd mnw m 0), (upd wai m 0), wdu, doi, ens, his, fld) := by
  obtain ⟨hW1, hW3, ht, hRs, hst, hnd, hnm, hJ, hK, hQ, hA, hH, hT⟩ := h
  have ew : upd wai m 0 = wai := up_id (rl_m0 (hJ m hm) hf).2
  rw [ew]
  refine rl_mk _ _ _ _ _ _ _ _ _ _ _ _ _ _ _ _ _ _ _ _ _ _ _ _ _ _ _ _ _ _ _ _ _ _ _ _ _ _ _ _ _ _ _ _ _ ⟨hW1, hW3, ht, hRs, hst, hnd, hnm, ?_, hK, hQ, hA, hH, ?_⟩
  · intro j hj
    by_cases e : j = m
    · subst e
      obtain ⟨s0, s1, s2, s3, s4⟩ := cr_s5 sets j v1 v2 v3 v4 v5
      rw [s0, s1, s2, s3, s4]
      simp only [pk_us]
      exact Or.inr ⟨rfl, rfl, rfl, ⟨0, rfl, by omega⟩, fun _ => rfl, hnm, hnd, Or.inr (Or.inr ⟨rfl, ⟨rfl, rfl, rfl, rfl, rfl⟩, hc⟩)⟩
    · have s0 : (upd (upd (upd (upd (upd sets (5 * m) v1) (5 * m + 1) v2) (5 * m + 2) v3) (5 * m + 3) v4) (5 * m + 4) v5) (5 * j) = sets (5 * j) := cr_n5 sets m j 0 (by omega) e v1 v2 v3 v4 v5
      have s1 := cr_n5 sets m j 1 (by omega) e v1 v2 v3 v4 v5
      have s2 := cr_n5 sets m j 2 (by omega) e v1 v2 v3 v4 v5
      have s3 := cr_n5 sets m j 3 (by omega) e v1 v2 v3 v4 v5
      have s4 := cr_n5 sets m j 4 (by omega) e v1 v2 v3 v4 v5
      rw [s0, s1, s2, s3, s4]
      simp only [pk_un e]
      exact hJ j hj
  · intro j hj
    by_cases e : j = m
    · rw [e, pk_us]; exact ⟨0, rfl, by omega⟩
    · rw [pk_un e]; exact hT j hj
theorem i_vc_cron {k : Nat} {u : SX} {v : SY} (I : i_Rel k u v) (hk : k + 6 ≤ 3073) (v1 : Int32) (v2 : Int32) (v3 : Int32) (v4 : Int32) (v5 : Int32) : wpX_cron (fun r u' => wpY_cron (fun r' v' => r' = r ∧ i_Rel (k + 6) u' v') v v1 v2 v3 v4 v5) u v1 v2 v3 v4 v5 := by
  obtain ⟨W, t, rs, st, nd, np, no, nm, ask, made, kin, dur, pri, ovl, mis, per, mnt, hrs, day, mon, wkd, nxt, sta, los, msd, mss, wai, req, bsy, wjb, wen, kjb, kst, kdu, knd, nex, prd, sets, mnw, wdu, doi, ens, his, fld, rfl, rfl, h⟩ := I
  have h0 := rl_up W t rs st nd np no nm ask made kin dur pri ovl mis per mnt hrs day mon wkd nxt sta los msd mss wai req bsy wjb wen kjb kst kdu knd nex prd sets mnw wdu doi ens his fld (m := k + 6) (by omega) h
  have h' := rl_mk W t rs st nd np no nm ask made kin dur pri ovl mis per mnt hrs day mon wkd nxt sta los msd mss wai req bsy wjb wen kjb kst kdu knd nex prd sets mnw wdu doi ens his fld _ h0
  have ht : t ≤ 1000000 := h.2.2.1
  have hJ := h.2.2.2.2.2.2.2.1
  have n1 : ¬ (1 : Int32) = 0 := by decide
  unfold wpX_cron wpY_cron
  dsimp only
  rcases sm_set W t rs st nd np no nm made kin dur pri ovl mis per mnt hrs day mon wkd nxt sta los msd mss wai req bsy wjb wen kjb kst kdu v1 1023 10 10 (by omega) ar_b1023 (by decide) with ⟨x1, y1⟩ | ⟨x1, y1⟩
  rotate_left
  · exact (x1 _ (br_t rfl (br_t rfl (y1 _ (br_t rfl ⟨rfl, h'⟩)))))
  rcases sm_set W t rs st nd np no nm made kin dur pri ovl mis per mnt hrs day mon wkd nxt sta los msd mss wai req bsy wjb wen kjb kst kdu v2 255 8 8 (by omega) ar_b255 (by decide) with ⟨x2, y2⟩ | ⟨x2, y2⟩
  rotate_left
  · exact (x1 _ (br_f n1 (x2 _ (br_t rfl (br_t rfl (y1 _ (br_f n1 (y2 _ (br_t rfl ⟨rfl, h'⟩)))))))))
  rcases sm_set W t rs st nd np no nm made kin dur pri ovl mis per mnt hrs day mon wkd nxt sta los msd mss wai req bsy wjb wen kjb kst kdu v3 1023 10 10 (by omega) ar_b1023 (by decide) with ⟨x3, y3⟩ | ⟨x3, y3⟩
  rotate_left
  · exact (x1 _ (br_f n1 (x2 _ (br_f n1 (x3 _ (br_t rfl (br_t rfl (y1 _ (br_f n1 (y2 _ (br_f n1 (y3 _ (br_t rfl ⟨rfl, h'⟩)))))))))))))
  rcases sm_set W t rs st nd np no nm made kin dur pri ovl mis per mnt hrs day mon wkd nxt sta los msd mss wai req bsy wjb wen kjb kst kdu v4 15 4 4 (by omega) ar_b15 (by decide) with ⟨x4, y4⟩ | ⟨x4, y4⟩
  rotate_left
  · exact (x1 _ (br_f n1 (x2 _ (br_f n1 (x3 _ (br_f n1 (x4 _ (br_t rfl (br_t rfl (y1 _ (br_f n1 (y2 _ (br_f n1 (y3 _ (br_f n1 (y4 _ (br_t rfl ⟨rfl, h'⟩)))))))))))))))))
  rcases sm_set W t rs st nd np no nm made kin dur pri ovl mis per mnt hrs day mon wkd nxt sta los msd mss wai req bsy wjb wen kjb kst kdu v5 127 7 7 (by omega) ar_b127 (by decide) with ⟨x5, y5⟩ | ⟨x5, y5⟩
  rotate_left
  · exact (x1 _ (br_f n1 (x2 _ (br_f n1 (x3 _ (br_f n1 (x4 _ (br_f n1 (x5 _ (br_t rfl (br_t rfl (y1 _ (br_f n1 (y2 _ (br_f n1 (y3 _ (br_f n1 (y4 _ (br_f n1 (y5 _ (br_t rfl ⟨rfl, h'⟩)))))))))))))))))))))
  obtain ⟨m, hm, hb, he⟩ := fr_ex (fun j => made j = 0)
  have hb' : ∀ j, j < m → ¬ knd j < 0 := fun j hj => rl_m1 (hJ j (by omega)) (hb j hj)
  rcases Nat.lt_or_ge m 12 with g | g
  · have hkn : knd m < 0 := by rw [(rl_m0 (hJ m g) (he g)).1]; decide
    have c1 : 5 * nI m + 1 = nI (5 * m + 1) := by rw [ar_5x]; exact nI_add _ 1
    have c2 : 5 * nI m + 2 = nI (5 * m + 2) := by rw [ar_5x]; exact nI_add _ 2
    have c3 : 5 * nI m + 3 = nI (5 * m + 3) := by rw [ar_5x]; exact nI_add _ 3
    have c4 : 5 * nI m + 4 = nI (5 * m + 4) := by rw [ar_5x]; exact nI_add _ 4
    have fin : ∀ r, rl_c (t + 1) v1 v2 v3 v4 v5 r → i_Rel (k + 6) ((nI W), (nI t), st, (nI rs), nd, np, no, nm, (upd made m 1), (upd kin m 3), (upd dur m nd), (upd pri m np), (upd ovl m no), (upd mis m nm), per, (upd mnt m v1), (upd hrs m v2), (upd day m v3), (upd mon m v4), (upd wkd m v5), (upd nxt m r), (upd sta m 0), (upd los m 0), (upd msd m 0), (upd mss m 0), (upd wai m 0), req, bsy, wjb, wen, kjb, kst, kdu) ((nI W), (nI t), (nI rs), st, nd, np, no, nm, ask, (upd knd m 3), (upd dur m nd), (upd pri m np), (upd ovl m no), (upd mis m nm), (upd nex m (-1)), (upd prd m 0), (upd (upd (upd (upd (upd sets (5 * m) v1) (5 * m + 1) v2) (5 * m + 2) v3) (5 * m + 3) v4) (5 * m + 4) v5), (upd sta m 0), (upd los m 0), (upd msd m 0), (upd mnw m 0), (upd wai m 0), wdu, doi, ens, his, fld) := fun r hc => cr_rel W t rs st nd np no nm ask made kin dur pri ovl mis per mnt hrs day mon wkd nxt sta los msd mss wai req bsy wjb wen kjb kst kdu knd nex prd sets mnw wdu doi ens his fld (k + 6) h0 m g (he g) v1 v2 v3 v4 v5 r hc
    refine (x1 _ (br_f n1 (x2 _ (br_f n1 (x3 _ (br_f n1 (x4 _ (br_f n1 (x5 _ (br_f n1 (br_f n1 (xm_make _ _ _ _ _ _ _ _ _ _ _ _ _ _ _ _ _ _ _ _ _ _ _ _ _ _ _ _ _ _ _ _ _ m hm hb he 3 _ (fun z => absurd z (by omega)) (fun _ => br_f ar_ne1 ⟨ar_in, nm_r ar_u ⟨ar_in, nm_r ar_u ⟨ar_in, nm_r ar_u ⟨ar_in, nm_r ar_u ⟨ar_in, nm_r ar_u (xc_next _ _ _ _ _ _ _ _ _ _ _ _ _ _ _ _ _ _ _ _ _ _ _ _ _ _ _ _ _ _ _ _ _ m g ht _ (fun d d1 d2 d3 d4 => ⟨ar_in, nm_r ar_u ?_⟩) (fun d4 => ⟨ar_in, nm_r ar_u ?_⟩))⟩⟩⟩⟩⟩)))))))))))))
    · simp only [pk_us] at d3 d4
      exact (y1 _ (br_f n1 (y2 _ (br_f n1 (y3 _ (br_f n1 (y4 _ (br_f n1 (y5 _ (br_f n1 (ym_free _ _ _ _ _ _ _ _ _ _ _ _ _ _ _ _ _ _ _ _ _ _ _ _ _ _ _ m hm hb' (fun _ => hkn) _ (fun z => absurd z (by omega)) (fun _ => br_t (nI_pos' (by omega)) (ym_make _ _ _ _ _ _ _ _ _ _ _ _ _ _ _ _ _ _ _ _ _ _ _ _ _ _ _ m g hb' hkn 3 (-1) 0 _ ⟨by rw [ar_5x]; exact ar_in, nm_r (ar_ue (ar_5x m)) ⟨by rw [c1]; exact ar_in, nm_r (ar_ue c1) ⟨by rw [c2]; exact ar_in, nm_r (ar_ue c2) ⟨by rw [c3]; exact ar_in, nm_r (ar_ue c3) ⟨by rw [c4]; exact ar_in, nm_r (ar_ue c4) ⟨rfl, fin _ (Or.inr ⟨d, rfl, d1, by omega, d3, d4⟩)⟩⟩⟩⟩⟩⟩)))))))))))))
    · simp only [pk_us] at d4
      exact (y1 _ (br_f n1 (y2 _ (br_f n1 (y3 _ (br_f n1 (y4 _ (br_f n1 (y5 _ (br_f n1 (ym_free _ _ _ _ _ _ _ _ _ _ _ _ _ _ _ _ _ _ _ _ _ _ _ _ _ _ _ m hm hb' (fun _ => hkn) _ (fun z => absurd z (by omega)) (fun _ => br_t (nI_pos' (by omega)) (ym_make _ _ _ _ _ _ _ _ _ _ _ _ _ _ _ _ _ _ _ _ _ _ _ _ _ _ _ m g hb' hkn 3 (-1) 0 _ ⟨by rw [ar_5x]; exact ar_in, nm_r (ar_ue (ar_5x m)) ⟨by rw [c1]; exact ar_in, nm_r (ar_ue c1) ⟨by rw [c2]; exact ar_in, nm_r (ar_ue c2) ⟨by rw [c3]; exact ar_in, nm_r (ar_ue c3) ⟨by rw [c4]; exact ar_in, nm_r (ar_ue c4) ⟨rfl, fin _ (Or.inl ⟨rfl, d4⟩)⟩⟩⟩⟩⟩⟩)))))))))))))
  · exact (x1 _ (br_f n1 (x2 _ (br_f n1 (x3 _ (br_f n1 (x4 _ (br_f n1 (x5 _ (br_f n1 (br_f n1 (xm_make _ _ _ _ _ _ _ _ _ _ _ _ _ _ _ _ _ _ _ _ _ _ _ _ _ _ _ _ _ _ _ _ _ m hm hb he 3 _ (fun _ => br_t rfl (y1 _ (br_f n1 (y2 _ (br_f n1 (y3 _ (br_f n1 (y4 _ (br_f n1 (y5 _ (br_f n1 (ym_free _ _ _ _ _ _ _ _ _ _ _ _ _ _ _ _ _ _ _ _ _ _ _ _ _ _ _ m hm hb' (fun z => absurd z (by omega)) _ (fun _ => br_f (by decide) ⟨rfl, h'⟩) (fun z => absurd z (by omega)))))))))))))) (fun z => absurd z (by omega))))))))))))))
end
section
theorem ar_ub0 {a : Nat → Int32} {i : Nat} (hi : i < 1000 := by omega) : upd a (nI i).toNatClampNeg (vp_nar .boolean 0) = upd a i 0 := by rw [ar_nb0]; exact ar_u
theorem ar_ub1 {a : Nat → Int32} {i : Nat} (hi : i < 1000 := by omega) : upd a (nI i).toNatClampNeg (vp_nar .boolean 1) = upd a i 1 := by rw [ar_nb1]; exact ar_u
theorem xg_loop (W t rs : Nat) (st nd np no nm : Int32) (made kin dur pri ovl mis per mnt hrs day mon wkd nxt sta los msd mss wai req bsy wjb wen kjb kst kdu : Nat → Int32) (x : Int32) (post : Int32 → SX → Prop) (h : ∀ wjb', (∀ w, w < 3 → (wjb w = x → wjb' w = -1) ∧ (¬ wjb w = x → wjb' w = wjb w)) → post 1 ((nI W), (nI t), st, (nI rs), nd, np, no, nm, made, kin, dur, pri, ovl, mis, per, mnt, hrs, day, mon, wkd, nxt, sta, los, msd, mss, wai, req, bsy, wjb', wen, kjb, kst, kdu)) : ∃ n, wX_give_26 post x (nI W) (nI t) st (nI rs) nd np no nm n 0 made kin dur pri ovl mis per mnt hrs day mon wkd nxt sta los msd mss wai req bsy wjb wen kjb kst kdu := by
  have key : ∀ d i cur, i + d = 3 → (∀ w, w < i → (wjb w = x → cur w = -1) ∧ (¬ wjb w = x → cur w = wjb w)) → (∀ w, i ≤ w → cur w = wjb w) → wX_give_26 post x (nI W) (nI t) st (nI rs) nd np no nm (d + 1) (nI i) made kin dur pri ovl mis per mnt hrs day mon wkd nxt sta los msd mss wai req bsy cur wen kjb kst kdu := by
    intro d
    induction d with
    | zero => intro i cur hi hn _; exact pk_le 3 i (fun _ => h cur (fun w hw => hn w (by omega))) (fun z => absurd z (by omega))
    | succ d ih =>
      intro i cur hi hn hl
      have ec := hl i (by omega)
      refine pk_le 3 i (fun z => absurd z (by omega)) (fun _ => ⟨ar_in, br_c (fun e => ⟨ar_in, nm_r ar_u (nm_r (nI_1 i) (ih (i + 1) _ (by omega) ?_ ?_))⟩) (fun e => nm_r (nI_1 i) (ih (i + 1) cur (by omega) ?_ ?_))⟩)
      · refine lt_s (fun w hw => ?_) ⟨fun _ => pk_us, fun z => absurd (by rw [← ec]; exact ar_o e) z⟩
        rw [pk_un (by omega)]
        exact hn w hw
      · intro w hw
        rw [pk_un (by omega)]
        exact hl w (by omega)
      · refine lt_s hn ⟨fun z => absurd (by rw [ec]; exact z) (ar_on e), fun _ => ec⟩
      · intro w hw
        exact hl w (by omega)
  exact ⟨_, key 3 0 wjb (by omega) (fun w hw => absurd hw (by omega)) (fun w _ => rfl)⟩
theorem yg_loop (W t rs : Nat) (st nd np no nm ask : Int32) (knd dur pri ovl mis nex prd sets sta los msd mnw wai wdu doi ens his fld : Nat → Int32) (hW : W ≤ 3) (x : Int32) (post : Int32 → SY → Prop) (h : ∀ doi', (∀ w, w < W → (doi w = x → doi' w = -1) ∧ (¬ doi w = x → doi' w = doi w)) → post 1 ((nI W), (nI t), (nI rs), st, nd, np, no, nm, ask, knd, dur, pri, ovl, mis, nex, prd, sets, sta, los, msd, mnw, wai, wdu, doi', ens, his, fld)) : ∃ n, wY_give_41 post x (nI W) (nI t) (nI rs) st nd np no nm ask n 0 knd dur pri ovl mis nex prd sets sta los msd mnw wai wdu doi ens his fld := by
  have key : ∀ d i cur, i + d = W → (∀ w, w < i → (doi w = x → cur w = -1) ∧ (¬ doi w = x → cur w = doi w)) → (∀ w, i ≤ w → cur w = doi w) → wY_give_41 post x (nI W) (nI t) (nI rs) st nd np no nm ask (d + 1) (nI i) knd dur pri ovl mis nex prd sets sta los msd mnw wai wdu cur ens his fld := by
    intro d
    induction d with
    | zero => intro i cur hi hn _; exact pk_le W i (fun _ => h cur (fun w hw => hn w (by omega))) (fun z => absurd z (by omega))
    | succ d ih =>
      intro i cur hi hn hl
      have ec := hl i (by omega)
      refine pk_le W i (fun z => absurd z (by omega)) (fun _ => ⟨ar_in, br_c (fun e => ⟨ar_in, nm_r ar_u (nm_r (nI_1 i) (ih (i + 1) _ (by omega) ?_ ?_))⟩) (fun e => nm_r (nI_1 i) (ih (i + 1) cur (by omega) ?_ ?_))⟩)
      · refine lt_s (fun w hw => ?_) ⟨fun _ => pk_us, fun z => absurd (by rw [← ec]; exact ar_o e) z⟩
        rw [pk_un (by omega)]
        exact hn w hw
      · intro w hw
        rw [pk_un (by omega)]
        exact hl w (by omega)
      · refine lt_s hn ⟨fun z => absurd (by rw [ec]; exact z) (ar_on e), fun _ => ec⟩
      · intro w hw
        exact hl w (by omega)
  exact ⟨_, key W 0 doi (by omega) (fun w hw => absurd hw (by omega)) (fun w _ => rfl)⟩
theorem i_vc_give {k : Nat} {u : SX} {v : SY} (I : i_Rel k u v) (hk : k + 6 ≤ 3073) (v1 : Int32) : wpX_give (fun r u' => wpY_give (fun r' v' => r' = r ∧ i_Rel (k + 6) u' v') v v1) u v1 := by
  obtain ⟨W, t, rs, st, nd, np, no, nm, ask, made, kin, dur, pri, ovl, mis, per, mnt, hrs, day, mon, wkd, nxt, sta, los, msd, mss, wai, req, bsy, wjb, wen, kjb, kst, kdu, knd, nex, prd, sets, mnw, wdu, doi, ens, his, fld, rfl, rfl, h⟩ := I
  have h0 := rl_up W t rs st nd np no nm ask made kin dur pri ovl mis per mnt hrs day mon wkd nxt sta los msd mss wai req bsy wjb wen kjb kst kdu knd nex prd sets mnw wdu doi ens his fld (m := k + 6) (by omega) h
  have h' := rl_mk W t rs st nd np no nm ask made kin dur pri ovl mis per mnt hrs day mon wkd nxt sta los msd mss wai req bsy wjb wen kjb kst kdu knd nex prd sets mnw wdu doi ens his fld _ h0
  obtain ⟨hW1, hW3, ht, hRs, hst, hnd, hnm, hJ, hK, hQ, hA, hH, hT⟩ := h0
  have n1 : ¬ (1 : Int32) = 0 := by decide
  unfold wpX_give wpY_give
  dsimp only
  rcases sm_ex W t rs st nd np no nm ask made kin dur pri ovl mis per mnt hrs day mon wkd nxt sta los msd mss wai req bsy wjb wen kjb kst kdu knd nex prd sets mnw wdu doi ens his fld _ hJ v1 with ⟨hx, hy⟩ | ⟨j, hj, rfl, hm, hkn, hx, hy⟩
  · exact hx _ (br_t rfl (hy _ (br_t rfl ⟨rfl, h'⟩)))
  · have ea : ask - wai (nI j).toNatClampNeg = rl_S (upd wai j 0) 12 := by
      rw [ar_k, rl_Su, if_pos hj, hA, Int32.add_zero]
    refine hx _ (br_f n1 ⟨ar_in, nm_r ar_ub0 ⟨ar_in, nm_r ar_u (xg_loop _ _ _ _ _ _ _ _ _ _ _ _ _ _ _ _ _ _ _ _ _ _ _ _ _ _ _ _ _ _ _ _ _ (nI j) _ (fun wjb' hw => hy _ (br_f n1 ⟨ar_in, nm_r ar_u ⟨ar_in, nm_r ea ⟨ar_in, nm_r ar_u (yg_loop _ _ _ _ _ _ _ _ _ _ _ _ _ _ _ _ _ _ _ _ _ _ _ _ _ _ _ hW3 (nI j) _ (fun doi' hd => ⟨rfl, ?_⟩))⟩⟩⟩)))⟩⟩)
    refine rl_mk _ _ _ _ _ _ _ _ _ _ _ _ _ _ _ _ _ _ _ _ _ _ _ _ _ _ _ _ _ _ _ _ _ _ _ _ _ _ _ _ _ _ _ _ _ ⟨hW1, hW3, ht, hRs, hst, hnd, hnm, ?_, ?_, ?_, rfl, hH, hT⟩
    · intro i hi
      by_cases e : i = j
      · subst e
        simp only [pk_us]
        exact Or.inl ⟨rfl, rfl, rfl⟩
      · simp only [pk_un e]
        exact hJ i hi
    · intro w hw3
      rcases hK w hw3 with g | ⟨g1, g2, g3, g4, g5⟩
      · exact Or.inl g
      · obtain ⟨p1, p2⟩ := hw w hw3
        obtain ⟨q1, q2⟩ := hd w g2
        refine Or.inr ⟨g1, g2, g3, ?_⟩
        by_cases e : wjb w = nI j
        · rw [p1 e, q1 (by rw [← g4]; exact e)]
          exact ⟨rfl, Or.inl rfl⟩
        · rw [p2 e, q2 (by rw [← g4]; exact e)]
          exact ⟨g4, g5⟩
    · intro i hi
      by_cases e : i = j
      · subst e
        rw [pk_us]
        exact ⟨0, rfl, by omega, fun q hq => absurd hq (by omega)⟩
      · rw [pk_un e]
        exact hQ i hi
end
section
theorem xg_before (W t rs : Nat) (st nd np no nm : Int32) (made kin dur pri ovl mis per mnt hrs day mon wkd nxt sta los msd mss wai req bsy wjb wen kjb kst kdu : Nat → Int32) (i j : Nat) (hi : i < 12) (hj : j < 12) (post : Int32 → Prop) (h1 : ((pri i = pri j ∧ ¬ req (3 * j) ≤ req (3 * i)) ∨ (¬ pri i = pri j ∧ ¬ pri i ≤ pri j)) → post 1) (h0 : ¬ ((pri i = pri j ∧ ¬ req (3 * j) ≤ req (3 * i)) ∨ (¬ pri i = pri j ∧ ¬ pri i ≤ pri j)) → post 0) : wpX_goesBefore post ((nI W), (nI t), st, (nI rs), nd, np, no, nm, made, kin, dur, pri, ovl, mis, per, mnt, hrs, day, mon, wkd, nxt, sta, los, msd, mss, wai, req, bsy, wjb, wen, kjb, kst, kdu) (nI i) (nI j) := by
  have ki : (nI i).toNatClampNeg = i := ar_k
  have kj : (nI j).toNatClampNeg = j := ar_k
  have k3i : (nI i * 3).toNatClampNeg = 3 * i := by rw [ar_x3]; exact ar_k
  have k3j : (nI j * 3).toNatClampNeg = 3 * j := by rw [ar_x3]; exact ar_k
  refine And.intro ar_in ⟨ar_in, br_c (fun a => ⟨by rw [ar_x3]; exact ar_in, by rw [ar_x3]; exact ar_in, br_c (fun b => h0 ?_) (fun b => h1 ?_)⟩) (fun a => ⟨ar_in, ar_in, br_c (fun b => h0 ?_) (fun b => h1 ?_)⟩)⟩
  · rw [ki, kj] at a; rw [k3i, k3j] at b
    exact fun z => z.elim (fun y => y.2 b) (fun y => y.1 a)
  · rw [ki, kj] at a; rw [k3i, k3j] at b
    exact Or.inl ⟨a, b⟩
  · rw [ki, kj] at a b
    exact fun z => z.elim (fun y => a y.1) (fun y => y.2 b)
  · rw [ki, kj] at a b
    exact Or.inr ⟨a, b⟩
theorem sm_first (W t rs : Nat) (st nd np no nm ask : Int32) (made kin dur pri ovl mis per mnt hrs day mon wkd nxt sta los msd mss wai req bsy wjb wen kjb kst kdu knd nex prd sets mnw wdu doi ens his fld : Nat → Int32) (hW : W ≤ 3) (hK : rl_W 3 t W bsy wjb wen doi ens) (hQ : rl_Q wai req wdu) : ∃ r, (r = -1 ∨ ∃ j, j < 12 ∧ r = nI j ∧ ¬ hp_P bsy wjb (nI j) ∧ ∃ n, wai j = nI (n + 1) ∧ n + 1 ≤ 3) ∧ (∀ post : Int32 → Prop, post r → wpX_nextJobToStart post ((nI W), (nI t), st, (nI rs), nd, np, no, nm, made, kin, dur, pri, ovl, mis, per, mnt, hrs, day, mon, wkd, nxt, sta, los, msd, mss, wai, req, bsy, wjb, wen, kjb, kst, kdu)) ∧ (∀ post : Int32 → Prop, post r → wpY_first post ((nI W), (nI t), (nI rs), st, nd, np, no, nm, ask, knd, dur, pri, ovl, mis, nex, prd, sets, sta, los, msd, mnw, wai, wdu, doi, ens, his, fld)) := by
  have n1 : ¬ (1 : Int32) = 0 := by decide
  have key : ∀ d i x, i + d = 12 → (x = -1 ∨ ∃ j, j < 12 ∧ x = nI j ∧ ¬ hp_P bsy wjb (nI j) ∧ ∃ n, wai j = nI (n + 1) ∧ n + 1 ≤ 3) → ∃ r, (r = -1 ∨ ∃ j, j < 12 ∧ r = nI j ∧ ¬ hp_P bsy wjb (nI j) ∧ ∃ n, wai j = nI (n + 1) ∧ n + 1 ≤ 3) ∧ (∀ post : Int32 → Prop, post r → wX_nextJobToStart_4 post (nI W) (nI t) st (nI rs) nd np no nm made kin dur pri ovl mis per mnt hrs day mon wkd nxt sta los msd mss wai req bsy wjb wen kjb kst kdu (d + 1) x (nI i)) ∧ (∀ post : Int32 → Prop, post r → wY_first_4 post (nI W) (nI t) (nI rs) st nd np no nm ask knd dur pri ovl mis nex prd sets sta los msd mnw wai wdu doi ens his fld (d + 1) x (nI i)) := by
    intro d
    induction d with
    | zero =>
      intro i x hi hx
      exact ⟨x, hx, fun post hp => pk_le 12 i (fun _ => hp) (fun z => absurd z (by omega)), fun post hp => pk_le 12 i (fun _ => hp) (fun z => absurd z (by omega))⟩
    | succ d ih =>
      intro i x hi hx
      have hk : (nI i).toNatClampNeg = i := ar_k
      obtain ⟨n, en, hn3, hq⟩ := hQ i (by omega)
      rcases Nat.eq_zero_or_pos n with rfl | hn
      · obtain ⟨r, hr, gx, gy⟩ := ih (i + 1) x (by omega) hx
        exact ⟨r, hr, fun post hp => pk_le 12 i (fun z => absurd z (by omega)) (fun _ => ⟨ar_in, br_t (by rw [hk, en]; decide) (nm_r (nI_1 i) (gx post hp))⟩), fun post hp => pk_le 12 i (fun z => absurd z (by omega)) (fun _ => ⟨ar_in, br_t (ar_c en) (nm_r (nI_1 i) (gy post hp))⟩)⟩
      · obtain ⟨q, rfl⟩ : ∃ q, n = q + 1 := ⟨n - 1, by omega⟩
        have w1 : ¬ wai (nI i).toNatClampNeg ≤ 0 := by rw [hk, en]; exact nI_nle (by omega) (by omega)
        have w2 : ¬ wai (nI i).toNatClampNeg = 0 := by rw [hk, en]; exact nI_ne0 (by omega) (by omega)
        by_cases hP : hp_P bsy wjb (nI i)
        · have hP2 := (rl_PQ hW hK (nI i)).mp hP
          obtain ⟨r, hr, gx, gy⟩ := ih (i + 1) x (by omega) hx
          exact ⟨r, hr, fun post hp => pk_le 12 i (fun z => absurd z (by omega)) (fun _ => ⟨ar_in, br_f w1 (xr_hasRun _ _ _ _ _ _ _ _ _ _ _ _ _ _ _ _ _ _ _ _ _ _ _ _ _ _ _ _ _ _ _ _ _ _ _ (fun _ => br_f n1 (nm_r (nI_1 i) (gx post hp))) (fun z => absurd hP z))⟩), fun post hp => pk_le 12 i (fun z => absurd z (by omega)) (fun _ => ⟨ar_in, br_f w2 (yr_isRunning _ _ _ _ _ _ _ _ _ _ _ _ _ _ _ _ _ _ _ _ _ _ _ _ _ _ _ hW _ _ (fun _ => br_f n1 (nm_r (nI_1 i) (gy post hp))) (fun z => absurd hP2 z))⟩)⟩
        · have hP2 : ¬ hp_Q W ens doi (nI i) := fun z => hP ((rl_PQ hW hK (nI i)).mpr z)
          have take : ∃ r, (r = -1 ∨ ∃ j, j < 12 ∧ r = nI j ∧ ¬ hp_P bsy wjb (nI j) ∧ ∃ n, wai j = nI (n + 1) ∧ n + 1 ≤ 3) ∧ (∀ post : Int32 → Prop, post r → wX_nextJobToStart_4 post (nI W) (nI t) st (nI rs) nd np no nm made kin dur pri ovl mis per mnt hrs day mon wkd nxt sta los msd mss wai req bsy wjb wen kjb kst kdu (d + 1) (nI i) (nI (i + 1))) ∧ (∀ post : Int32 → Prop, post r → wY_first_4 post (nI W) (nI t) (nI rs) st nd np no nm ask knd dur pri ovl mis nex prd sets sta los msd mnw wai wdu doi ens his fld (d + 1) (nI i) (nI (i + 1))) := ih (i + 1) (nI i) (by omega) (Or.inr ⟨i, by omega, rfl, hP, q, en, hn3⟩)
          have X0 : ∀ post : Int32 → Prop, ((x = (-1) → (∀ y : Int32, y = nI i + 1 → (wX_nextJobToStart_4 post (nI W) (nI t) st (nI rs) nd np no nm made kin dur pri ovl mis per mnt hrs day mon wkd nxt sta los msd mss wai req bsy wjb wen kjb kst kdu (d + 1) (nI i) y))) ∧ (¬ x = (-1) → (wpX_goesBefore (fun r_43 => (((r_43 = 0 → (∀ y : Int32, y = nI i + 1 → (wX_nextJobToStart_4 post (nI W) (nI t) st (nI rs) nd np no nm made kin dur pri ovl mis per mnt hrs day mon wkd nxt sta los msd mss wai req bsy wjb wen kjb kst kdu (d + 1) x y))) ∧ (¬ r_43 = 0 → (∀ y : Int32, y = nI i + 1 → (wX_nextJobToStart_4 post (nI W) (nI t) st (nI rs) nd np no nm made kin dur pri ovl mis per mnt hrs day mon wkd nxt sta los msd mss wai req bsy wjb wen kjb kst kdu (d + 1) (nI i) y)))))) ((nI W), (nI t), st, (nI rs), nd, np, no, nm, made, kin, dur, pri, ovl, mis, per, mnt, hrs, day, mon, wkd, nxt, sta, los, msd, mss, wai, req, bsy, wjb, wen, kjb, kst, kdu) (nI i) x))) → wX_nextJobToStart_4 post (nI W) (nI t) st (nI rs) nd np no nm made kin dur pri ovl mis per mnt hrs day mon wkd nxt sta los msd mss wai req bsy wjb wen kjb kst kdu (d + 1 + 1) x (nI i) := fun post hh => pk_le 12 i (fun z => absurd z (by omega)) (fun _ => ⟨ar_in, br_f w1 (xr_hasRun _ _ _ _ _ _ _ _ _ _ _ _ _ _ _ _ _ _ _ _ _ _ _ _ _ _ _ _ _ _ _ _ _ _ _ (fun z => absurd z hP) (fun _ => br_t rfl hh))⟩)
          rcases hx with rfl | ⟨j, hj, rfl, hjP, m, em, hm⟩
          · obtain ⟨r, hr, gx, gy⟩ := take
            exact ⟨r, hr, fun post hp => X0 post (br_t rfl (nm_r (nI_1 i) (gx post hp))), fun post hp => pk_le 12 i (fun z => absurd z (by omega)) (fun _ => ⟨ar_in, br_f w2 (yr_isRunning _ _ _ _ _ _ _ _ _ _ _ _ _ _ _ _ _ _ _ _ _ _ _ _ _ _ _ hW _ _ (fun z => absurd z hP2) (fun _ => br_t rfl (br_t (by decide) (nm_r (nI_1 i) (gy post hp)))))⟩)⟩
          · have kj : (nI j).toNatClampNeg = j := ar_k
            have k3i : (3 * nI i).toNatClampNeg = 3 * i := by rw [ar_3x]; exact ar_k
            have k3j : (3 * nI j).toNatClampNeg = 3 * j := by rw [ar_3x]; exact ar_k
            have ei : req (3 * i) = wdu (3 * i) := hq 0 (by omega)
            have ej : req (3 * j) = wdu (3 * j) := by
              obtain ⟨m', em', _, hq'⟩ := hQ j hj
              rw [em] at em'
              have := ar_eq em'
              exact hq' 0 (by omega)
            have Y0 : ∀ post : Int32 → Prop, ((((pri (nI j).toNatClampNeg) < (pri (nI i).toNatClampNeg) → (∀ y : Int32, y = nI i + 1 → (wY_first_4 post (nI W) (nI t) (nI rs) st nd np no nm ask knd dur pri ovl mis nex prd sets sta los msd mnw wai wdu doi ens his fld (d + 1) (nI i) y))) ∧ (¬ (pri (nI j).toNatClampNeg) < (pri (nI i).toNatClampNeg) → (vp_in (nI i) 12 ∧ (vp_in (nI j) 12 ∧ ((((pri (nI i).toNatClampNeg) = (pri (nI j).toNatClampNeg) → (vp_in (3 * nI i) 36 ∧ (vp_in (3 * nI j) 36 ∧ ((((wdu (3 * nI j).toNatClampNeg) ≤ (wdu (3 * nI i).toNatClampNeg) → (∀ y : Int32, y = nI i + 1 → (wY_first_4 post (nI W) (nI t) (nI rs) st nd np no nm ask knd dur pri ovl mis nex prd sets sta los msd mnw wai wdu doi ens his fld (d + 1) (nI j) y))) ∧ (¬ (wdu (3 * nI j).toNatClampNeg) ≤ (wdu (3 * nI i).toNatClampNeg) → (∀ y : Int32, y = nI i + 1 → (wY_first_4 post (nI W) (nI t) (nI rs) st nd np no nm ask knd dur pri ovl mis nex prd sets sta los msd mnw wai wdu doi ens his fld (d + 1) (nI i) y)))))))) ∧ (¬ (pri (nI i).toNatClampNeg) = (pri (nI j).toNatClampNeg) → (∀ y : Int32, y = nI i + 1 → (wY_first_4 post (nI W) (nI t) (nI rs) st nd np no nm ask knd dur pri ovl mis nex prd sets sta los msd mnw wai wdu doi ens his fld (d + 1) (nI j) y)))))))))) → wY_first_4 post (nI W) (nI t) (nI rs) st nd np no nm ask knd dur pri ovl mis nex prd sets sta los msd mnw wai wdu doi ens his fld (d + 1 + 1) (nI j) (nI i) := fun post hh => pk_le 12 i (fun z => absurd z (by omega)) (fun _ => ⟨ar_in, br_f w2 (yr_isRunning _ _ _ _ _ _ _ _ _ _ _ _ _ _ _ _ _ _ _ _ _ _ _ _ _ _ _ hW _ _ (fun z => absurd z hP2) (fun _ => br_t rfl (br_f (nI_pos (by omega)) ⟨ar_in, ar_in, hh⟩)))⟩)
            rw [hk, kj, k3i, k3j] at Y0
            have keep := ih (i + 1) (nI j) (by omega) (Or.inr ⟨j, hj, rfl, hjP, m, em, hm⟩)
            by_cases hB : (pri i = pri j ∧ ¬ req (3 * j) ≤ req (3 * i)) ∨ (¬ pri i = pri j ∧ ¬ pri i ≤ pri j)
            · obtain ⟨r, hr, gx, gy⟩ := take
              refine ⟨r, hr, fun post hp => X0 post (br_f ar_ne1 (xg_before _ _ _ _ _ _ _ _ _ _ _ _ _ _ _ _ _ _ _ _ _ _ _ _ _ _ _ _ _ _ _ _ _ i j (by omega) hj _ (fun _ => br_f n1 (nm_r (nI_1 i) (gx post hp))) (fun z => absurd hB z))), fun post hp => Y0 post ?_⟩
              rcases hB with ⟨b1, b2⟩ | ⟨b1, b2⟩
              · rw [ei, ej] at b2
                refine br_f (by rw [b1]; exact Int32.lt_irrefl) ⟨ar_in, ar_in, br_t b1 ⟨by rw [ar_3x]; exact ar_in, by rw [ar_3x]; exact ar_in, br_f b2 (nm_r (nI_1 i) (gy post hp))⟩⟩
              · exact br_t (Int32.not_le.mp b2) (nm_r (nI_1 i) (gy post hp))
            · obtain ⟨r, hr, gx, gy⟩ := keep
              refine ⟨r, hr, fun post hp => X0 post (br_f ar_ne1 (xg_before _ _ _ _ _ _ _ _ _ _ _ _ _ _ _ _ _ _ _ _ _ _ _ _ _ _ _ _ _ _ _ _ _ i j (by omega) hj _ (fun z => absurd z hB) (fun _ => br_t rfl (nm_r (nI_1 i) (gx post hp))))), fun post hp => Y0 post ?_⟩
              by_cases b1 : pri i = pri j
              · have b2 : wdu (3 * j) ≤ wdu (3 * i) := by
                  rw [← ei, ← ej]
                  exact Classical.byContradiction (fun z => hB (Or.inl ⟨b1, z⟩))
                exact br_f (by rw [b1]; exact Int32.lt_irrefl) ⟨ar_in, ar_in, br_t b1 ⟨by rw [ar_3x]; exact ar_in, by rw [ar_3x]; exact ar_in, br_t b2 (nm_r (nI_1 i) (gy post hp))⟩⟩
              · have b2 : pri i ≤ pri j := Classical.byContradiction (fun z => hB (Or.inr ⟨b1, z⟩))
                exact br_f (Int32.not_lt.mpr b2) ⟨ar_in, ar_in, br_f b1 (nm_r (nI_1 i) (gy post hp))⟩
  obtain ⟨r, hr, gx, gy⟩ := key 12 0 (-1) (by omega) (Or.inl rfl)
  exact ⟨r, hr, fun post hp => ⟨_, gx post hp⟩, fun post hp => ⟨_, gy post hp⟩⟩
theorem yf_free (W t rs : Nat) (st nd np no nm ask : Int32) (knd dur pri ovl mis nex prd sets sta los msd mnw wai wdu doi ens his fld : Nat → Int32) (hW : W ≤ 3) (w : Nat) (hw : w < W) (hb : ∀ i, i < w → ¬ ens i = 0) (he : ens w = 0) (post : Int32 → Prop) (hp : post (nI w)) : wpY_freeWorker post ((nI W), (nI t), (nI rs), st, nd, np, no, nm, ask, knd, dur, pri, ovl, mis, nex, prd, sets, sta, los, msd, mnw, wai, wdu, doi, ens, his, fld) := by
  have key : ∀ d i, i + d = w → wY_freeWorker_2 post (nI W) (nI t) (nI rs) st nd np no nm ask knd dur pri ovl mis nex prd sets sta los msd mnw wai wdu doi ens his fld (d + 1) (nI i) := by
    intro d
    induction d with
    | zero =>
      intro i hi
      have hi' : i = w := by omega
      subst hi'
      exact pk_le W i (fun z => absurd z (by omega)) (fun _ => ⟨ar_in, br_t (ar_c he) hp⟩)
    | succ d ih =>
      intro i hi
      exact pk_le W i (fun z => absurd z (by omega)) (fun _ => ⟨ar_in, br_f (ar_n (hb i (by omega))) (nm_r (nI_1 i) (ih (i + 1) (by omega)))⟩)
  exact ⟨_, key w 0 (by omega)⟩
theorem yf_none (W t rs : Nat) (st nd np no nm ask : Int32) (knd dur pri ovl mis nex prd sets sta los msd mnw wai wdu doi ens his fld : Nat → Int32) (hW : W ≤ 3) (hb : ∀ i, i < W → ¬ ens i = 0) (post : Int32 → Prop) (hp : post (-1)) : wpY_freeWorker post ((nI W), (nI t), (nI rs), st, nd, np, no, nm, ask, knd, dur, pri, ovl, mis, nex, prd, sets, sta, los, msd, mnw, wai, wdu, doi, ens, his, fld) := by
  have key : ∀ d i, i + d = W → wY_freeWorker_2 post (nI W) (nI t) (nI rs) st nd np no nm ask knd dur pri ovl mis nex prd sets sta los msd mnw wai wdu doi ens his fld (d + 1) (nI i) := by
    intro d
    induction d with
    | zero =>
      intro i hi
      exact pk_le W i (fun _ => hp) (fun z => absurd z (by omega))
    | succ d ih =>
      intro i hi
      exact pk_le W i (fun z => absurd z (by omega)) (fun _ => ⟨ar_in, br_f (ar_n (hb i (by omega))) (nm_r (nI_1 i) (ih (i + 1) (by omega)))⟩)
  exact ⟨_, key W 0 (by omega)⟩
def sh_f (a : Nat → Int32) (j n : Nat) : Nat → Int32 := fun p => if 3 * j ≤ p ∧ p < 3 * j + n then a (p + 1) else a p
theorem sh_1 (a : Nat → Int32) (j n : Nat) : ∀ q, q < n → sh_f a j n (3 * j + q) = a (3 * j + q + 1) := fun q hq => if_pos ⟨by omega, by omega⟩
theorem sh_2 (a : Nat → Int32) (j n : Nat) : ∀ p, (p < 3 * j ∨ 3 * j + n ≤ p) → sh_f a j n p = a p := fun p hp => if_neg (fun z => by omega)
theorem sh_e {a c : Nat → Int32} {j n : Nat} (h1 : ∀ q, q < n → c (3 * j + q) = a (3 * j + q + 1)) (h2 : ∀ p, (p < 3 * j ∨ 3 * j + n ≤ p) → c p = a p) : c = sh_f a j n := by
  funext p
  by_cases e : 3 * j ≤ p ∧ p < 3 * j + n
  · obtain ⟨q, rfl⟩ : ∃ q, p = 3 * j + q := ⟨p - 3 * j, by omega⟩
    rw [sh_1 a j n q (by omega)]
    exact h1 q (by omega)
  · rw [sh_2 a j n p (by omega)]
    exact h2 p (by omega)
def hs_f (a : Nat → Int32) (x y z : Int32) : Nat → Int32 := fun m => if m = 0 then x else if m = 1 then y else if m = 2 then z else if m < 48 then a (m - 3) else a m
theorem yn_note (W t rs : Nat) (st nd np no nm ask : Int32) (knd dur pri ovl mis nex prd sets sta los msd mnw wai wdu doi ens his fld : Nat → Int32) (x y : Int32) (post : SY → Prop) (h : post ((nI W), (nI t), (nI (rs + 1)), st, nd, np, no, nm, ask, knd, dur, pri, ovl, mis, nex, prd, sets, sta, los, msd, mnw, wai, wdu, doi, ens, (hs_f his x (nI t) y), fld)) : wpY_note post ((nI W), (nI t), (nI rs), st, nd, np, no, nm, ask, knd, dur, pri, ovl, mis, nex, prd, sets, sta, los, msd, mnw, wai, wdu, doi, ens, his, fld) x y := by
  have key : ∀ d cur, d + 2 ≤ 47 → (∀ m, d + 2 < m → m < 48 → cur m = his (m - 3)) → (∀ m, (m ≤ d + 2 ∨ 48 ≤ m) → cur m = his m) → wY_note_3 post x y (nI W) (nI t) (nI rs) st nd np no nm ask (d + 1) (nI (d + 2)) knd dur pri ovl mis nex prd sets sta los msd mnw wai wdu doi ens cur fld := by
    intro d
    induction d with
    | zero =>
      intro cur hd h1 h2
      have ef : upd (upd (upd cur 0 x) 1 (nI t)) 2 y = hs_f his x (nI t) y := by
        funext m
        unfold hs_f
        by_cases m0 : m = 0
        · rw [if_pos m0, m0, pk_un (by omega), pk_un (by omega), pk_us]
        by_cases m1 : m = 1
        · rw [if_neg m0, if_pos m1, m1, pk_un (by omega), pk_us]
        by_cases m2 : m = 2
        · rw [if_neg m0, if_neg m1, if_pos m2, m2, pk_us]
        rw [if_neg m0, if_neg m1, if_neg m2, pk_un m2, pk_un m1, pk_un m0]
        by_cases m4 : m < 48
        · rw [if_pos m4]; exact h1 m (by omega) m4
        · rw [if_neg m4]; exact h2 m (by omega)
      refine pk_le 2 2 (fun _ => nm_e (nm_e (nm_r ef (nm_r (nI_1 rs) h)))) (fun z => absurd z (by omega)) (by rfl)
    | succ d ih =>
      intro cur hd h1 h2
      have e3 : nI (d + 1 + 2) - 3 = nI d := by
        show nI (d + 1 + 2) - nI 3 = _
        rw [pk_sub (by omega)]
        exact congrArg nI (by omega)
      have eu : upd cur (nI (d + 1 + 2)).toNatClampNeg (cur (nI (d + 1 + 2) - 3).toNatClampNeg) = upd cur (d + 3) (cur d) := by
        rw [e3, ar_k, ar_k]
      refine pk_le (d + 1 + 2) 2 (fun z => absurd z (by omega)) (fun _ => ⟨by rw [e3]; exact ar_in, ar_in, nm_r eu (nm_r (pk_m1 (d + 2)) (ih _ (by omega) ?_ ?_))⟩)
      · intro m m1 m2
        by_cases e : m = d + 3
        · rw [e, pk_us, h2 d (Or.inl (by omega))]
          exact congrArg his (by omega)
        · rw [pk_un e]
          exact h1 m (by omega) m2
      · intro m m1
        rw [pk_un (by omega)]
        exact h2 m (by omega)
  exact ⟨_, key 45 his (by omega) (fun m m1 m2 => absurd m1 (by omega)) (fun m _ => rfl)⟩
theorem yh_shift (W t rs : Nat) (st nd np no nm ask : Int32) (knd dur pri ovl mis nex prd sets sta los msd mnw wai wdu doi ens his fld : Nat → Int32) (j n : Nat) (hj : j < 12) (hn : n ≤ 2) (en : wai j = nI n) (post : SY → Prop) (J : Int32 → Int32 → Int32 → Int32 → Int32 → Int32 → Int32 → Int32 → Int32 → (Nat → Int32) → (Nat → Int32) → (Nat → Int32) → (Nat → Int32) → (Nat → Int32) → (Nat → Int32) → (Nat → Int32) → (Nat → Int32) → (Nat → Int32) → (Nat → Int32) → (Nat → Int32) → (Nat → Int32) → (Nat → Int32) → (Nat → Int32) → (Nat → Int32) → (Nat → Int32) → (Nat → Int32) → (Nat → Int32) → Prop) (h : J (nI W) (nI t) (nI rs) st nd np no nm ask knd dur pri ovl mis nex prd sets sta los msd mnw wai (sh_f wdu j n) doi ens his fld) : ∃ m, wY_start_109 post J (nI j) (nI W) (nI t) (nI rs) st nd np no nm ask m (nI (3 * j)) knd dur pri ovl mis nex prd sets sta los msd mnw wai wdu doi ens his fld := by
  have eb : 3 * nI j + wai (nI j).toNatClampNeg = nI (3 * j + n) := by rw [ar_k, en, ar_3x, nI_add]
  have key : ∀ d i cur, i + d = n → (∀ q, q < i → cur (3 * j + q) = wdu (3 * j + q + 1)) → (∀ p, (p < 3 * j ∨ 3 * j + i ≤ p) → cur p = wdu p) → wY_start_109 post J (nI j) (nI W) (nI t) (nI rs) st nd np no nm ask (d + 1) (nI (3 * j + i)) knd dur pri ovl mis nex prd sets sta los msd mnw wai cur doi ens his fld := by
    intro d
    induction d with
    | zero =>
      intro i cur hi h1 h2
      have hi' : i = n := by omega
      subst hi'
      exact And.intro ar_in (pk_le (3 * j + i) (3 * j + i) (fun _ => by rw [sh_e h1 h2]; exact h) (fun z => absurd z (by omega)) eb rfl)
    | succ d ih =>
      intro i cur hi h1 h2
      have eu : upd cur (nI (3 * j + i)).toNatClampNeg (cur (nI (3 * j + i) + 1).toNatClampNeg) = upd cur (3 * j + i) (cur (3 * j + i + 1)) := by
        rw [nI_1, ar_k, ar_k]
      refine And.intro ar_in (pk_le (3 * j + n) (3 * j + i) (fun z => absurd z (by omega)) (fun _ => ⟨by rw [nI_1]; exact ar_in, ar_in, nm_r eu (nm_r (nI_1 (3 * j + i)) (ih (i + 1) _ (by omega) ?_ ?_))⟩) eb rfl)
      · refine lt_s (fun q hq => ?_) ?_
        · rw [pk_un (by omega)]
          exact h1 q hq
        · rw [pk_us]
          exact h2 _ (by omega)
      · intro p hp
        rw [pk_un (by omega)]
        exact h2 p (by omega)
  exact ⟨_, key n 0 wdu (by omega) (fun q hq => absurd hq (by omega)) (fun p _ => rfl)⟩
theorem xs_take (W t rs : Nat) (st nd np no nm : Int32) (made kin dur pri ovl mis per mnt hrs day mon wkd nxt sta los msd mss wai req bsy wjb wen kjb kst kdu : Nat → Int32) (j : Nat) (hj : j < 12) (post : Int32 → SX → Prop) (h : post (req (3 * j)) ((nI W), (nI t), st, (nI rs), nd, np, no, nm, made, kin, dur, pri, ovl, mis, per, mnt, hrs, day, mon, wkd, nxt, sta, los, msd, mss, (upd wai j (wai j - 1)), (sh_f req j 2), bsy, wjb, wen, kjb, kst, kdu)) : wpX_takeEarliestRequest post ((nI W), (nI t), st, (nI rs), nd, np, no, nm, made, kin, dur, pri, ovl, mis, per, mnt, hrs, day, mon, wkd, nxt, sta, los, msd, mss, wai, req, bsy, wjb, wen, kjb, kst, kdu) (nI j) := by
  have eb : nI (3 * j) + 3 - 1 = nI (3 * j + 2) := by
    show nI (3 * j) + nI 3 - nI 1 = _
    rw [nI_add, pk_sub (by omega)]
    exact congrArg nI (by omega)
  have key : ∀ d i cur, i + d = 2 → (∀ q, q < i → cur (3 * j + q) = req (3 * j + q + 1)) → (∀ p, (p < 3 * j ∨ 3 * j + i ≤ p) → cur p = req p) → wX_takeEarliestRequest_14 post (nI j) (nI (3 * j)) (req (3 * j)) (nI W) (nI t) st (nI rs) nd np no nm (d + 1) (nI (3 * j + i)) made kin dur pri ovl mis per mnt hrs day mon wkd nxt sta los msd mss wai cur bsy wjb wen kjb kst kdu := by
    intro d
    induction d with
    | zero =>
      intro i cur hi h1 h2
      have hi' : i = 2 := by omega
      subst hi'
      have ew : upd wai (nI j).toNatClampNeg (wai (nI j).toNatClampNeg - 1) = upd wai j (wai j - 1) := by rw [ar_k]
      exact pk_le (3 * j + 2) (3 * j + 2) (fun _ => ⟨ar_in, ar_in, nm_r ew (by rw [sh_e h1 h2]; exact h)⟩) (fun z => absurd z (by omega)) eb rfl
    | succ d ih =>
      intro i cur hi h1 h2
      have eu : upd cur (nI (3 * j + i)).toNatClampNeg (cur (nI (3 * j + i) + 1).toNatClampNeg) = upd cur (3 * j + i) (cur (3 * j + i + 1)) := by
        rw [nI_1, ar_k, ar_k]
      refine pk_le (3 * j + 2) (3 * j + i) (fun z => absurd z (by omega)) (fun _ => ⟨by rw [nI_1]; exact ar_in, ar_in, nm_r eu (nm_r (nI_1 (3 * j + i)) (ih (i + 1) _ (by omega) ?_ ?_))⟩) eb rfl
      · refine lt_s (fun q hq => ?_) ?_
        · rw [pk_un (by omega)]
          exact h1 q hq
        · rw [pk_us]
          exact h2 _ (by omega)
      · intro p hp
        rw [pk_un (by omega)]
        exact h2 p (by omega)
  exact nm_r (ar_x3 j) ⟨ar_in, nm_r ar_cl ⟨_, key 2 0 req (by omega) (fun q hq => absurd hq (by omega)) (fun p _ => rfl)⟩⟩
theorem xs_start (W t rs : Nat) (st nd np no nm : Int32) (made kin dur pri ovl mis per mnt hrs day mon wkd nxt sta los msd mss wai req bsy wjb wen kjb kst kdu : Nat → Int32) (w j dd : Nat) (hw : w < 3) (hj : j < 12) (hrs' : rs < 2147483647) (hdd : dur j = nI dd) (post : SX → Prop) (h : post ((nI W), (nI t), st, (nI (rs + 1)), nd, np, no, nm, made, kin, dur, pri, ovl, mis, per, mnt, hrs, day, mon, wkd, nxt, (upd sta j (sta j + 1)), los, msd, mss, (upd wai j (wai j - 1)), (sh_f req j 2), (upd bsy w 1), (upd wjb w (nI j)), (upd wen w (nI (t + dd))), (upd kjb (rs % 16) (nI j)), (upd kst (rs % 16) (nI t)), (upd kdu (rs % 16) (req (3 * j))))) : wpX_startRun post ((nI W), (nI t), st, (nI rs), nd, np, no, nm, made, kin, dur, pri, ovl, mis, per, mnt, hrs, day, mon, wkd, nxt, sta, los, msd, mss, wai, req, bsy, wjb, wen, kjb, kst, kdu) (nI w) (nI j) := by
  have e16 : nI rs - nI rs / 16 * 16 = nI (rs % 16) := ar_rem (d := 16) (by omega) (by omega) (by omega)
  have hm : rs % 16 < 16 := Nat.mod_lt _ (by omega)
  have es : upd sta (nI j).toNatClampNeg (sta (nI j).toNatClampNeg + 1) = upd sta j (sta j + 1) := by rw [ar_k]
  have ee : upd wen (nI w).toNatClampNeg (nI t + dur (nI j).toNatClampNeg) = upd wen w (nI (t + dd)) := by rw [ar_k, ar_k, hdd, nI_add]
  exact And.intro (by decide) (nm_r e16 ⟨ar_in, nm_r ar_u ⟨ar_in, nm_r ar_u (xs_take _ _ _ _ _ _ _ _ _ _ _ _ _ _ _ _ _ _ _ _ _ _ _ _ _ _ _ _ _ _ _ _ _ j hj _ ⟨ar_in, nm_r ar_u (nm_r (nI_1 rs) ⟨ar_in, ar_in, nm_r es ⟨ar_in, nm_r ar_ub1 ⟨ar_in, nm_r ar_u ⟨ar_in, ar_in, nm_r ee h⟩⟩⟩⟩)⟩)⟩⟩)
/-- the fields array, as read leaves it -/
def fd_f (s : Nat) (fld : Nat → Int32) (i : Nat) : Nat → Int32 := fun k => if k < i then ca_f s k else fld k
theorem fd_F (s : Nat) (fld : Nat → Int32) : ca_F s (fd_f s fld 5) := fun k hk => if_pos hk
theorem yr_read2 (W t rs : Nat) (st nd np no nm ask : Int32) (knd dur pri ovl mis nex prd sets sta los msd mnw wai wdu doi ens his fld : Nat → Int32) (s : Nat) (hs : s < 2147483648) (post : SY → Prop) (h : post ((nI W), (nI t), (nI rs), st, nd, np, no, nm, ask, knd, dur, pri, ovl, mis, nex, prd, sets, sta, los, msd, mnw, wai, wdu, doi, ens, his, (fd_f s fld 5))) : wpY_read post ((nI W), (nI t), (nI rs), st, nd, np, no, nm, ask, knd, dur, pri, ovl, mis, nex, prd, sets, sta, los, msd, mnw, wai, wdu, doi, ens, his, fld) (nI s) := by
  have key : ∀ d i, i + d = 5 → wY_read_2 post (nI s) (nI W) (nI t) (nI rs) st nd np no nm ask (d + 1) (nI i) knd dur pri ovl mis nex prd sets sta los msd mnw wai wdu doi ens his (fd_f s fld i) := by
    intro d
    induction d with
    | zero =>
      intro i hi
      have hi' : i = 5 := by omega
      subst hi'
      exact pk_le 5 5 (fun _ => h) (fun h => absurd h (by omega))
    | succ d ih =>
      intro i hi
      have eu : upd (fd_f s fld i) (nI i).toNatClampNeg (ca_f s i) = fd_f s fld (i + 1) := by
        rw [ar_k]
        funext k
        by_cases e : k = i
        · rw [e, pk_us]; exact (if_pos (by omega)).symm
        · rw [pk_un e]
          unfold fd_f
          by_cases e2 : k < i
          · rw [if_pos e2, if_pos (by omega)]
          · rw [if_neg e2, if_neg (by omega)]
      exact pk_le 5 i (fun h => absurd h (by omega)) (fun hh => yr_field s i hs (by omega) _ ⟨ar_in, nm_r eu (nm_r (nI_1 i) (ih (i + 1) (by omega)))⟩)
  exact ⟨6, key 5 0 rfl⟩
end
section
theorem hs_3 (a : Nat → Int32) (x y z : Int32) (m : Nat) (m1 : 3 ≤ m) (m2 : m < 48) : hs_f a x y z m = a (m - 3) := by
  unfold hs_f
  rw [if_neg (by omega), if_neg (by omega), if_neg (by omega), if_pos m2]
def st_H (b : Nat → Nat) (W t rs : Nat) (st nd np no nm ask : Int32) (made kin dur pri ovl mis per mnt hrs day mon wkd nxt sta los msd mss wai req bsy wjb wen kjb kst kdu knd nex prd sets mnw wdu doi ens his fld : Nat → Int32) : Prop := rl_J b st made kin mis dur per mnt hrs day mon wkd nxt mss knd nex prd sets mnw wai ∧ rl_W 3 t W bsy wjb wen doi ens ∧ rl_Q wai req wdu ∧ ask = rl_S wai 12 ∧ rl_H rs kjb kst kdu his ∧ rl_T rs sta
theorem rl_jw {b : Nat} {st ma ki mi du pe mt hr dy mo wd nx ms kn ne pr s0 s1 s2 s3 s4 mn wa : Int32} (h : rl_j b st ma ki mi du pe mt hr dy mo wd nx ms kn ne pr s0 s1 s2 s3 s4 mn wa) (e : ¬ wa = 0) (wa' : Int32) : (∃ d, du = nI d ∧ 1 ≤ d ∧ d ≤ 200) ∧ rl_j b st ma ki mi du pe mt hr dy mo wd nx ms kn ne pr s0 s1 s2 s3 s4 mn wa' := by
  rcases h with ⟨_, _, h⟩ | h
  · exact absurd h e
  · exact ⟨h.2.2.2.2.2.2.1, Or.inr h⟩
theorem st_rel (W t rs : Nat) (st nd np no nm ask : Int32) (made kin dur pri ovl mis per mnt hrs day mon wkd nxt sta los msd mss wai req bsy wjb wen kjb kst kdu knd nex prd sets mnw wdu doi ens his fld : Nat → Int32) (b : Nat → Nat) (hW : W ≤ 3) (ht : t ≤ 1000000) (h : st_H b W t rs st nd np no nm ask made kin dur pri ovl mis per mnt hrs day mon wkd nxt sta los msd mss wai req bsy wjb wen kjb kst kdu knd nex prd sets mnw wdu doi ens his fld) (w j n dd : Nat) (hw : w < W) (hj : j < 12) (hbw : bsy w = 0) (en : wai j = nI (n + 1)) (hn : n + 1 ≤ 3) (hdd : dur j = nI dd) (hd1 : 1 ≤ dd) (hd2 : dd ≤ 200) (req' wdu' his' : Nat → Int32) (r1 : ∀ q, q < 2 → req' (3 * j + q) = req (3 * j + q + 1)) (r2 : ∀ p, (p < 3 * j ∨ 3 * j + 3 ≤ p) → req' p = req p) (w1 : ∀ q, q < n → wdu' (3 * j + q) = wdu (3 * j + q + 1)) (w2 : ∀ p, (p < 3 * j ∨ 3 * j + n ≤ p) → wdu' p = wdu p) (s0 : his' 0 = nI j) (s1 : his' 1 = nI t) (s2 : his' 2 = wdu (3 * j)) (s3 : ∀ m, 3 ≤ m → m < 48 → his' m = his (m - 3)) : st_H b W t (rs + 1) st nd np no nm (ask - 1) made kin dur pri ovl mis per mnt hrs day mon wkd nxt (upd sta j (sta j + 1)) los msd mss (upd wai j (wai j - 1)) req' (upd bsy w 1) (upd wjb w (nI j)) (upd wen w (nI (t + dd))) (upd kjb (rs % 16) (nI j)) (upd kst (rs % 16) (nI t)) (upd kdu (rs % 16) (req (3 * j))) knd nex prd sets mnw wdu' (upd doi w (nI j)) (upd ens w (nI (t + dd))) his' fld := by
  obtain ⟨hJ, hK, hQ, hA, hH, hT⟩ := h
  have ew : wai j - 1 = nI n := by rw [en]; exact nI_pred n
  refine ⟨?_, ?_, ?_, ?_, ?_, ?_⟩
  · intro i hi
    by_cases e : i = j
    · subst e
      exact (rl_jw (hJ i hi) (by rw [en]; exact nI_ne0 (by omega) (by omega)) _).2
    · rw [pk_un e]
      exact hJ i hi
  · intro i hi
    by_cases e : i = w
    · subst e
      exact Or.inr ⟨pk_us, hw, ⟨t + dd, pk_us, pk_us, by omega, fun _ => by omega, by omega, by omega⟩, by rw [pk_us, pk_us], Or.inr ⟨j, hj, pk_us⟩⟩
    · simp only [pk_un e]
      exact hK i hi
  · intro i hi
    by_cases e : i = j
    · subst e
      rw [pk_us, ew]
      refine ⟨n, rfl, by omega, fun q hq => ?_⟩
      obtain ⟨m, em, _, hq2⟩ := hQ i hi
      rw [en] at em
      have := ar_eq em
      rw [r1 q (by omega), w1 q hq]
      exact hq2 (q + 1) (by omega)
    · rw [pk_un e]
      obtain ⟨m, em, hm, hq2⟩ := hQ i hi
      refine ⟨m, em, hm, fun q hq => ?_⟩
      rw [r2 _ (by omega), w2 _ (by omega)]
      exact hq2 q hq
  · rw [rl_Su, if_pos hj, hA]
    grind
  · intro k hk hk2
    have e1 : rs + 1 - 1 - k = rs - k := by omega
    rw [e1]
    rcases Nat.eq_zero_or_pos k with rfl | hk0
    · rw [show (rs - 0) % 16 = rs % 16 by rw [Nat.sub_zero], pk_us, pk_us, pk_us]
      refine ⟨s0, s1, ?_⟩
      obtain ⟨m, em, _, hq2⟩ := hQ j hj
      rw [en] at em
      have := ar_eq em
      show his' 2 = _
      rw [s2]
      exact (hq2 0 (by omega)).symm
    · obtain ⟨g0, g1, g2⟩ := hH (k - 1) (by omega) (by omega)
      have ne : (rs - k) % 16 ≠ rs % 16 := by omega
      have e2 : rs - 1 - (k - 1) = rs - k := by omega
      rw [e2] at g0 g1 g2
      rw [pk_un ne, pk_un ne, pk_un ne, s3 _ (by omega) (by omega), s3 _ (by omega) (by omega), s3 _ (by omega) (by omega), ← g0, ← g1, ← g2]
      exact ⟨congrArg his (by omega), congrArg his (by omega), congrArg his (by omega)⟩
  · intro i hi
    obtain ⟨m, em, hm⟩ := hT i hi
    by_cases e : i = j
    · subst e
      rw [pk_us, em]
      exact ⟨m + 1, nI_1 m, by omega⟩
    · rw [pk_un e]
      exact ⟨m, em, by omega⟩
theorem ys_step (W t rs : Nat) (st nd np no nm ask : Int32) (knd dur pri ovl mis nex prd sets sta los msd mnw wai wdu doi ens his fld : Nat → Int32) (hW : W ≤ 3) (w j n dd N : Nat) (hw : w < W) (hj : j < 12) (hb : ∀ i, i < w → ¬ ens i = 0) (he : ens w = 0) (hst : st = 0) (hask : ¬ ask ≤ 0) (en : wai j = nI (n + 1)) (hn : n ≤ 2) (hdd : dur j = nI dd) (hf : ∀ post : Int32 → Prop, post (nI j) → wpY_first post ((nI W), (nI t), (nI rs), st, nd, np, no, nm, ask, knd, dur, pri, ovl, mis, nex, prd, sets, sta, los, msd, mnw, wai, wdu, doi, ens, his, fld)) (post : SY → Prop) (h : wY_start_0 post N (nI W) (nI t) (nI (rs + 1)) st nd np no nm (ask - 1) knd dur pri ovl mis nex prd sets (upd sta j (sta j + 1)) los msd mnw (upd wai j (wai j - 1)) (sh_f wdu j n) (upd doi w (nI j)) (upd ens w (nI (t + dd))) (hs_f his (nI j) (nI t) (wdu (3 * j))) fld) : wY_start_0 post (N + 1) (nI W) (nI t) (nI rs) st nd np no nm ask knd dur pri ovl mis nex prd sets sta los msd mnw wai wdu doi ens his fld := by
  have k3 : (3 * nI j).toNatClampNeg = 3 * j := by rw [ar_3x]; exact ar_k
  have es : upd sta (nI j).toNatClampNeg (sta (nI j).toNatClampNeg + 1) = upd sta j (sta j + 1) := by rw [ar_k]
  have ew : upd wai (nI j).toNatClampNeg (wai (nI j).toNatClampNeg - 1) = upd wai j (wai j - 1) := by rw [ar_k]
  have ee : upd ens (nI w).toNatClampNeg (nI t + dur (nI j).toNatClampNeg) = upd ens w (nI (t + dd)) := by rw [ar_k, ar_k, hdd, nI_add]
  have en2 : upd wai j (wai j - 1) j = nI n := by rw [pk_us, en]; exact nI_pred n
  have pw : ¬ nI w < 0 := nI_pos (by omega)
  have pj : ¬ nI j < 0 := nI_pos (by omega)
  refine br_t hst (br_f hask (yf_free _ _ _ _ _ _ _ _ _ _ _ _ _ _ _ _ _ _ _ _ _ _ _ _ _ _ _ hW w hw hb he _ (br_f pw (hf _ (br_f pj (yf_free _ _ _ _ _ _ _ _ _ _ _ _ _ _ _ _ _ _ _ _ _ _ _ _ _ _ _ hW w hw hb he _ (hf _ ⟨ar_in, nm_r ar_u ⟨ar_in, ar_in, nm_r ee ⟨ar_in, ar_in, nm_r es ⟨by rw [ar_3x]; exact ar_in, ?_⟩⟩⟩⟩)))))))
  rw [k3]
  exact yn_note _ _ _ _ _ _ _ _ _ _ _ _ _ _ _ _ _ _ _ _ _ _ _ _ _ _ _ (nI j) (wdu (3 * j)) _ ⟨ar_in, ar_in, nm_r ew (nm_e (nm_r (ar_3x j) (yh_shift _ _ _ _ _ _ _ _ _ _ _ _ _ _ _ _ _ _ _ _ _ _ _ _ _ _ _ j n hj hn en2 post _ h)))⟩
theorem st_loop (W t : Nat) (st nd np no nm : Int32) (made kin dur pri ovl mis per mnt hrs day mon wkd nxt los msd mss : Nat → Int32) (knd nex prd sets mnw fld : Nat → Int32) (b : Nat → Nat) (hW : W ≤ 3) (ht : t ≤ 1000000) (hst : st = 0) : ∀ d w, w + d = W → ∀ (rs : Nat) (ask : Int32) (sta wai req bsy wjb wen kjb kst kdu wdu doi ens his : Nat → Int32), st_H b W t rs st nd np no nm ask made kin dur pri ovl mis per mnt hrs day mon wkd nxt sta los msd mss wai req bsy wjb wen kjb kst kdu knd nex prd sets mnw wdu doi ens his fld → (∀ i, i < w → ¬ bsy i = 0) → rs + d ≤ 10000000 → ∃ (rs' : Nat) (ask' : Int32) (sta' wai' req' bsy' wjb' wen' kjb' kst' kdu' wdu' doi' ens' his' : Nat → Int32), st_H b W t rs' st nd np no nm ask' made kin dur pri ovl mis per mnt hrs day mon wkd nxt sta' los msd mss wai' req' bsy' wjb' wen' kjb' kst' kdu' knd nex prd sets mnw wdu' doi' ens' his' fld ∧ rs' ≤ rs + d ∧ (∀ p, p < 12 → (sta' p = sta p ∧ wai' p = wai p) ∨ (¬ hp_P bsy wjb (nI p) ∧ sta' p = sta p + 1 ∧ wai' p = wai p - 1)) ∧  (∀ post : SX → Prop, post ((nI W), (nI t), st, (nI rs'), nd, np, no, nm, made, kin, dur, pri, ovl, mis, per, mnt, hrs, day, mon, wkd, nxt, sta', los, msd, mss, wai', req', bsy', wjb', wen', kjb', kst', kdu') → wX_startRuns_10 post (d + 1) (nI w) (nI W) (nI t) st (nI rs) nd np no nm made kin dur pri ovl mis per mnt hrs day mon wkd nxt sta los msd mss wai req bsy wjb wen kjb kst kdu) ∧ (∀ (post : SY → Prop) (n : Nat), d < n → post ((nI W), (nI t), (nI rs'), st, nd, np, no, nm, ask', knd, dur, pri, ovl, mis, nex, prd, sets, sta', los, msd, mnw, wai', wdu', doi', ens', his', fld) → wY_start_0 post n (nI W) (nI t) (nI rs) st nd np no nm ask knd dur pri ovl mis nex prd sets sta los msd mnw wai wdu doi ens his fld) := by
  intro d
  induction d with
  | zero =>
    intro w hwd rs ask sta wai req bsy wjb wen kjb kst kdu wdu doi ens his h hb hr
    refine ⟨rs, ask, sta, wai, req, bsy, wjb, wen, kjb, kst, kdu, wdu, doi, ens, his, h, by omega, fun p hp => Or.inl ⟨rfl, rfl⟩, fun post hp => pk_le W w (fun _ => hp) (fun z => absurd z (by omega)), fun post n hn hp => ?_⟩
    obtain ⟨N, rfl⟩ : ∃ N, n = N + 1 := ⟨n - 1, by omega⟩
    have hE : ∀ i, i < W → ¬ ens i = 0 := by
      intro i hi
      rcases h.2.1 i (by omega) with ⟨g, _⟩ | ⟨_, _, ⟨e, e1, _, _, _, e5, e6⟩, _⟩
      · exact absurd g (hb i (by omega))
      · rw [e1]; exact nI_ne0 (by omega) (by omega)
    exact br_t hst (br_c (fun _ => hp) (fun _ => yf_none _ _ _ _ _ _ _ _ _ _ _ _ _ _ _ _ _ _ _ _ _ _ _ _ _ _ _ hW hE _ (br_t (by decide) hp)))
  | succ d ih =>
    intro w hwd rs ask sta wai req bsy wjb wen kjb kst kdu wdu doi ens his h hb hr
    by_cases hbw : bsy w = 0
    · obtain ⟨hJ, hK, hQ, hA, hH, hT⟩ := id h
      have hE : ∀ i, i < w → ¬ ens i = 0 := by
        intro i hi
        rcases hK i (by omega) with ⟨g, _⟩ | ⟨_, _, ⟨e, e1, _, _, _, e5, e6⟩, _⟩
        · exact absurd g (hb i (by omega))
        · rw [e1]; exact nI_ne0 (by omega) (by omega)
      have hEw : ens w = 0 := by
        rcases hK w (by omega) with ⟨_, g⟩ | ⟨g, _⟩
        · exact g
        · rw [g] at hbw; exact absurd hbw (by decide)
      obtain ⟨r, hr2, gx, gy⟩ := sm_first W t rs st nd np no nm ask made kin dur pri ovl mis per mnt hrs day mon wkd nxt sta los msd mss wai req bsy wjb wen kjb kst kdu knd nex prd sets mnw wdu doi ens his fld hW hK hQ
      rcases hr2 with rfl | ⟨j, hj, rfl, hP, n, en, hn⟩
      · refine ⟨rs, ask, sta, wai, req, bsy, wjb, wen, kjb, kst, kdu, wdu, doi, ens, his, h, by omega, fun p hp => Or.inl ⟨rfl, rfl⟩, fun post hp => pk_le W w (fun z => absurd z (by omega)) (fun _ => ⟨ar_in, br_t (ar_c hbw) (gx _ (br_t rfl hp))⟩), fun post n hn hp => ?_⟩
        obtain ⟨N, rfl⟩ : ∃ N, n = N + 1 := ⟨n - 1, by omega⟩
        exact br_t hst (br_c (fun _ => hp) (fun _ => yf_free _ _ _ _ _ _ _ _ _ _ _ _ _ _ _ _ _ _ _ _ _ _ _ _ _ _ _ hW w (by omega) hE hEw _ (br_f (nI_pos (by omega)) (gy _ (br_t (by decide) hp)))))
      · have nw : ¬ wai j = 0 := by rw [en]; exact nI_ne0 (by omega) (by omega)
        obtain ⟨⟨dd, hdd, hd1, hd2⟩, _⟩ := rl_jw (hJ j hj) nw 0
        have hask : ¬ ask ≤ 0 := by
          obtain ⟨s, e1, e2, e3⟩ := rl_Sp hQ 12 (by omega)
          have := e3 j hj (n + 1) hn en
          rw [hA, e1]
          exact nI_nle (by omega) (by omega)
        have h2 := st_rel W t rs st nd np no nm ask made kin dur pri ovl mis per mnt hrs day mon wkd nxt sta los msd mss wai req bsy wjb wen kjb kst kdu knd nex prd sets mnw wdu doi ens his fld b hW ht h w j n dd (by omega) hj hbw en hn hdd hd1 hd2 (sh_f req j 2) (sh_f wdu j n) (hs_f his (nI j) (nI t) (wdu (3 * j))) (sh_1 req j 2) (fun p hp => sh_2 req j 2 p (by omega)) (sh_1 wdu j n) (sh_2 wdu j n) rfl rfl rfl (fun m m1 m2 => hs_3 his _ _ _ m m1 m2)
        have hb2 : ∀ i, i < w + 1 → ¬ upd bsy w 1 i = 0 := by
          refine lt_s (fun i hi => ?_) (by rw [pk_us]; decide)
          rw [pk_un (by omega)]
          exact hb i hi
        obtain ⟨rs', ask', sta', wai', req', bsy', wjb', wen', kjb', kst', kdu', wdu', doi', ens', his', q1, q2, q3, q4, q5⟩ := ih (w + 1) (by omega) _ _ _ _ _ _ _ _ _ _ _ _ _ _ _ h2 hb2 (by omega)
        refine ⟨rs', ask', sta', wai', req', bsy', wjb', wen', kjb', kst', kdu', wdu', doi', ens', his', q1, by omega, ?_, fun post hp => pk_le W w (fun z => absurd z (by omega)) (fun _ => ⟨ar_in, br_t (ar_c hbw) (gx _ (br_f ar_ne1 (xs_start _ _ _ _ _ _ _ _ _ _ _ _ _ _ _ _ _ _ _ _ _ _ _ _ _ _ _ _ _ _ _ _ _ w j dd (by omega) hj (by omega) hdd _ (nm_r (nI_1 w) (q4 post hp)))))⟩), fun post n2 hn2 hp => ?_⟩
        · intro p hp
          by_cases e : p = j
          · subst e
            have pp : hp_P (upd bsy w 1) (upd wjb w (nI p)) (nI p) := ⟨w, by omega, by rw [pk_us]; decide, pk_us⟩
            rcases q3 p hp with ⟨a, c⟩ | ⟨a, _⟩
            · rw [pk_us] at a c
              exact Or.inr ⟨hP, a, c⟩
            · exact absurd pp a
          · have pp : hp_P bsy wjb (nI p) → hp_P (upd bsy w 1) (upd wjb w (nI j)) (nI p) := by
              rintro ⟨i, hi, c1, c2⟩
              have ne : i ≠ w := fun z => c1 (by rw [z]; exact hbw)
              exact ⟨i, hi, by rw [pk_un ne]; exact c1, by rw [pk_un ne]; exact c2⟩
            rcases q3 p hp with ⟨a, c⟩ | ⟨a, c, f⟩
            · rw [pk_un e] at a c
              exact Or.inl ⟨a, c⟩
            · rw [pk_un e] at c f
              exact Or.inr ⟨fun z => a (pp z), c, f⟩
        · obtain ⟨N, rfl⟩ : ∃ N, n2 = N + 1 := ⟨n2 - 1, by omega⟩
          exact ys_step _ _ _ _ _ _ _ _ _ _ _ _ _ _ _ _ _ _ _ _ _ _ _ _ _ _ _ hW w j n dd N (by omega) hj hE hEw hst hask en (by omega) hdd gy post (q5 post N (by omega) hp)
    · obtain ⟨rs', ask', sta', wai', req', bsy', wjb', wen', kjb', kst', kdu', wdu', doi', ens', his', q1, q2, q3, q4, q5⟩ := ih (w + 1) (by omega) rs ask sta wai req bsy wjb wen kjb kst kdu wdu doi ens his h (lt_s hb hbw) (by omega)
      exact ⟨rs', ask', sta', wai', req', bsy', wjb', wen', kjb', kst', kdu', wdu', doi', ens', his', q1, by omega, q3, fun post hp => pk_le W w (fun z => absurd z (by omega)) (fun _ => ⟨ar_in, br_f (ar_n hbw) (nm_r (nI_1 w) (q4 post hp))⟩), fun post n hn hp => q5 post n (by omega) hp⟩
theorem sm_start (W t rs : Nat) (st nd np no nm ask : Int32) (made kin dur pri ovl mis per mnt hrs day mon wkd nxt sta los msd mss wai req bsy wjb wen kjb kst kdu knd nex prd sets mnw wdu doi ens his fld : Nat → Int32) (b : Nat → Nat) (hW : W ≤ 3) (ht : t ≤ 1000000) (hst : st = 0 ∨ st = 1) (h : st_H b W t rs st nd np no nm ask made kin dur pri ovl mis per mnt hrs day mon wkd nxt sta los msd mss wai req bsy wjb wen kjb kst kdu knd nex prd sets mnw wdu doi ens his fld) (hr : rs ≤ 9999997) : ∃ (rs' : Nat) (ask' : Int32) (sta' wai' req' bsy' wjb' wen' kjb' kst' kdu' wdu' doi' ens' his' : Nat → Int32), st_H b W t rs' st nd np no nm ask' made kin dur pri ovl mis per mnt hrs day mon wkd nxt sta' los msd mss wai' req' bsy' wjb' wen' kjb' kst' kdu' knd nex prd sets mnw wdu' doi' ens' his' fld ∧ rs' ≤ rs + 3 ∧ (∀ p, p < 12 → (sta' p = sta p ∧ wai' p = wai p) ∨ (¬ hp_P bsy wjb (nI p) ∧ sta' p = sta p + 1 ∧ wai' p = wai p - 1)) ∧  (∀ post : SX → Prop, post ((nI W), (nI t), st, (nI rs'), nd, np, no, nm, made, kin, dur, pri, ovl, mis, per, mnt, hrs, day, mon, wkd, nxt, sta', los, msd, mss, wai', req', bsy', wjb', wen', kjb', kst', kdu') → wpX_startRuns post ((nI W), (nI t), st, (nI rs), nd, np, no, nm, made, kin, dur, pri, ovl, mis, per, mnt, hrs, day, mon, wkd, nxt, sta, los, msd, mss, wai, req, bsy, wjb, wen, kjb, kst, kdu)) ∧ (∀ post : SY → Prop, post ((nI W), (nI t), (nI rs'), st, nd, np, no, nm, ask', knd, dur, pri, ovl, mis, nex, prd, sets, sta', los, msd, mnw, wai', wdu', doi', ens', his', fld) → wpY_start post ((nI W), (nI t), (nI rs), st, nd, np, no, nm, ask, knd, dur, pri, ovl, mis, nex, prd, sets, sta, los, msd, mnw, wai, wdu, doi, ens, his, fld)) := by
  rcases hst with e | e
  · obtain ⟨rs', ask', sta', wai', req', bsy', wjb', wen', kjb', kst', kdu', wdu', doi', ens', his', q1, q2, q3, q4, q5⟩ := st_loop W t st nd np no nm made kin dur pri ovl mis per mnt hrs day mon wkd nxt los msd mss knd nex prd sets mnw fld b hW ht e W 0 (by omega) rs ask sta wai req bsy wjb wen kjb kst kdu wdu doi ens his h (fun i hi => absurd hi (by omega)) (by omega)
    exact ⟨rs', ask', sta', wai', req', bsy', wjb', wen', kjb', kst', kdu', wdu', doi', ens', his', q1, by omega, q3, fun post hp => br_t e ⟨_, q4 post hp⟩, fun post hp => ⟨W + 1, q5 post _ (by omega) hp⟩⟩
  · have ne : ¬ st = 0 := by rw [e]; decide
    exact ⟨rs, ask, sta, wai, req, bsy, wjb, wen, kjb, kst, kdu, wdu, doi, ens, his, h, by omega, fun p hp => Or.inl ⟨rfl, rfl⟩, fun post hp => br_f ne hp, fun post hp => ⟨1, br_f ne hp⟩⟩
end
section
theorem rl_jm {b : Nat} {st ma ki mi du pe mt hr dy mo wd nx ms kn ne pr s0 s1 s2 s3 s4 mn wa : Int32} (h : rl_j b st ma ki mi du pe mt hr dy mo wd nx ms kn ne pr s0 s1 s2 s3 s4 mn wa) (e : ¬ ma = 0) (wa' : Int32) : rl_j b st ma ki mi du pe mt hr dy mo wd nx ms kn ne pr s0 s1 s2 s3 s4 mn wa' := by
  rcases h with ⟨h, _⟩ | h
  · exact absurd h e
  · exact Or.inr h
theorem xa_add (W t rs : Nat) (st nd np no nm : Int32) (made kin dur pri ovl mis per mnt hrs day mon wkd nxt sta los msd mss wai req bsy wjb wen kjb kst kdu : Nat → Int32) (j n : Nat) (hj : j < 12) (en : wai j = nI n) (hn : n ≤ 3) (post : Int32 → SX → Prop) (h1 : n < 3 → post 1 ((nI W), (nI t), st, (nI rs), nd, np, no, nm, made, kin, dur, pri, ovl, mis, per, mnt, hrs, day, mon, wkd, nxt, sta, los, msd, mss, (upd wai j (wai j + 1)), (upd req (3 * j + n) (nI t)), bsy, wjb, wen, kjb, kst, kdu)) (h0 : n = 3 → post 0 ((nI W), (nI t), st, (nI rs), nd, np, no, nm, made, kin, dur, pri, ovl, mis, per, mnt, hrs, day, mon, wkd, nxt, sta, los, msd, mss, wai, req, bsy, wjb, wen, kjb, kst, kdu)) : wpX_addRequest post ((nI W), (nI t), st, (nI rs), nd, np, no, nm, made, kin, dur, pri, ovl, mis, per, mnt, hrs, day, mon, wkd, nxt, sta, los, msd, mss, wai, req, bsy, wjb, wen, kjb, kst, kdu) (nI j) := by
  have hk : (nI j).toNatClampNeg = j := ar_k
  have ei : nI j * 3 + wai (nI j).toNatClampNeg = nI (3 * j + n) := by rw [hk, en, ar_x3, nI_add]
  have ew : upd wai (nI j).toNatClampNeg (wai (nI j).toNatClampNeg + 1) = upd wai j (wai j + 1) := by rw [hk]
  exact And.intro ar_in (pk_lt n 3 (fun z => ⟨ar_in, by rw [ei]; exact ar_in, nm_r (ar_ue ei) ⟨ar_in, ar_in, nm_r ew (h1 z)⟩⟩) (fun z => h0 (by omega)) (by rw [hk]; exact en))
theorem ya_ask (W t rs : Nat) (st nd np no nm ask : Int32) (knd dur pri ovl mis nex prd sets sta los msd mnw wai wdu doi ens his fld : Nat → Int32) (j n : Nat) (hj : j < 12) (en : wai j = nI n) (hn : n < 3) (post : SY → Prop) (h : post ((nI W), (nI t), (nI rs), st, nd, np, no, nm, (ask + 1), knd, dur, pri, ovl, mis, nex, prd, sets, sta, los, msd, mnw, (upd wai j (wai j + 1)), (upd wdu (3 * j + n) (nI t)), doi, ens, his, fld)) : wpY_ask post ((nI W), (nI t), (nI rs), st, nd, np, no, nm, ask, knd, dur, pri, ovl, mis, nex, prd, sets, sta, los, msd, mnw, wai, wdu, doi, ens, his, fld) (nI j) := by
  have hk : (nI j).toNatClampNeg = j := ar_k
  have ei : 3 * nI j + wai (nI j).toNatClampNeg = nI (3 * j + n) := by rw [hk, en, ar_3x, nI_add]
  have ew : upd wai (nI j).toNatClampNeg (wai (nI j).toNatClampNeg + 1) = upd wai j (wai j + 1) := by rw [hk]
  exact And.intro ar_in ⟨by rw [ei]; exact ar_in, nm_r (ar_ue ei) ⟨ar_in, ar_in, nm_r ew (nm_e h)⟩⟩
theorem aq_rel (W t rs : Nat) (st nd np no nm ask : Int32) (made kin dur pri ovl mis per mnt hrs day mon wkd nxt sta los msd mss wai req bsy wjb wen kjb kst kdu knd nex prd sets mnw wdu doi ens his fld : Nat → Int32) (b : Nat → Nat) (h : st_H b W t rs st nd np no nm ask made kin dur pri ovl mis per mnt hrs day mon wkd nxt sta los msd mss wai req bsy wjb wen kjb kst kdu knd nex prd sets mnw wdu doi ens his fld) (j n : Nat) (hj : j < 12) (hm : ¬ made j = 0) (en : wai j = nI n) (hn : n < 3) (x : Int32) : st_H b W t rs st nd np no nm (ask + 1) made kin dur pri ovl mis per mnt hrs day mon wkd nxt sta los msd mss (upd wai j (wai j + 1)) (upd req (3 * j + n) x) bsy wjb wen kjb kst kdu knd nex prd sets mnw (upd wdu (3 * j + n) x) doi ens his fld := by
  obtain ⟨hJ, hK, hQ, hA, hH, hT⟩ := h
  refine ⟨?_, hK, ?_, ?_, hH, hT⟩
  · intro i hi
    by_cases e : i = j
    · subst e
      exact rl_jm (hJ i hi) hm _
    · rw [pk_un e]
      exact hJ i hi
  · intro i hi
    obtain ⟨m, em, hm3, hq⟩ := hQ i hi
    by_cases e : i = j
    · subst e
      rw [en] at em
      have := ar_eq em
      subst this
      rw [pk_us, en]
      refine ⟨n + 1, nI_1 n, by omega, ?_⟩
      refine lt_s (fun q hq2 => ?_) ?_
      · rw [pk_un (by omega), pk_un (by omega)]
        exact hq q hq2
      · rw [pk_us, pk_us]
    · rw [pk_un e]
      refine ⟨m, em, hm3, fun q hq2 => ?_⟩
      rw [pk_un (by omega), pk_un (by omega)]
      exact hq q hq2
  · rw [rl_Su, if_pos hj, hA]
    grind
theorem i_vc_request {k : Nat} {u : SX} {v : SY} (I : i_Rel k u v) (hk : k + 6 ≤ 3073) (v1 : Int32) : wpX_request (fun r u' => wpY_request (fun r' v' => r' = r ∧ i_Rel (k + 6) u' v') v v1) u v1 := by
  obtain ⟨W, t, rs, st, nd, np, no, nm, ask, made, kin, dur, pri, ovl, mis, per, mnt, hrs, day, mon, wkd, nxt, sta, los, msd, mss, wai, req, bsy, wjb, wen, kjb, kst, kdu, knd, nex, prd, sets, mnw, wdu, doi, ens, his, fld, rfl, rfl, h⟩ := I
  have h0 := rl_up W t rs st nd np no nm ask made kin dur pri ovl mis per mnt hrs day mon wkd nxt sta los msd mss wai req bsy wjb wen kjb kst kdu knd nex prd sets mnw wdu doi ens his fld (m := k + 6) (by omega) h
  have h' := rl_mk W t rs st nd np no nm ask made kin dur pri ovl mis per mnt hrs day mon wkd nxt sta los msd mss wai req bsy wjb wen kjb kst kdu knd nex prd sets mnw wdu doi ens his fld _ h0
  obtain ⟨hW1, hW3, ht, hRs, hst, hnd, hnm, hS⟩ := h
  have hJ := hS.1
  have hQ := hS.2.2.1
  have hT := hS.2.2.2.2.2
  have n1 : ¬ (1 : Int32) = 0 := by decide
  unfold wpX_request wpY_request
  dsimp only
  rcases sm_ex W t rs st nd np no nm ask made kin dur pri ovl mis per mnt hrs day mon wkd nxt sta los msd mss wai req bsy wjb wen kjb kst kdu knd nex prd sets mnw wdu doi ens his fld _ hJ v1 with ⟨hx, hy⟩ | ⟨j, hj, rfl, hm, hkn, hx, hy⟩
  · exact hx _ (br_t rfl (hy _ (br_t rfl ⟨rfl, h'⟩)))
  obtain ⟨n, en, hn, _⟩ := hQ j hj
  have kj : (nI j).toNatClampNeg = j := ar_k
  rcases hst with e | e
  case inr =>
    have ne : ¬ st = 0 := by rw [e]; decide
    exact hx _ (br_f n1 (br_f ne (hy _ (br_f n1 ⟨ar_in, br_c (fun _ => ⟨rfl, h'⟩) (fun _ => br_f ne ⟨rfl, h'⟩)⟩))))
  rcases Nat.lt_or_ge n 3 with g | g
  case inr =>
    have e3 : wai (nI j).toNatClampNeg = 3 := by rw [kj, en, show n = 3 by omega]; rfl
    exact hx _ (br_f n1 (br_t e (xa_add _ _ _ _ _ _ _ _ _ _ _ _ _ _ _ _ _ _ _ _ _ _ _ _ _ _ _ _ _ _ _ _ _ j n hj en hn _ (fun z => absurd z (by omega)) (fun _ => br_t rfl (hy _ (br_f n1 ⟨ar_in, br_t e3 ⟨rfl, h'⟩⟩))))))
  have e3 : ¬ wai (nI j).toNatClampNeg = 3 := by rw [kj, en]; exact ar_inj (b := 3) (by omega)
  have h2 := aq_rel W t rs st nd np no nm ask made kin dur pri ovl mis per mnt hrs day mon wkd nxt sta los msd mss wai req bsy wjb wen kjb kst kdu knd nex prd sets mnw wdu doi ens his fld _ hS j n hj hm en g (nI t)
  obtain ⟨rs', ask', sta', wai', req', bsy', wjb', wen', kjb', kst', kdu', wdu', doi', ens', his', q1, q2, q3, q4, q5⟩ := sm_start _ _ _ _ _ _ _ _ _ _ _ _ _ _ _ _ _ _ _ _ _ _ _ _ _ _ _ _ _ _ _ _ _ _ _ _ _ _ _ _ _ _ _ _ _ hW3 ht (Or.inl e) h2 (by omega)
  have fr : rl_R (k + 6) W t rs' st nd np no nm ask' made kin dur pri ovl mis per mnt hrs day mon wkd nxt sta' los msd mss wai' req' bsy' wjb' wen' kjb' kst' kdu' knd nex prd sets mnw wdu' doi' ens' his' fld := ⟨hW1, hW3, ht, by omega, Or.inl e, hnd, hnm, q1⟩
  have fin := rl_mk _ _ _ _ _ _ _ _ _ _ _ _ _ _ _ _ _ _ _ _ _ _ _ _ _ _ _ _ _ _ _ _ _ _ _ _ _ _ _ _ _ _ _ _ _ fr
  obtain ⟨m, em, hm2⟩ := hT j hj
  have hyy : ∀ r, (∀ post : Int32 → SY → Prop, post r ((nI W), (nI t), (nI rs'), st, nd, np, no, nm, ask', knd, dur, pri, ovl, mis, nex, prd, sets, sta', los, msd, mnw, wai', wdu', doi', ens', his', fld) → ((((wai' (nI j).toNatClampNeg) = wai j → (post 1 ((nI W), (nI t), (nI rs'), st, nd, np, no, nm, ask', knd, dur, pri, ovl, mis, nex, prd, sets, sta', los, msd, mnw, wai', wdu', doi', ens', his', fld))) ∧ (¬ (wai' (nI j).toNatClampNeg) = wai j → (post 0 ((nI W), (nI t), (nI rs'), st, nd, np, no, nm, ask', knd, dur, pri, ovl, mis, nex, prd, sets, sta', los, msd, mnw, wai', wdu', doi', ens', his', fld)))))) → wpY_request (fun r' v' => r' = r ∧ i_Rel (k + 6) ((nI W), (nI t), st, (nI rs'), nd, np, no, nm, made, kin, dur, pri, ovl, mis, per, mnt, hrs, day, mon, wkd, nxt, sta', los, msd, mss, wai', req', bsy', wjb', wen', kjb', kst', kdu') v') ((nI W), (nI t), (nI rs), st, nd, np, no, nm, ask, knd, dur, pri, ovl, mis, nex, prd, sets, sta, los, msd, mnw, wai, wdu, doi, ens, his, fld) (nI j) := by
    intro r hh
    unfold wpY_request
    dsimp only
    refine hy _ (br_f n1 ⟨ar_in, br_f e3 (br_t e ⟨ar_in, nm_r ar_cl (ya_ask _ _ _ _ _ _ _ _ _ _ _ _ _ _ _ _ _ _ _ _ _ _ _ _ _ _ _ j n hj en g _ (q5 _ ⟨ar_in, hh (fun r' v' => r' = r ∧ i_Rel (k + 6) ((nI W), (nI t), st, (nI rs'), nd, np, no, nm, made, kin, dur, pri, ovl, mis, per, mnt, hrs, day, mon, wkd, nxt, sta', los, msd, mss, wai', req', bsy', wjb', wen', kjb', kst', kdu') v') ⟨rfl, fin⟩⟩))⟩)⟩)
  unfold wpY_request at hyy
  dsimp only at hyy
  refine hx _ (br_f n1 (br_t e (xa_add _ _ _ _ _ _ _ _ _ _ _ _ _ _ _ _ _ _ _ _ _ _ _ _ _ _ _ _ _ _ _ _ _ j n hj en hn _ (fun _ => br_f n1 ⟨ar_in, nm_r ar_cl (q4 _ ⟨ar_in, ?_⟩)⟩) (fun z => absurd z (by omega)))))
  rcases q3 j hj with ⟨a, c⟩ | ⟨_, a, c⟩
  · rw [pk_us] at c
    have le1 : sta' (nI j).toNatClampNeg ≤ sta j := by rw [kj, a]; exact Int32.le_refl _
    refine br_t le1 (hyy 0 (fun post hp => br_f ?_ hp))
    rw [kj, c, en, nI_1]
    exact ar_inj (by omega)
  · rw [pk_us] at c
    have le1 : ¬ sta' (nI j).toNatClampNeg ≤ sta j := by rw [kj, a, em, nI_1]; exact ar_nle (by omega)
    refine br_f le1 (hyy 1 (fun post hp => br_t ?_ hp))
    rw [kj, c, en, nI_1]
    exact nI_pred n
end
section
/-- how many a job asks for at go -/
def go_n (mi : Int32) (m : Nat) : Nat := if mi = 0 then 0 else if mi = 1 then (if m ≤ 1 then m else 1) else m
theorem xq_missed (W t rs : Nat) (st nd np no nm : Int32) (made kin dur pri ovl mis per mnt hrs day mon wkd nxt sta los msd mss wai req bsy wjb wen kjb kst kdu : Nat → Int32) (j m : Nat) (hj : j < 12) (hm : m ≤ 1000001) (em : mss j = nI m) (hmi : mis j = 0 ∨ mis j = 1 ∨ mis j = 2) (post : Int32 → SX → Prop) (h : ∃ n, wX_requestMissed_50 post (nI j) (nI (go_n (mis j) m)) n 0 (nI W) (nI t) st (nI rs) nd np no nm made kin dur pri ovl mis per mnt hrs day mon wkd nxt sta los msd (upd mss j 0) wai req bsy wjb wen kjb kst kdu) : wpX_requestMissed post ((nI W), (nI t), st, (nI rs), nd, np, no, nm, made, kin, dur, pri, ovl, mis, per, mnt, hrs, day, mon, wkd, nxt, sta, los, msd, mss, wai, req, bsy, wjb, wen, kjb, kst, kdu) (nI j) := by
  have hk : (nI j).toNatClampNeg = j := ar_k
  have e0 : mss (nI j).toNatClampNeg = nI m := ar_c em
  refine And.intro ar_in (nm_r e0 ⟨ar_in, nm_r ar_u ⟨ar_in, ?_⟩⟩)
  rw [hk]
  rcases hmi with e | e | e
  · have g : go_n (mis j) m = 0 := by rw [e]; rfl
    rw [g] at h
    exact br_f (by rw [e]; decide) ⟨ar_in, br_f (ar_n (by rw [e]; decide)) h⟩
  · refine br_t e (pk_le m 0 (fun z => ?_) (fun z => ?_))
    · have g : go_n (mis j) m = 0 := by rw [e, show m = 0 by omega]; rfl
      rw [g] at h
      exact ⟨ar_in, br_f (ar_n (by rw [e]; decide)) h⟩
    · have g : go_n (mis j) m = 1 := by
        unfold go_n
        rw [e, if_neg (by decide), if_pos rfl]
        by_cases z2 : m ≤ 1
        · rw [if_pos z2]; omega
        · rw [if_neg z2]
      rw [g] at h
      exact h
  · have g : go_n (mis j) m = m := by
      unfold go_n
      rw [e, if_neg (by decide), if_neg (by decide)]
    rw [g] at h
    exact br_f (by rw [e]; decide) ⟨ar_in, br_t (ar_c e) h⟩
theorem yq_go (W t rs : Nat) (st nd np no nm ask : Int32) (knd dur pri ovl mis nex prd sets sta los msd mnw wai wdu doi ens his fld : Nat → Int32) (j m N : Nat) (x1 : Int32) (hj : j < 12) (hm : m ≤ 1000001) (hk : ¬ knd j < 0) (em : mnw j = nI m) (hmi : mis j = 0 ∨ mis j = 1 ∨ mis j = 2) (post : Int32 → SY → Prop) (h : ∃ n, wY_go_80 post (wY_go_18 post N) (nI j) (nI (go_n (mis j) m)) n x1 0 (nI W) (nI t) (nI rs) st nd np no nm ask knd dur pri ovl mis nex prd sets sta los msd mnw wai wdu doi ens his fld) : wY_go_18 post (N + 1) x1 (nI j) (nI W) (nI t) (nI rs) st nd np no nm ask knd dur pri ovl mis nex prd sets sta los msd mnw wai wdu doi ens his fld := by
  have kj : (nI j).toNatClampNeg = j := ar_k
  have e0 : mnw (nI j).toNatClampNeg = nI m := ar_c em
  refine pk_le 12 j (fun z => absurd z (by omega)) (fun _ => ⟨ar_in, br_f (by rw [kj]; exact hk) ⟨ar_in, ?_⟩⟩)
  rcases hmi with e | e | e
  · have g : go_n (mis j) m = 0 := by rw [e]; rfl
    rw [g] at h
    exact br_t (ar_c e) h
  · refine br_f (ar_n (by rw [e]; decide)) ⟨ar_in, br_t (ar_c e) ⟨ar_in, pk_le m 1 (fun z => ?_) (fun z => ?_) e0⟩⟩
    · have g : go_n (mis j) m = m := by
        unfold go_n
        rw [e, if_neg (by decide), if_pos rfl, if_pos z]
      rw [g] at h
      exact ⟨ar_in, nm_r e0 h⟩
    · have g : go_n (mis j) m = 1 := by
        unfold go_n
        rw [e, if_neg (by decide), if_pos rfl, if_neg (by omega)]
      rw [g] at h
      exact h
  · have g : go_n (mis j) m = m := by
      unfold go_n
      rw [e, if_neg (by decide), if_neg (by decide)]
    rw [g] at h
    exact br_f (ar_n (by rw [e]; decide)) ⟨ar_in, br_f (ar_n (by rw [e]; decide)) ⟨ar_in, nm_r e0 h⟩⟩
theorem gl_add (W t rs : Nat) (st s1 nd np no nm : Int32) (made kin dur pri ovl mis per mnt hrs day mon wkd nxt sta los msd mss bsy wjb wen kjb kst kdu knd nex prd sets mnw mnw1 doi ens his fld : Nat → Int32) (b : Nat → Nat) (j y wn : Nat) (hj : j < 12) (hm : ¬ made j = 0) (hwn : wn ≤ 1000001) (hmn : mnw1 = upd mnw j 0) : ∀ d n, n + d = 3 → ∀ (c : Nat) (ask : Int32) (wai req wdu : Nat → Int32), st_H b W t rs s1 nd np no nm ask made kin dur pri ovl mis per mnt hrs day mon wkd nxt sta los msd mss wai req bsy wjb wen kjb kst kdu knd nex prd sets mnw1 wdu doi ens his fld → wai j = nI n → c + d ≤ 3 → ∃ (c' : Nat) (ask' : Int32) (wai' req' wdu' : Nat → Int32), st_H b W t rs s1 nd np no nm ask' made kin dur pri ovl mis per mnt hrs day mon wkd nxt sta los msd mss wai' req' bsy wjb wen kjb kst kdu knd nex prd sets mnw1 wdu' doi ens his fld ∧ c' ≤ c + d ∧ (∀ post : Int32 → SX → Prop, post (nI c') ((nI W), (nI t), st, (nI rs), nd, np, no, nm, made, kin, dur, pri, ovl, mis, per, mnt, hrs, day, mon, wkd, nxt, sta, los, msd, mss, wai', req', bsy, wjb, wen, kjb, kst, kdu) → wX_requestMissed_50 post (nI j) (nI wn) (d + 1) (nI c) (nI W) (nI t) st (nI rs) nd np no nm made kin dur pri ovl mis per mnt hrs day mon wkd nxt sta los msd mss wai req bsy wjb wen kjb kst kdu) ∧ (∀ (post : Int32 → SY → Prop) (J : Int32 → Int32 → Int32 → Int32 → Int32 → Int32 → Int32 → Int32 → Int32 → Int32 → Int32 → (Nat → Int32) → (Nat → Int32) → (Nat → Int32) → (Nat → Int32) → (Nat → Int32) → (Nat → Int32) → (Nat → Int32) → (Nat → Int32) → (Nat → Int32) → (Nat → Int32) → (Nat → Int32) → (Nat → Int32) → (Nat → Int32) → (Nat → Int32) → (Nat → Int32) → (Nat → Int32) → (Nat → Int32) → (Nat → Int32) → Prop), J (nI (y + c')) (nI (j + 1)) (nI W) (nI t) (nI rs) st nd np no nm ask' knd dur pri ovl mis nex prd sets sta los msd mnw1 wai' wdu' doi ens his fld → wY_go_80 post J (nI j) (nI wn) (d + 1) (nI (y + c)) (nI c) (nI W) (nI t) (nI rs) st nd np no nm ask knd dur pri ovl mis nex prd sets sta los msd mnw wai wdu doi ens his fld) := by
  have kj : (nI j).toNatClampNeg = j := ar_k
  have eu : upd mnw (nI j).toNatClampNeg 0 = mnw1 := by rw [kj, hmn]
  have n1 : ¬ (1 : Int32) = 0 := by decide
  intro d
  induction d with
  | zero =>
    intro n hn c ask wai req wdu h en hc
    have e3 : n = 3 := by omega
    refine ⟨c, ask, wai, req, wdu, h, by omega, fun post hp => pk_le wn c (fun _ => hp) (fun _ => xa_add _ _ _ _ _ _ _ _ _ _ _ _ _ _ _ _ _ _ _ _ _ _ _ _ _ _ _ _ _ _ _ _ _ j n hj en (by omega) _ (fun z => absurd z (by omega)) (fun _ => br_t rfl hp)), fun post J hp => pk_le wn c (fun _ => ⟨ar_in, nm_r eu (nm_r (nI_1 j) hp)⟩) (fun _ => ⟨ar_in, br_t ?_ ⟨ar_in, nm_r eu (nm_r (nI_1 j) hp)⟩⟩)⟩
    rw [kj, en]
    exact ar_le (a := 3) (by omega)
  | succ d ih =>
    intro n hn c ask wai req wdu h en hc
    by_cases hw : wn ≤ c
    · exact ⟨c, ask, wai, req, wdu, h, by omega, fun post hp => pk_le wn c (fun _ => hp) (fun z => absurd z (by omega)), fun post J hp => pk_le wn c (fun _ => ⟨ar_in, nm_r eu (nm_r (nI_1 j) hp)⟩) (fun z => absurd z (by omega))⟩
    · have h2 := aq_rel _ _ _ _ _ _ _ _ _ _ _ _ _ _ _ _ _ _ _ _ _ _ _ _ _ _ _ _ _ _ _ _ _ _ _ _ _ _ _ _ _ _ _ _ b h j n hj hm en (by omega) (nI t)
      have en2 : upd wai j (wai j + 1) j = nI (n + 1) := by rw [pk_us, en]; exact nI_1 n
      obtain ⟨c', ask', wai', req', wdu', q1, q2, q3, q4⟩ := ih (n + 1) (by omega) (c + 1) _ _ _ _ h2 en2 (by omega)
      refine ⟨c', ask', wai', req', wdu', q1, by omega, fun post hp => pk_le wn c (fun z => absurd z hw) (fun _ => xa_add _ _ _ _ _ _ _ _ _ _ _ _ _ _ _ _ _ _ _ _ _ _ _ _ _ _ _ _ _ _ _ _ _ j n hj en (by omega) _ (fun _ => br_f n1 (nm_r (nI_1 c) (q3 post hp))) (fun z => absurd z (by omega))), fun post J hp => pk_le wn c (fun z => absurd z hw) (fun _ => ⟨ar_in, br_f ?_ (ya_ask _ _ _ _ _ _ _ _ _ _ _ _ _ _ _ _ _ _ _ _ _ _ _ _ _ _ _ j n hj en (by omega) _ (nm_r (nI_1 (y + c)) (nm_r (nI_1 c) (q4 post J hp))))⟩)⟩
      rw [kj, en]
      exact ar_nle (a := 3) (by omega)
theorem gl_st (W t rs : Nat) (st nd np no nm ask : Int32) (made kin dur pri ovl mis per mnt hrs day mon wkd nxt sta los msd mss wai req bsy wjb wen kjb kst kdu knd nex prd sets mnw wdu doi ens his fld : Nat → Int32) (b : Nat → Nat) (h : st_H b W t rs 1 nd np no nm ask made kin dur pri ovl mis per mnt hrs day mon wkd nxt sta los msd mss wai req bsy wjb wen kjb kst kdu knd nex prd sets mnw wdu doi ens his fld) (hz : ∀ p, p < 12 → ¬ made p = 0 → mnw p = 0) : st_H b W t rs 0 nd np no nm ask made kin dur pri ovl mis per mnt hrs day mon wkd nxt sta los msd mss wai req bsy wjb wen kjb kst kdu knd nex prd sets mnw wdu doi ens his fld := by
  obtain ⟨hJ, h⟩ := h
  refine ⟨?_, h⟩
  intro j hj
  rcases hJ j hj with g | ⟨g1, g2, g3, g4, g5, g6⟩
  · exact Or.inl g
  · exact Or.inr ⟨g1, g2, g3, g4, fun _ => hz j hj (by rw [g1]; decide), g6⟩
theorem gl_loop (W t rs : Nat) (nd np no nm : Int32) (made kin dur pri ovl mis per mnt hrs day mon wkd nxt sta los msd bsy wjb wen kjb kst kdu knd nex prd sets doi ens his fld : Nat → Int32) (hW : W ≤ 3) (ht : t ≤ 1000000) (hr : rs ≤ 9999997) : ∀ d i, i + d = 12 → ∀ (y : Nat) (ask : Int32) (wai req mss wdu mnw : Nat → Int32), st_H (fun _ => t + 1) W t rs 1 nd np no nm ask made kin dur pri ovl mis per mnt hrs day mon wkd nxt sta los msd mss wai req bsy wjb wen kjb kst kdu knd nex prd sets mnw wdu doi ens his fld → (∀ p, p < i → ¬ made p = 0 → mnw p = 0) → y ≤ 3 * i → ∃ (y' : Nat) (mss' mnw' : Nat → Int32) (rs' : Nat) (ask' : Int32) (sta' wai' req' bsy' wjb' wen' kjb' kst' kdu' wdu' doi' ens' his' : Nat → Int32), st_H (fun _ => t + 1) W t rs' 0 nd np no nm ask' made kin dur pri ovl mis per mnt hrs day mon wkd nxt sta' los msd mss' wai' req' bsy' wjb' wen' kjb' kst' kdu' knd nex prd sets mnw' wdu' doi' ens' his' fld ∧ rs' ≤ rs + 3 ∧ (∀ post : Int32 → SX → Prop, post (nI y') ((nI W), (nI t), 0, (nI rs'), nd, np, no, nm, made, kin, dur, pri, ovl, mis, per, mnt, hrs, day, mon, wkd, nxt, sta', los, msd, mss', wai', req', bsy', wjb', wen', kjb', kst', kdu') → wX_go_18 post (d + 1) (nI y) (nI i) (nI W) (nI t) 0 (nI rs) nd np no nm made kin dur pri ovl mis per mnt hrs day mon wkd nxt sta los msd mss wai req bsy wjb wen kjb kst kdu) ∧ (∀ post : Int32 → SY → Prop, post (nI y') ((nI W), (nI t), (nI rs'), 0, nd, np, no, nm, ask', knd, dur, pri, ovl, mis, nex, prd, sets, sta', los, msd, mnw', wai', wdu', doi', ens', his', fld) → wY_go_18 post (d + 1) (nI y) (nI i) (nI W) (nI t) (nI rs) 0 nd np no nm ask knd dur pri ovl mis nex prd sets sta los msd mnw wai wdu doi ens his fld) := by
  intro d
  induction d with
  | zero =>
    intro i hi y ask wai req mss wdu mnw h hz hy
    have h0 := gl_st _ _ _ 0 _ _ _ _ _ _ _ _ _ _ _ _ _ _ _ _ _ _ _ _ _ _ _ _ _ _ _ _ _ _ _ _ _ _ _ _ _ _ _ _ _ h (fun p hp => hz p (by omega))
    obtain ⟨rs', ask', sta', wai', req', bsy', wjb', wen', kjb', kst', kdu', wdu', doi', ens', his', q1, q2, q3, q4, q5⟩ := sm_start _ _ _ _ _ _ _ _ _ _ _ _ _ _ _ _ _ _ _ _ _ _ _ _ _ _ _ _ _ _ _ _ _ _ _ _ _ _ _ _ _ _ _ _ _ hW ht (Or.inl rfl) h0 hr
    exact ⟨y, mss, mnw, rs', ask', sta', wai', req', bsy', wjb', wen', kjb', kst', kdu', wdu', doi', ens', his', q1, q2, fun post hp => pk_le 12 i (fun _ => q4 _ hp) (fun z => absurd z (by omega)), fun post hp => pk_le 12 i (fun _ => q5 _ hp) (fun z => absurd z (by omega))⟩
  | succ d ih =>
    intro i hi y ask wai req mss wdu mnw h hz hy
    obtain ⟨hJ, hK, hQ, hA, hH, hT⟩ := id h
    have kj : (nI i).toNatClampNeg = i := ar_k
    have eu : upd mnw (nI i).toNatClampNeg 0 = upd mnw i 0 := by rw [kj]
    by_cases hm : made i = 0
    · have hkn : knd (nI i).toNatClampNeg < 0 := by rw [kj, (rl_m0 (hJ i (by omega)) hm).1]; decide
      have h2 : st_H (fun _ => t + 1) W t rs 1 nd np no nm ask made kin dur pri ovl mis per mnt hrs day mon wkd nxt sta los msd mss wai req bsy wjb wen kjb kst kdu knd nex prd sets (upd mnw i 0) wdu doi ens his fld := by
        refine ⟨?_, hK, hQ, hA, hH, hT⟩
        intro p hp
        by_cases e : p = i
        · subst e
          obtain ⟨a, c⟩ := rl_m0 (hJ p hp) hm
          exact Or.inl ⟨hm, a, c⟩
        · rw [pk_un e]
          exact hJ p hp
      have hz2 : ∀ p, p < i + 1 → ¬ made p = 0 → upd mnw i 0 p = 0 := by
        refine lt_s (fun p hp hmp => ?_) (fun _ => pk_us)
        rw [pk_un (by omega)]
        exact hz p hp hmp
      obtain ⟨y', mss', mnw', rs', ask', sta', wai', req', bsy', wjb', wen', kjb', kst', kdu', wdu', doi', ens', his', q1, q2, q3, q4⟩ := ih (i + 1) (by omega) y ask wai req mss wdu _ h2 hz2 (by omega)
      exact ⟨y', mss', mnw', rs', ask', sta', wai', req', bsy', wjb', wen', kjb', kst', kdu', wdu', doi', ens', his', q1, q2, fun post hp => pk_le 12 i (fun z => absurd z (by omega)) (fun _ => ⟨ar_in, br_t (ar_c hm) (nm_r (nI_1 i) (q3 post hp))⟩), fun post hp => pk_le 12 i (fun z => absurd z (by omega)) (fun _ => ⟨ar_in, br_t hkn ⟨1, pk_le 0 0 (fun _ => ⟨ar_in, nm_r eu (nm_r (nI_1 i) (q4 post hp))⟩) (fun z => absurd z (by omega))⟩⟩)⟩
    · obtain ⟨n, en, hn, _⟩ := hQ i (by omega)
      have hkn := rl_m1 (hJ i (by omega)) hm
      have hj2 : mss i = mnw i ∧ (∃ m, mnw i = nI m ∧ m ≤ 1000000) ∧ (mis i = 0 ∨ mis i = 1 ∨ mis i = 2) := by
        rcases hJ i (by omega) with ⟨g, _⟩ | ⟨_, _, g3, ⟨m, g4, g5⟩, _, g6, _⟩
        · exact absurd g hm
        · have g5' : m + 1 ≤ t + 1 := g5
          exact ⟨g3, ⟨m, g4, by omega⟩, g6⟩
      obtain ⟨e1, ⟨m, e2, e3⟩, e4⟩ := hj2
      have h2 : st_H (fun _ => t + 1) W t rs 1 nd np no nm ask made kin dur pri ovl mis per mnt hrs day mon wkd nxt sta los msd (upd mss i 0) wai req bsy wjb wen kjb kst kdu knd nex prd sets (upd mnw i 0) wdu doi ens his fld := by
        refine ⟨?_, hK, hQ, hA, hH, hT⟩
        intro p hp
        by_cases e : p = i
        · subst e
          rcases hJ p hp with ⟨g, _⟩ | ⟨g1, g2, g3, g4, g5, g6⟩
          · exact absurd g hm
          · exact Or.inr ⟨g1, g2, by rw [pk_us, pk_us], ⟨0, pk_us, by omega⟩, fun _ => pk_us, g6⟩
        · rw [pk_un e, pk_un e]
          exact hJ p hp
      have hz2 : ∀ p, p < i + 1 → ¬ made p = 0 → upd mnw i 0 p = 0 := by
        refine lt_s (fun p hp hmp => ?_) (fun _ => pk_us)
        rw [pk_un (by omega)]
        exact hz p hp hmp
      have gn : go_n (mis i) m ≤ 1000001 := by
        unfold go_n
        by_cases z : mis i = 0
        · rw [if_pos z]; omega
        · rw [if_neg z]
          by_cases z1 : mis i = 1
          · rw [if_pos z1]
            by_cases z2 : m ≤ 1
            · rw [if_pos z2]; omega
            · rw [if_neg z2]; omega
          · rw [if_neg z1]; omega
      obtain ⟨c', ask1, wai1, req1, wdu1, h3, hc, gx, gy⟩ := gl_add W t rs 0 1 nd np no nm made kin dur pri ovl mis per mnt hrs day mon wkd nxt sta los msd (upd mss i 0) bsy wjb wen kjb kst kdu knd nex prd sets mnw (upd mnw i 0) doi ens his fld (fun _ => t + 1) i y (go_n (mis i) m) (by omega) hm gn rfl (3 - n) n (by omega) 0 ask wai req wdu h2 en (by omega)
      obtain ⟨y', mss', mnw', rs', ask', sta', wai', req', bsy', wjb', wen', kjb', kst', kdu', wdu', doi', ens', his', q1, q2, q3, q4⟩ := ih (i + 1) (by omega) (y + c') ask1 wai1 req1 _ wdu1 _ h3 hz2 (by omega)
      exact ⟨y', mss', mnw', rs', ask', sta', wai', req', bsy', wjb', wen', kjb', kst', kdu', wdu', doi', ens', his', q1, q2, fun post hp => pk_le 12 i (fun z => absurd z (by omega)) (fun _ => ⟨ar_in, br_f (ar_n hm) (xq_missed _ _ _ _ _ _ _ _ _ _ _ _ _ _ _ _ _ _ _ _ _ _ _ _ _ _ _ _ _ _ _ _ _ i m (by omega) (by omega) (by rw [e1]; exact e2) e4 _ ⟨_, gx _ (nm_r (nI_add y c') (nm_r (nI_1 i) (q3 post hp)))⟩)⟩), fun post hp => yq_go _ _ _ _ _ _ _ _ _ _ _ _ _ _ _ _ _ _ _ _ _ _ _ _ _ _ _ i m (d + 1) _ (by omega) (by omega) hkn e2 e4 post ⟨_, gy post (wY_go_18 post (d + 1)) (q4 post hp)⟩⟩
theorem i_vc_go {k : Nat} {u : SX} {v : SY} (I : i_Rel k u v) (hk : k + 6 ≤ 3073) : wpX_go (fun r u' => wpY_go (fun r' v' => r' = r ∧ i_Rel (k + 6) u' v') v) u := by
  obtain ⟨W, t, rs, st, nd, np, no, nm, ask, made, kin, dur, pri, ovl, mis, per, mnt, hrs, day, mon, wkd, nxt, sta, los, msd, mss, wai, req, bsy, wjb, wen, kjb, kst, kdu, knd, nex, prd, sets, mnw, wdu, doi, ens, his, fld, rfl, rfl, h⟩ := I
  have h0 := rl_up W t rs st nd np no nm ask made kin dur pri ovl mis per mnt hrs day mon wkd nxt sta los msd mss wai req bsy wjb wen kjb kst kdu knd nex prd sets mnw wdu doi ens his fld (m := k + 6) (by omega) h
  have h' := rl_mk W t rs st nd np no nm ask made kin dur pri ovl mis per mnt hrs day mon wkd nxt sta los msd mss wai req bsy wjb wen kjb kst kdu knd nex prd sets mnw wdu doi ens his fld _ h0
  obtain ⟨hW1, hW3, ht, hRs, hst, hnd, hnm, hS⟩ := h
  rcases hst with rfl | rfl
  · exact br_t rfl (br_t rfl ⟨rfl, h'⟩)
  · have n1 : ¬ (1 : Int32) = 0 := by decide
    obtain ⟨y', mss', mnw', rs', ask', sta', wai', req', bsy', wjb', wen', kjb', kst', kdu', wdu', doi', ens', his', q1, q2, q3, q4⟩ := gl_loop W t rs nd np no nm made kin dur pri ovl mis per mnt hrs day mon wkd nxt sta los msd bsy wjb wen kjb kst kdu knd nex prd sets doi ens his fld hW3 ht (by omega) 12 0 (by omega) 0 ask wai req mss wdu mnw hS (fun p hp => absurd hp (by omega)) (by omega)
    have fr : rl_R (k + 6) W t rs' 0 nd np no nm ask' made kin dur pri ovl mis per mnt hrs day mon wkd nxt sta' los msd mss' wai' req' bsy' wjb' wen' kjb' kst' kdu' knd nex prd sets mnw' wdu' doi' ens' his' fld := ⟨hW1, hW3, ht, by omega, Or.inl rfl, hnd, hnm, q1⟩
    have fin := rl_mk _ _ _ _ _ _ _ _ _ _ _ _ _ _ _ _ _ _ _ _ _ _ _ _ _ _ _ _ _ _ _ _ _ _ _ _ _ _ _ _ _ _ _ _ _ fr
    exact br_f n1 ⟨13, q3 _ (br_f n1 ⟨13, q4 _ ⟨rfl, fin⟩⟩)⟩
end
section
theorem pk_least (P : Nat → Prop) (h : ∃ k, P k) : ∃ k, P k ∧ ∀ j, j < k → ¬ P j := by
  obtain ⟨k, hk⟩ := h
  induction k using Nat.strongRecOn with
  | ind k ih =>
    by_cases e : ∃ j, j < k ∧ P j
    · obtain ⟨j, hj, pj⟩ := e
      exact ih j hj pj
    · exact ⟨k, hk, fun j hj pj => e ⟨j, hj, pj⟩⟩
theorem nc_ex (s0 s1 s2 s3 s4 : Int32) (t : Nat) : (∃ d, t + 1 ≤ d ∧ d ≤ t + 22400 ∧ ca_fit s0 s1 s2 s3 s4 d ∧ ∀ s, t + 1 ≤ s → s < d → ¬ ca_fit s0 s1 s2 s3 s4 s) ∨ (∀ s, t + 1 ≤ s → ¬ ca_fit s0 s1 s2 s3 s4 s) := by
  by_cases h : ∃ k, ca_fit s0 s1 s2 s3 s4 (t + 1 + k)
  · obtain ⟨k, hk, hl⟩ := pk_least _ h
    refine Or.inl ⟨t + 1 + k, by omega, ?_, hk, fun s h1 h2 => ?_⟩
    · rcases Nat.lt_or_ge k 22400 with g | g
      · omega
      · obtain ⟨q, rfl⟩ : ∃ q, k = q + 22400 := ⟨k - 22400, by omega⟩
        rw [show t + 1 + (q + 22400) = (t + 1 + q) + 22400 by omega, ca_per] at hk
        exact absurd hk (hl q (by omega))
    · obtain ⟨q, rfl⟩ : ∃ q, s = t + 1 + q := ⟨s - (t + 1), by omega⟩
      exact hl q (by omega)
  · refine Or.inr (fun s h1 h2 => h ⟨s - (t + 1), ?_⟩)
    rw [show t + 1 + (s - (t + 1)) = s by omega]
    exact h2
theorem xc_val (W t rs : Nat) (st nd np no nm : Int32) (made kin dur pri ovl mis per mnt hrs day mon wkd nxt sta los msd mss wai req bsy wjb wen kjb kst kdu : Nat → Int32) (j : Nat) (hj : j < 12) (ht : t ≤ 1000000) : ∃ v, rl_c (t + 1) (mnt j) (hrs j) (day j) (mon j) (wkd j) v ∧ (∀ post : Int32 → Prop, post v → wpX_nextCronTime post ((nI W), (nI t), st, (nI rs), nd, np, no, nm, made, kin, dur, pri, ovl, mis, per, mnt, hrs, day, mon, wkd, nxt, sta, los, msd, mss, wai, req, bsy, wjb, wen, kjb, kst, kdu) (nI j)) := by
  rcases nc_ex (mnt j) (hrs j) (day j) (mon j) (wkd j) t with ⟨d, h1, h2, h3, h4⟩ | h
  · refine ⟨nI d, Or.inr ⟨d, rfl, h1, by omega, h3, h4⟩, fun post hp => xc_next _ _ _ _ _ _ _ _ _ _ _ _ _ _ _ _ _ _ _ _ _ _ _ _ _ _ _ _ _ _ _ _ _ j hj ht post (fun d' g1 g2 g3 g4 => ?_) (fun g => absurd h3 (g d h1))⟩
    have : d' = d := by
      rcases Nat.lt_trichotomy d' d with c | c | c
      · exact absurd g3 (h4 d' g1 c)
      · exact c
      · exact absurd h3 (g4 d h1 c)
    rw [this]
    exact hp
  · exact ⟨-2, Or.inl ⟨rfl, h⟩, fun post hp => xc_next _ _ _ _ _ _ _ _ _ _ _ _ _ _ _ _ _ _ _ _ _ _ _ _ _ _ _ _ _ _ _ _ _ j hj ht post (fun d' g1 g2 g3 g4 => absurd g3 (h d' g1)) (fun _ => hp)⟩
theorem xo_forbid (W t rs : Nat) (st nd np no nm : Int32) (made kin dur pri ovl mis per mnt hrs day mon wkd nxt sta los msd mss wai req bsy wjb wen kjb kst kdu : Nat → Int32) (j n : Nat) (hj : j < 12) (en : wai j = nI n) (hn : n ≤ 3) (post : Int32 → Prop) (h1 : (ovl j = 0 ∧ (0 < n ∨ hp_P bsy wjb (nI j))) → post 1) (h0 : ¬ (ovl j = 0 ∧ (0 < n ∨ hp_P bsy wjb (nI j))) → post 0) : wpX_overlapForbids post ((nI W), (nI t), st, (nI rs), nd, np, no, nm, made, kin, dur, pri, ovl, mis, per, mnt, hrs, day, mon, wkd, nxt, sta, los, msd, mss, wai, req, bsy, wjb, wen, kjb, kst, kdu) (nI j) := by
  have ew : wai (nI j).toNatClampNeg = nI n := ar_c en
  refine And.intro ar_in (br_c (fun a => ⟨ar_in, pk_lt 0 n (fun z => h1 ⟨ar_o a, Or.inl z⟩) (fun z => xr_hasRun _ _ _ _ _ _ _ _ _ _ _ _ _ _ _ _ _ _ _ _ _ _ _ _ _ _ _ _ _ _ _ _ _ _ _ (fun p => br_f (by decide) (h1 ⟨ar_o a, Or.inr p⟩)) (fun p => br_t rfl (h0 ?_))) rfl ew⟩) (fun a => h0 ?_))
  · exact fun y => y.2.elim (fun q => absurd q (by omega)) p
  · exact fun y => (ar_on a) y.1
theorem yo_full (W t rs : Nat) (st nd np no nm ask : Int32) (knd dur pri ovl mis nex prd sets sta los msd mnw wai wdu doi ens his fld : Nat → Int32) (hW : W ≤ 3) (j n : Nat) (hj : j < 12) (en : wai j = nI n) (hn : n ≤ 3) (post : SY → Prop) (h1 : (n = 3 ∨ (ovl j = 0 ∧ (0 < n ∨ hp_Q W ens doi (nI j)))) → wY_fall_41 post (nI j) 1 (nI W) (nI t) (nI rs) st nd np no nm ask knd dur pri ovl mis nex prd sets sta los msd mnw wai wdu doi ens his fld) (h0 : ¬ (n = 3 ∨ (ovl j = 0 ∧ (0 < n ∨ hp_Q W ens doi (nI j)))) → wY_fall_41 post (nI j) 0 (nI W) (nI t) (nI rs) st nd np no nm ask knd dur pri ovl mis nex prd sets sta los msd mnw wai wdu doi ens his fld) : wpY_fall post ((nI W), (nI t), (nI rs), st, nd, np, no, nm, ask, knd, dur, pri, ovl, mis, nex, prd, sets, sta, los, msd, mnw, wai, wdu, doi, ens, his, fld) (nI j) := by
  have ew : wai (nI j).toNatClampNeg = nI n := ar_c en
  refine And.intro ar_in (pk_eq n 3 (fun z => h1 (Or.inl z)) (fun z => ⟨ar_in, br_c (fun a => ⟨ar_in, pk_lt 0 n (fun y => h1 (Or.inr ⟨ar_o a, Or.inl y⟩)) (fun y => yr_isRunning _ _ _ _ _ _ _ _ _ _ _ _ _ _ _ _ _ _ _ _ _ _ _ _ _ _ _ hW _ _ (fun p => br_f (by decide) (h1 (Or.inr ⟨ar_o a, Or.inr p⟩))) (fun p => br_t rfl (h0 ?_))) rfl ew⟩) (fun a => h0 ?_)⟩) ew)
  · exact fun q => q.elim z (fun q => q.2.elim (fun q => absurd q (by omega)) p)
  · exact fun q => q.elim z (fun q => (ar_on a) q.1)
theorem td_first (W t rs : Nat) (st nd np no nm ask : Int32) (made kin dur pri ovl mis per mnt hrs day mon wkd nxt sta los msd mss wai req bsy wjb wen kjb kst kdu knd nex prd sets mnw wdu doi ens his fld : Nat → Int32) (hW : W ≤ 3) (hst : st = 0 ∨ st = 1) (hK : rl_W 3 t W bsy wjb wen doi ens) (hQ : rl_Q wai req wdu) (hA : ask = rl_S wai 12) (j : Nat) (hj : j < 12) : ∃ (x y ask' : Int32) (los' msd' mss' mnw' wai' req' wdu' : Nat → Int32), ((x = 1 ∧ y = 0 ∧ st = 0) ∨ (x = 0 ∧ (¬ st = 0 ∨ ¬ y = 0))) ∧ rl_Q wai' req' wdu' ∧ ask' = rl_S wai' 12 ∧ (∀ p, p ≠ j → mss' p = mss p ∧ mnw' p = mnw p ∧ wai' p = wai p) ∧ ((st = 0 ∧ mss' j = mss j ∧ mnw' j = mnw j) ∨ (st = 1 ∧ mss' j = mss j + 1 ∧ mnw' j = mnw j + 1)) ∧ (∀ post : SX → Prop, wX_takeDueJob_77 post (nI j) x (nI W) (nI t) st (nI rs) nd np no nm made kin dur pri ovl mis per mnt hrs day mon wkd nxt sta los' msd' mss' wai' req' bsy wjb wen kjb kst kdu → wpX_takeDueJob post ((nI W), (nI t), st, (nI rs), nd, np, no, nm, made, kin, dur, pri, ovl, mis, per, mnt, hrs, day, mon, wkd, nxt, sta, los, msd, mss, wai, req, bsy, wjb, wen, kjb, kst, kdu) (nI j)) ∧ (∀ post : SY → Prop, wY_fall_94 post (nI j) y (nI W) (nI t) (nI rs) st nd np no nm ask' knd dur pri ovl mis nex prd sets sta los' msd' mnw' wai' wdu' doi ens his fld → wpY_fall post ((nI W), (nI t), (nI rs), st, nd, np, no, nm, ask, knd, dur, pri, ovl, mis, nex, prd, sets, sta, los, msd, mnw, wai, wdu, doi, ens, his, fld) (nI j)) := by
  obtain ⟨n, en, hn, hq⟩ := hQ j hj
  have kj : (nI j).toNatClampNeg = j := ar_k
  have n1 : ¬ (1 : Int32) = 0 := by decide
  have PQ := rl_PQ hW hK (nI j)
  have el : upd los (nI j).toNatClampNeg (los (nI j).toNatClampNeg + 1) = upd los j (los j + 1) := by rw [kj]
  have el0 : upd los (nI j).toNatClampNeg (los (nI j).toNatClampNeg + 0) = los := by rw [kj]; exact up_id (by rw [Int32.add_zero])
  have em : upd msd (nI j).toNatClampNeg (msd (nI j).toNatClampNeg + 1) = upd msd j (msd j + 1) := by rw [kj]
  have es : upd mss (nI j).toNatClampNeg (mss (nI j).toNatClampNeg + 1) = upd mss j (mss j + 1) := by rw [kj]
  have ew : upd mnw (nI j).toNatClampNeg (mnw (nI j).toNatClampNeg + 1) = upd mnw j (mnw j + 1) := by rw [kj]
  have same : ∀ p, p ≠ j → mss p = mss p ∧ mnw p = mnw p ∧ wai p = wai p := fun p _ => ⟨rfl, rfl, rfl⟩
  rcases hst with e | e
  · by_cases hf : n = 3 ∨ (ovl j = 0 ∧ (0 < n ∨ hp_Q W ens doi (nI j)))
    · refine ⟨0, 1, ask, upd los j (los j + 1), msd, mss, mnw, wai, req, wdu, Or.inr ⟨rfl, Or.inr n1⟩, hQ, hA, same, Or.inl ⟨e, rfl, rfl⟩, fun post hp => br_t e (xo_forbid _ _ _ _ _ _ _ _ _ _ _ _ _ _ _ _ _ _ _ _ _ _ _ _ _ _ _ _ _ _ _ _ _ j n hj en hn _ (fun _ => br_f n1 ⟨ar_in, ar_in, nm_r el hp⟩) (fun z => br_t rfl (xa_add _ _ _ _ _ _ _ _ _ _ _ _ _ _ _ _ _ _ _ _ _ _ _ _ _ _ _ _ _ _ _ _ _ j n hj en hn _ (fun g => ?_) (fun _ => ⟨ar_in, br_t rfl ⟨ar_in, nm_r el hp⟩⟩)))), fun post hp => yo_full _ _ _ _ _ _ _ _ _ _ _ _ _ _ _ _ _ _ _ _ _ _ _ _ _ _ _ hW j n hj en hn post (fun _ => br_t e (br_f n1 ⟨ar_in, ar_in, nm_r el hp⟩)) (fun z => absurd hf z)⟩
      rcases hf with f | ⟨f1, f2⟩
      · exact absurd f (by omega)
      · exact absurd ⟨f1, f2.elim Or.inl (fun q => Or.inr (PQ.mpr q))⟩ z
    · have n3 : n < 3 := by
        rcases Nat.lt_or_ge n 3 with g | g
        · exact g
        · exact absurd (Or.inl (by omega)) hf
      have nf : ¬ (ovl j = 0 ∧ (0 < n ∨ hp_P bsy wjb (nI j))) := fun z => hf (Or.inr ⟨z.1, z.2.elim Or.inl (fun q => Or.inr (PQ.mp q))⟩)
      refine ⟨1, 0, ask + 1, los, msd, mss, mnw, upd wai j (wai j + 1), upd req (3 * j + n) (nI t), upd wdu (3 * j + n) (nI t), Or.inl ⟨rfl, rfl, e⟩, ?_, ?_, fun p hp => ⟨rfl, rfl, pk_un hp⟩, Or.inl ⟨e, rfl, rfl⟩, fun post hp => br_t e (xo_forbid _ _ _ _ _ _ _ _ _ _ _ _ _ _ _ _ _ _ _ _ _ _ _ _ _ _ _ _ _ _ _ _ _ j n hj en hn _ (fun z => absurd z nf) (fun _ => br_t rfl (xa_add _ _ _ _ _ _ _ _ _ _ _ _ _ _ _ _ _ _ _ _ _ _ _ _ _ _ _ _ _ _ _ _ _ j n hj en hn _ (fun _ => ⟨ar_in, br_f n1 ⟨ar_in, nm_r el0 hp⟩⟩) (fun z => absurd z (by omega))))), fun post hp => yo_full _ _ _ _ _ _ _ _ _ _ _ _ _ _ _ _ _ _ _ _ _ _ _ _ _ _ _ hW j n hj en hn post (fun z => absurd z hf) (fun _ => br_t e (br_t rfl (ya_ask _ _ _ _ _ _ _ _ _ _ _ _ _ _ _ _ _ _ _ _ _ _ _ _ _ _ _ j n hj en n3 _ hp)))⟩
      · intro i hi
        obtain ⟨m, emi, hm3, hqi⟩ := hQ i hi
        by_cases e : i = j
        · subst e
          rw [en] at emi
          have := ar_eq emi
          subst this
          rw [pk_us, en]
          refine ⟨n + 1, nI_1 n, by omega, ?_⟩
          refine lt_s (fun q hq2 => ?_) ?_
          · rw [pk_un (by omega), pk_un (by omega)]
            exact hqi q hq2
          · rw [pk_us, pk_us]
        · rw [pk_un e]
          refine ⟨m, emi, hm3, fun q hq2 => ?_⟩
          rw [pk_un (by omega), pk_un (by omega)]
          exact hqi q hq2
      · rw [rl_Su, if_pos hj, hA]
        grind
  · have ne : ¬ st = 0 := by rw [e]; decide
    by_cases hf : n = 3 ∨ (ovl j = 0 ∧ (0 < n ∨ hp_Q W ens doi (nI j)))
    · exact ⟨0, 1, ask, los, upd msd j (msd j + 1), upd mss j (mss j + 1), upd mnw j (mnw j + 1), wai, req, wdu, Or.inr ⟨rfl, Or.inl ne⟩, hQ, hA, fun p hp => ⟨pk_un hp, pk_un hp, rfl⟩, Or.inr ⟨e, pk_us, pk_us⟩, fun post hp => br_f ne ⟨ar_in, ar_in, nm_r em ⟨ar_in, ar_in, nm_r es hp⟩⟩, fun post hp => yo_full _ _ _ _ _ _ _ _ _ _ _ _ _ _ _ _ _ _ _ _ _ _ _ _ _ _ _ hW j n hj en hn post (fun _ => br_f ne ⟨ar_in, ar_in, nm_r em ⟨ar_in, ar_in, nm_r ew hp⟩⟩) (fun z => absurd hf z)⟩
    · exact ⟨0, 0, ask, los, upd msd j (msd j + 1), upd mss j (mss j + 1), upd mnw j (mnw j + 1), wai, req, wdu, Or.inr ⟨rfl, Or.inl ne⟩, hQ, hA, fun p hp => ⟨pk_un hp, pk_un hp, rfl⟩, Or.inr ⟨e, pk_us, pk_us⟩, fun post hp => br_f ne ⟨ar_in, ar_in, nm_r em ⟨ar_in, ar_in, nm_r es hp⟩⟩, fun post hp => yo_full _ _ _ _ _ _ _ _ _ _ _ _ _ _ _ _ _ _ _ _ _ _ _ _ _ _ _ hW j n hj en hn post (fun z => absurd z hf) (fun _ => br_f ne ⟨ar_in, ar_in, nm_r em ⟨ar_in, ar_in, nm_r ew hp⟩⟩)⟩
theorem td_second (W t rs : Nat) (st nd np no nm ask : Int32) (made kin dur pri ovl mis per mnt hrs day mon wkd nxt sta los msd mss wai req bsy wjb wen kjb kst kdu knd nex prd sets mnw wdu doi ens his fld : Nat → Int32) (ht : t ≤ 1000000) (j : Nat) (hj : j < 12) (x y : Int32) (ha : (x = 1 ∧ y = 0 ∧ st = 0) ∨ (x = 0 ∧ (¬ st = 0 ∨ ¬ y = 0))) (hk : kin j = knd j) (hkk : (knd j = 0 ∧ nex j = nI t) ∨ ((knd j = 1 ∨ knd j = 2) ∧ nex j = nI t ∧ ∃ p, per j = nI p ∧ prd j = nI p ∧ 1 ≤ p ∧ p ≤ 2000) ∨ knd j = 3) : ∃ v w, ((¬ knd j = 3 ∧ rl_n (t + 1) v w) ∨ (knd j = 3 ∧ rl_c (t + 1) (mnt j) (hrs j) (day j) (mon j) (wkd j) v)) ∧ (∀ post : SX → Prop, post ((nI W), (nI t), st, (nI rs), nd, np, no, nm, made, kin, dur, pri, ovl, mis, per, mnt, hrs, day, mon, wkd, (upd nxt j v), sta, los, msd, mss, wai, req, bsy, wjb, wen, kjb, kst, kdu) → wX_takeDueJob_77 post (nI j) x (nI W) (nI t) st (nI rs) nd np no nm made kin dur pri ovl mis per mnt hrs day mon wkd nxt sta los msd mss wai req bsy wjb wen kjb kst kdu) ∧ (∀ post : SY → Prop, post ((nI W), (nI t), (nI rs), st, nd, np, no, nm, ask, knd, dur, pri, ovl, mis, (upd nex j w), prd, sets, sta, los, msd, mnw, wai, wdu, doi, ens, his, fld) → wY_fall_94 post (nI j) y (nI W) (nI t) (nI rs) st nd np no nm ask knd dur pri ovl mis nex prd sets sta los msd mnw wai wdu doi ens his fld) := by
  have kj : (nI j).toNatClampNeg = j := ar_k
  have n1 : ¬ (1 : Int32) = 0 := by decide
  rcases hkk with ⟨h, _⟩ | ⟨h, h2, p, e1, e2, p1, p2⟩ | h
  · have ek : kin (nI j).toNatClampNeg = 0 := ar_c (by rw [hk]; exact h)
    have eY : knd (nI j).toNatClampNeg = 0 := ar_c h
    exact ⟨-2, -1, Or.inl ⟨by rw [h]; decide, Or.inl ⟨rfl, rfl⟩⟩, fun post hp => And.intro ar_in (nm_r ek (br_t (by decide) ⟨ar_in, nm_r ar_u hp⟩)), fun post hp => And.intro ar_in (br_t eY ⟨ar_in, nm_r ar_u ⟨ar_in, br_f (by rw [eY]; decide) ⟨ar_in, br_f (by rw [eY]; decide) hp⟩⟩⟩)⟩
  · have eX : upd nxt (nI j).toNatClampNeg (nI t + per (nI j).toNatClampNeg) = upd nxt j (nI (t + p)) := by rw [kj, e1, nI_add]
    have eZ : upd nex (nI j).toNatClampNeg (nex (nI j).toNatClampNeg + prd (nI j).toNatClampNeg) = upd nex j (nI (t + p)) := by rw [kj, h2, e2, nI_add]
    have eZ2 : upd nex (nI j).toNatClampNeg (nI t + prd (nI j).toNatClampNeg) = upd nex j (nI (t + p)) := by rw [kj, e2, nI_add]
    have hn : rl_n (t + 1) (nI (t + p)) (nI (t + p)) := Or.inr ⟨t + p, rfl, rfl, by omega, by omega⟩
    rcases h with h | h
    · have ek : kin (nI j).toNatClampNeg = 1 := ar_c (by rw [hk]; exact h)
      have eY : knd (nI j).toNatClampNeg = 1 := ar_c h
      exact ⟨nI (t + p), nI (t + p), Or.inl ⟨by rw [h]; decide, hn⟩, fun post hp => And.intro ar_in (nm_r ek (br_f (by decide) (br_f (by decide) (br_t rfl ⟨ar_in, ar_in, nm_r eX hp⟩)))), fun post hp => And.intro ar_in (br_f (by rw [eY]; decide) ⟨ar_in, br_t eY ⟨ar_in, ar_in, ar_in, nm_r eZ ⟨ar_in, br_f (by rw [eY]; decide) hp⟩⟩⟩)⟩
    · have ek : kin (nI j).toNatClampNeg = 2 := ar_c (by rw [hk]; exact h)
      have eY : knd (nI j).toNatClampNeg = 2 := ar_c h
      have k3 : ¬ knd j = 3 := by rw [h]; decide
      have X0 : ∀ post : SX → Prop, ((x = 0 → (vp_in (nI j) 12 ∧ (vp_in (nI j) 12 ∧ (∀ a, a = upd nxt (nI j).toNatClampNeg (nI t + (per (nI j).toNatClampNeg)) → (post ((nI W), (nI t), st, (nI rs), nd, np, no, nm, made, kin, dur, pri, ovl, mis, per, mnt, hrs, day, mon, wkd, a, sta, los, msd, mss, wai, req, bsy, wjb, wen, kjb, kst, kdu)))))) ∧ (¬ x = 0 → (vp_in (nI j) 12 ∧ (∀ a, a = upd nxt (nI j).toNatClampNeg (-2) → (post ((nI W), (nI t), st, (nI rs), nd, np, no, nm, made, kin, dur, pri, ovl, mis, per, mnt, hrs, day, mon, wkd, a, sta, los, msd, mss, wai, req, bsy, wjb, wen, kjb, kst, kdu)))))) → wX_takeDueJob_77 post (nI j) x (nI W) (nI t) st (nI rs) nd np no nm made kin dur pri ovl mis per mnt hrs day mon wkd nxt sta los msd mss wai req bsy wjb wen kjb kst kdu := fun post hh => And.intro ar_in (nm_r ek (br_f (by decide) (br_f (by decide) (br_f (by decide) (br_t rfl hh)))))
      have Y0 : ∀ post : SY → Prop, ((st = 0 → (((y = 0 → (vp_in (nI j) 12 ∧ (∀ a, a = upd nex (nI j).toNatClampNeg (-1) → (post ((nI W), (nI t), (nI rs), st, nd, np, no, nm, ask, knd, dur, pri, ovl, mis, a, prd, sets, sta, los, msd, mnw, wai, wdu, doi, ens, his, fld))))) ∧ (¬ y = 0 → (wY_fall_161 post (nI j) (nI j) (nI W) (nI t) (nI rs) st nd np no nm ask knd dur pri ovl mis nex prd sets sta los msd mnw wai wdu doi ens his fld))))) ∧ (¬ st = 0 → (wY_fall_161 post (nI j) (nI j) (nI W) (nI t) (nI rs) st nd np no nm ask knd dur pri ovl mis nex prd sets sta los msd mnw wai wdu doi ens his fld))) → wY_fall_94 post (nI j) y (nI W) (nI t) (nI rs) st nd np no nm ask knd dur pri ovl mis nex prd sets sta los msd mnw wai wdu doi ens his fld := fun post hh => And.intro ar_in (br_f (by rw [eY]; decide) ⟨ar_in, br_f (by rw [eY]; decide) ⟨ar_in, br_t eY hh⟩⟩)
      rcases ha with ⟨rfl, a2, a3⟩ | ⟨rfl, a2⟩
      · exact ⟨-2, -1, Or.inl ⟨k3, Or.inl ⟨rfl, rfl⟩⟩, fun post hp => X0 post (br_f n1 ⟨ar_in, nm_r ar_u hp⟩), fun post hp => Y0 post (br_t a3 (br_t a2 ⟨ar_in, nm_r ar_u hp⟩))⟩
      · refine ⟨nI (t + p), nI (t + p), Or.inl ⟨k3, hn⟩, fun post hp => X0 post (br_t rfl ⟨ar_in, ar_in, nm_r eX hp⟩), fun post hp => Y0 post ?_⟩
        have h161 : wY_fall_161 post (nI j) (nI j) (nI W) (nI t) (nI rs) st nd np no nm ask knd dur pri ovl mis nex prd sets sta los msd mnw wai wdu doi ens his fld := And.intro ar_in ⟨ar_in, nm_r eZ2 hp⟩
        exact br_c (fun a => br_c (fun c => a2.elim (fun z => absurd a z) (fun z => absurd c z)) (fun _ => h161)) (fun _ => h161)
  · have ek : kin (nI j).toNatClampNeg = 3 := ar_c (by rw [hk]; exact h)
    have eY : knd (nI j).toNatClampNeg = 3 := ar_c h
    obtain ⟨v, hv, hx⟩ := xc_val W t rs st nd np no nm made kin dur pri ovl mis per mnt hrs day mon wkd nxt sta los msd mss wai req bsy wjb wen kjb kst kdu j hj ht
    refine ⟨v, nex j, Or.inr ⟨h, hv⟩, fun post hp => And.intro ar_in (nm_r ek (br_f (by decide) (br_f (by decide) (br_f (by decide) (br_f (by decide) (br_t rfl (hx _ ⟨ar_in, nm_r ar_u hp⟩))))))), fun post hp => And.intro ar_in (br_f (by rw [eY]; decide) ⟨ar_in, br_f (by rw [eY]; decide) ⟨ar_in, br_f (by rw [eY]; decide) ?_⟩⟩)⟩
    rw [up_id rfl] at hp
    exact hp
end
section
theorem rj_nd {b : Nat} {st ma ki mi du pe mt hr dy mo wd nx ms kn ne pr s0 s1 s2 s3 s4 mn wa : Int32} (h : rl_j b st ma ki mi du pe mt hr dy mo wd nx ms kn ne pr s0 s1 s2 s3 s4 mn wa) (hb : b < 2147483648) (hn : ma = 0 ∨ ¬ nx = nI b) : rl_j (b + 1) st ma ki mi du pe mt hr dy mo wd nx ms kn ne pr s0 s1 s2 s3 s4 mn wa := by
  rcases h with h | ⟨g1, g2, g3, ⟨m, g4, g5⟩, g6, g7, g8, g9⟩
  · exact Or.inl h
  · have hx : ¬ nx = nI b := hn.elim (fun z => absurd (g1.symm.trans z) (by decide)) id
    have up : rl_n b nx ne → rl_n (b + 1) nx ne := by
      rintro (z | ⟨d, d1, d2, d3, d4⟩)
      · exact Or.inl z
      · refine Or.inr ⟨d, d1, d2, ?_, d4⟩
        rcases Nat.eq_or_lt_of_le d3 with c | c
        · exact absurd (by rw [d1, c]) hx
        · exact c
    refine Or.inr ⟨g1, g2, g3, ⟨m, g4, by omega⟩, g6, g7, g8, ?_⟩
    rcases g9 with ⟨c1, c2⟩ | ⟨c1, c2, c3⟩ | ⟨c1, c2, c3⟩
    · exact Or.inl ⟨c1, up c2⟩
    · exact Or.inr (Or.inl ⟨c1, up c2, c3⟩)
    · refine Or.inr (Or.inr ⟨c1, c2, ?_⟩)
      rcases c3 with ⟨z1, z2⟩ | ⟨d, d1, d2, d3, d4, d5⟩
      · exact Or.inl ⟨z1, fun s hs => z2 s (by omega)⟩
      · refine Or.inr ⟨d, d1, ?_, d3, d4, fun s hs => d5 s (by omega)⟩
        rcases Nat.eq_or_lt_of_le d2 with c | c
        · exact absurd (by rw [d1, c]) hx
        · exact c
theorem rj_due {b : Nat} {st ma ki mi du pe mt hr dy mo wd nx ms kn ne pr s0 s1 s2 s3 s4 mn wa : Int32} (h : rl_j b st ma ki mi du pe mt hr dy mo wd nx ms kn ne pr s0 s1 s2 s3 s4 mn wa) (hb : b < 2147483648) (hm : ¬ ma = 0) : nx = nI b ↔ ((kn = 3 ∧ ca_fit s0 s1 s2 s3 s4 b) ∨ (¬ kn = 3 ∧ ¬ kn < 0 ∧ ne = nI b)) := by
  rcases h with ⟨h, _⟩ | ⟨g1, g2, g3, g4, g6, g7, g8, g9⟩
  · exact absurd h hm
  · have pl : ¬ kn = 3 → ¬ kn < 0 → rl_n b nx ne → (nx = nI b ↔ ((kn = 3 ∧ ca_fit s0 s1 s2 s3 s4 b) ∨ (¬ kn = 3 ∧ ¬ kn < 0 ∧ ne = nI b))) := by
      intro k3 k0 hn
      constructor
      · intro e
        refine Or.inr ⟨k3, k0, ?_⟩
        rcases hn with ⟨z, _⟩ | ⟨d, d1, d2, _⟩
        · rw [z] at e; exact absurd e.symm (ar_ne2 hb)
        · rw [d2, ← d1]; exact e
      · rintro (⟨z, _⟩ | ⟨_, _, e⟩)
        · exact absurd z k3
        · rcases hn with ⟨_, z⟩ | ⟨d, d1, d2, _⟩
          · rw [z] at e; exact absurd e.symm (ar_ne1 hb)
          · rw [d1, ← d2]; exact e
    rcases g9 with ⟨c1, c2⟩ | ⟨c1, c2, c3⟩ | ⟨c1, ⟨e0, e1, e2, e3, e4⟩, c3⟩
    · exact pl (by rw [c1]; decide) (by rw [c1]; decide) c2
    · exact pl (by rcases c1 with c | c <;> rw [c] <;> decide) (by rcases c1 with c | c <;> rw [c] <;> decide) c2
    · subst e0 e1 e2 e3 e4
      rcases c3 with ⟨z1, z2⟩ | ⟨d, d1, d2, d3, d4, d5⟩
      · constructor
        · intro e; rw [z1] at e; exact absurd e.symm (ar_ne2 hb)
        · rintro (⟨_, z⟩ | ⟨z, _⟩)
          · exact absurd z (z2 b (Nat.le_refl b))
          · exact absurd c1 z
      · constructor
        · intro e
          rw [d1] at e
          have := ar_eq e (by omega) hb
          subst this
          exact Or.inl ⟨c1, d4⟩
        · rintro (⟨_, z⟩ | ⟨z, _⟩)
          · rcases Nat.eq_or_lt_of_le d2 with c | c
            · rw [d1, c]
            · exact absurd z (d5 b (Nat.le_refl b) c)
          · exact absurd c1 z
def td_b (t i : Nat) : Nat → Nat := fun j => if j < i then t + 1 else t
theorem td_0 (t i : Nat) : td_b t i i = t := if_neg (by omega)
theorem td_1 (t i : Nat) : td_b t (i + 1) i = t + 1 := if_pos (by omega)
theorem td_n (t i p : Nat) (h : p ≠ i) : td_b t (i + 1) p = td_b t i p := by
  unfold td_b
  by_cases e : p < i
  · rw [if_pos e, if_pos (by omega)]
  · rw [if_neg e, if_neg (by omega)]
theorem td_loop (W t rs : Nat) (st nd np no nm : Int32) (made kin dur pri ovl mis per mnt hrs day mon wkd sta bsy wjb wen kjb kst kdu knd prd sets doi ens his fld : Nat → Int32) (hW : W ≤ 3) (ht : t ≤ 1000000) (hst : st = 0 ∨ st = 1) (hF : ca_F t fld) : ∀ d i, i + d = 12 → ∀ (ask : Int32) (nxt los msd mss wai req nex mnw wdu : Nat → Int32), st_H (td_b t i) W t rs st nd np no nm ask made kin dur pri ovl mis per mnt hrs day mon wkd nxt sta los msd mss wai req bsy wjb wen kjb kst kdu knd nex prd sets mnw wdu doi ens his fld → ∃ (ask' : Int32) (nxt' los' msd' mss' wai' req' nex' mnw' wdu' : Nat → Int32),  st_H (fun _ => t + 1) W t rs st nd np no nm ask' made kin dur pri ovl mis per mnt hrs day mon wkd nxt' sta los' msd' mss' wai' req' bsy wjb wen kjb kst kdu knd nex' prd sets mnw' wdu' doi ens his fld ∧ (∀ post : SX → Prop, post ((nI W), (nI t), st, (nI rs), nd, np, no, nm, made, kin, dur, pri, ovl, mis, per, mnt, hrs, day, mon, wkd, nxt', sta, los', msd', mss', wai', req', bsy, wjb, wen, kjb, kst, kdu) → wX_takeDueJobs_2 post (d + 1) (nI i) (nI W) (nI t) st (nI rs) nd np no nm made kin dur pri ovl mis per mnt hrs day mon wkd nxt sta los msd mss wai req bsy wjb wen kjb kst kdu) ∧ (∀ (post : SY → Prop) (Yf : SY), (∀ post2 : SY → Prop, post2 Yf → wpY_start post2 ((nI W), (nI t), (nI rs), st, nd, np, no, nm, ask', knd, dur, pri, ovl, mis, nex', prd, sets, sta, los', msd', mnw', wai', wdu', doi, ens, his, fld)) → post Yf → wY_tick_106 post (d + 1) (nI i) (nI W) (nI t) (nI rs) st nd np no nm ask knd dur pri ovl mis nex prd sets sta los msd mnw wai wdu doi ens his fld) := by
  have n1 : ¬ (1 : Int32) = 0 := by decide
  intro d
  induction d with
  | zero =>
    intro i hi ask nxt los msd mss wai req nex mnw wdu h
    refine ⟨ask, nxt, los, msd, mss, wai, req, nex, mnw, wdu, ⟨?_, h.2⟩, fun post hp => pk_le 12 i (fun _ => hp) (fun z => absurd z (by omega)), fun post Yf H hp => pk_le 12 i (fun _ => H _ (by obtain ⟨y1, y2, y3, y4, y5, y6, y7, y8, y9, y10, y11, y12, y13, y14, y15, y16, y17, y18, y19, y20, y21, y22, y23, y24, y25, y26, y27⟩ := Yf; exact hp)) (fun z => absurd z (by omega))⟩
    intro j hj
    have := h.1 j hj
    rw [show td_b t i j = t + 1 from if_pos (by omega)] at this
    exact this
  | succ d ih =>
    intro i hi ask nxt los msd mss wai req nex mnw wdu h
    obtain ⟨hJ, hK, hQ, hA, hH, hT⟩ := id h
    have kj : (nI i).toNatClampNeg = i := ar_k
    have hi12 : i < 12 := by omega
    have hJi := hJ i hi12
    rw [td_0] at hJi
    have others : ∀ p, p < 12 → p ≠ i → rl_j (td_b t (i + 1) p) st (made p) (kin p) (mis p) (dur p) (per p) (mnt p) (hrs p) (day p) (mon p) (wkd p) (nxt p) (mss p) (knd p) (nex p) (prd p) (sets (5 * p)) (sets (5 * p + 1)) (sets (5 * p + 2)) (sets (5 * p + 3)) (sets (5 * p + 4)) (mnw p) (wai p) := by
      intro p hp hne
      rw [td_n t i p hne]
      exact hJ p hp
    have skip : (made i = 0 ∨ ¬ nxt i = nI t) → st_H (td_b t (i + 1)) W t rs st nd np no nm ask made kin dur pri ovl mis per mnt hrs day mon wkd nxt sta los msd mss wai req bsy wjb wen kjb kst kdu knd nex prd sets mnw wdu doi ens his fld := by
      intro hnd'
      refine ⟨?_, hK, hQ, hA, hH, hT⟩
      intro p hp
      by_cases e : p = i
      · subst e
        rw [td_1]
        exact rj_nd hJi (by omega) hnd'
      · exact others p hp e
    by_cases hm : made i = 0
    · have hkn : knd (nI i).toNatClampNeg < 0 := by rw [kj, (rl_m0 hJi hm).1]; decide
      obtain ⟨ask', nxt', los', msd', mss', wai', req', nex', mnw', wdu', q1, q2, q3⟩ := ih (i + 1) (by omega) _ _ _ _ _ _ _ _ _ _ (skip (Or.inl hm))
      exact ⟨ask', nxt', los', msd', mss', wai', req', nex', mnw', wdu', q1, fun post hp => pk_le 12 i (fun z => absurd z (by omega)) (fun _ => ⟨ar_in, br_t (ar_c hm) (nm_r (nI_1 i) (q2 post hp))⟩), fun post Yf H hp => pk_le 12 i (fun z => absurd z (by omega)) (fun _ => ⟨ar_in, br_t hkn (br_t rfl (nm_r (nI_1 i) (q3 post Yf H hp)))⟩)⟩
    · have hkn : ¬ knd (nI i).toNatClampNeg < 0 := by rw [kj]; exact rl_m1 hJi hm
      have due := rj_due hJi (by omega) hm
      by_cases hd : nxt i = nI t
      · have hdY := due.mp hd
        obtain ⟨x, y, ask1, los1, msd1, mss1, mnw1, wai1, req1, wdu1, a1, a2, a3, a4, a5, fx, fy⟩ := td_first W t rs st nd np no nm ask made kin dur pri ovl mis per mnt hrs day mon wkd nxt sta los msd mss wai req bsy wjb wen kjb kst kdu knd nex prd sets mnw wdu doi ens his fld hW hst hK hQ hA i hi12
        have facts : kin i = knd i ∧ mss i = mnw i ∧ (∃ m, mnw i = nI m ∧ m + 1 ≤ t) ∧ (st = 0 → mnw i = 0) ∧ (mis i = 0 ∨ mis i = 1 ∨ mis i = 2) ∧ (∃ d, dur i = nI d ∧ 1 ≤ d ∧ d ≤ 200) ∧ made i = 1 := by
          rcases hJi with ⟨g, _⟩ | ⟨g1, g2, g3, g4, g5, g6, g7, _⟩
          · exact absurd g hm
          · exact ⟨g2, g3, g4, g5, g6, g7, g1⟩
        obtain ⟨f1, f2, ⟨m, f3, f3'⟩, f4, f5, f6, f7⟩ := facts
        have kinds : (knd i = 0 ∧ nex i = nI t) ∨ ((knd i = 1 ∨ knd i = 2) ∧ nex i = nI t ∧ ∃ p, per i = nI p ∧ prd i = nI p ∧ 1 ≤ p ∧ p ≤ 2000) ∨ knd i = 3 := by
          have ne3 : ¬ knd i = 3 → nex i = nI t := fun k3 => hdY.elim (fun z => absurd z.1 k3) (fun z => z.2.2)
          rcases hJi with ⟨g, _⟩ | ⟨_, _, _, _, _, _, _, g⟩
          · exact absurd g hm
          · rcases g with ⟨c1, _⟩ | ⟨c1, _, c3⟩ | ⟨c1, _⟩
            · exact Or.inl ⟨c1, ne3 (by rw [c1]; decide)⟩
            · exact Or.inr (Or.inl ⟨c1, ne3 (by rcases c1 with c | c <;> rw [c] <;> decide), c3⟩)
            · exact Or.inr (Or.inr c1)
        obtain ⟨v, w, b1, sx, sy⟩ := td_second W t rs st nd np no nm ask1 made kin dur pri ovl mis per mnt hrs day mon wkd nxt sta los1 msd1 mss1 wai1 req1 bsy wjb wen kjb kst kdu knd nex prd sets mnw1 wdu1 doi ens his fld ht i hi12 x y a1 f1 kinds
        have h2 : st_H (td_b t (i + 1)) W t rs st nd np no nm ask1 made kin dur pri ovl mis per mnt hrs day mon wkd (upd nxt i v) sta los1 msd1 mss1 wai1 req1 bsy wjb wen kjb kst kdu knd (upd nex i w) prd sets mnw1 wdu1 doi ens his fld := by
          refine ⟨?_, hK, a2, a3, hH, hT⟩
          intro p hp
          by_cases e : p = i
          · subst e
            rw [td_1, pk_us, pk_us]
            have mm : mss1 p = mnw1 p ∧ (∃ m, mnw1 p = nI m ∧ m + 1 ≤ t + 1) ∧ (st = 0 → mnw1 p = 0) := by
              rcases a5 with ⟨z1, z2, z3⟩ | ⟨z1, z2, z3⟩
              · exact ⟨by rw [z2, z3]; exact f2, ⟨m, by rw [z3]; exact f3, by omega⟩, fun z => by rw [z3]; exact f4 z⟩
              · refine ⟨by rw [z2, z3, f2], ⟨m + 1, by rw [z3, f3]; exact nI_1 m, by omega⟩, fun z => ?_⟩
                rw [z1] at z
                exact absurd z (by decide)
            obtain ⟨m1, m2, m3⟩ := mm
            refine Or.inr ⟨f7, f1, m1, m2, m3, f5, f6, ?_⟩
            rcases hJi with ⟨g, _⟩ | ⟨_, _, _, _, _, _, _, g⟩
            · exact absurd g hm
            · rcases g with ⟨c1, _⟩ | ⟨c1, _, c3⟩ | ⟨c1, c2, _⟩
              · refine Or.inl ⟨c1, ?_⟩
                rcases b1 with ⟨_, z⟩ | ⟨z, _⟩
                · exact z
                · rw [c1] at z; exact absurd z (by decide)
              · refine Or.inr (Or.inl ⟨c1, ?_, c3⟩)
                rcases b1 with ⟨_, z⟩ | ⟨z, _⟩
                · exact z
                · rcases c1 with c | c
                  · rw [c] at z; exact absurd z (by decide)
                  · rw [c] at z; exact absurd z (by decide)
              · refine Or.inr (Or.inr ⟨c1, c2, ?_⟩)
                rcases b1 with ⟨z, _⟩ | ⟨_, z⟩
                · exact absurd c1 z
                · exact z
          · rw [pk_un e, pk_un e, (a4 p e).1, (a4 p e).2.1, (a4 p e).2.2]
            exact others p hp e
        obtain ⟨ask', nxt', los', msd', mss', wai', req', nex', mnw', wdu', q1, q2, q3⟩ := ih (i + 1) (by omega) _ _ _ _ _ _ _ _ _ _ h2
        exact ⟨ask', nxt', los', msd', mss', wai', req', nex', mnw', wdu', q1, fun post hp => pk_le 12 i (fun z => absurd z (by omega)) (fun _ => ⟨ar_in, br_f (ar_n hm) ⟨ar_in, br_t (ar_c hd) (fx _ (sx _ (nm_r (nI_1 i) (q2 post hp))))⟩⟩), fun post Yf H hp => pk_le 12 i (fun z => absurd z (by omega)) (fun _ => ⟨ar_in, br_f hkn (yc_isDue _ _ _ _ _ _ _ _ _ _ _ _ _ _ _ _ _ _ _ _ _ _ _ _ _ _ _ i hi12 hF _ (fun _ => br_f n1 (br_f n1 (fy _ (sy _ (nm_r (nI_1 i) (q3 post Yf H hp)))))) (fun z => absurd hdY z))⟩)⟩
      · have hdY := fun z => hd (due.mpr z)
        obtain ⟨ask', nxt', los', msd', mss', wai', req', nex', mnw', wdu', q1, q2, q3⟩ := ih (i + 1) (by omega) _ _ _ _ _ _ _ _ _ _ (skip (Or.inr hd))
        exact ⟨ask', nxt', los', msd', mss', wai', req', nex', mnw', wdu', q1, fun post hp => pk_le 12 i (fun z => absurd z (by omega)) (fun _ => ⟨ar_in, br_f (ar_n hm) ⟨ar_in, br_f (ar_n hd) (nm_r (nI_1 i) (q2 post hp))⟩⟩), fun post Yf H hp => pk_le 12 i (fun z => absurd z (by omega)) (fun _ => ⟨ar_in, br_f hkn (yc_isDue _ _ _ _ _ _ _ _ _ _ _ _ _ _ _ _ _ _ _ _ _ _ _ _ _ _ _ i hi12 hF _ (fun z => absurd z hdY) (fun _ => br_t rfl (br_t rfl (nm_r (nI_1 i) (q3 post Yf H hp)))))⟩)⟩
end
section
theorem le_sim (W t rs : Nat) (st nd np no nm ask : Int32) (made kin dur pri ovl mis per mnt hrs day mon wkd nxt sta los msd mss wai req bsy wjb wen kjb kst kdu knd nex prd sets mnw wdu doi ens his fld : Nat → Int32) (ht : t ≤ 1000000) (hJ : rl_J (fun _ => t) st made kin mis dur per mnt hrs day mon wkd nxt mss knd nex prd sets mnw wai) (x : Int32) (hx : x = -1 ∨ ∃ j, j < 12 ∧ x = nI j) : ∃ nxt' nex' : Nat → Int32, rl_J (fun _ => t) st made kin mis dur per mnt hrs day mon wkd nxt' mss knd nex' prd sets mnw wai ∧ (∀ post : SX → Prop, post ((nI W), (nI t), st, (nI rs), nd, np, no, nm, made, kin, dur, pri, ovl, mis, per, mnt, hrs, day, mon, wkd, nxt', sta, los, msd, mss, wai, req, bsy, wjb, wen, kjb, kst, kdu) → wpX_learnFromEnd post ((nI W), (nI t), st, (nI rs), nd, np, no, nm, made, kin, dur, pri, ovl, mis, per, mnt, hrs, day, mon, wkd, nxt, sta, los, msd, mss, wai, req, bsy, wjb, wen, kjb, kst, kdu) x) ∧ (∀ P : (Nat → Int32) → Prop, P nex' → ((x < 0 → P nex) ∧ (¬ x < 0 → (vp_in x 12 ∧ ((((knd x.toNatClampNeg) = 2 → (vp_in x 12 ∧ (((0 ≤ (nex x.toNatClampNeg) → P nex) ∧ (¬ 0 ≤ (nex x.toNatClampNeg) → (vp_in x 12 ∧ (vp_in x 12 ∧ (∀ a, a = upd nex x.toNatClampNeg (nI t + (prd x.toNatClampNeg)) → P a)))))))) ∧ (¬ (knd x.toNatClampNeg) = 2 → P nex))))))) := by
  unfold wpX_learnFromEnd
  dsimp only
  have n1 : ¬ (1 : Int32) = 0 := by decide
  rcases hx with rfl | ⟨j, hj, rfl⟩
  · exact ⟨nxt, nex, hJ, fun post hp => xr_exists _ _ _ _ _ _ _ _ _ _ _ _ _ _ _ _ _ _ _ _ _ _ _ _ _ _ _ _ _ _ _ _ _ _ _ (fun j hj e _ => absurd e.symm (ar_ne1 (by omega))) (fun _ => br_t rfl hp), fun P hp => br_t (by decide) hp⟩
  · have kj : (nI j).toNatClampNeg = j := ar_k
    have pj : ¬ nI j < 0 := nI_pos (by omega)
    have hJj := hJ j hj
    by_cases hm : made j = 0
    · have k2 : ¬ knd (nI j).toNatClampNeg = 2 := by rw [kj, (rl_m0 hJj hm).1]; decide
      refine ⟨nxt, nex, hJ, fun post hp => xr_exists _ _ _ _ _ _ _ _ _ _ _ _ _ _ _ _ _ _ _ _ _ _ _ _ _ _ _ _ _ _ _ _ _ _ _ (fun i hi e h => ?_) (fun _ => br_t rfl hp), fun P hp => br_f pj ⟨ar_in, br_f k2 hp⟩⟩
      have := ar_eq e
      subst this
      exact absurd hm h
    · have X0 : ∀ post : Int32 → Prop, post 1 → wpX_exists post ((nI W), (nI t), st, (nI rs), nd, np, no, nm, made, kin, dur, pri, ovl, mis, per, mnt, hrs, day, mon, wkd, nxt, sta, los, msd, mss, wai, req, bsy, wjb, wen, kjb, kst, kdu) (nI j) := fun post hp => xr_exists _ _ _ _ _ _ _ _ _ _ _ _ _ _ _ _ _ _ _ _ _ _ _ _ _ _ _ _ _ _ _ _ _ _ _ (fun _ _ _ _ => hp) (fun z => absurd (z j hj rfl) hm)
      have f1 : kin j = knd j := by
        rcases hJj with ⟨g, _⟩ | ⟨_, g, _⟩
        · exact absurd g hm
        · exact g
      by_cases k2 : knd j = 2
      · have hn : rl_n t (nxt j) (nex j) ∧ ∃ p, per j = nI p ∧ prd j = nI p ∧ 1 ≤ p ∧ p ≤ 2000 := by
          rcases hJj with ⟨g, _⟩ | ⟨_, _, _, _, _, _, _, g⟩
          · exact absurd g hm
          · rcases g with ⟨c, _⟩ | ⟨_, c2, c3⟩ | ⟨c, _⟩
            · rw [k2] at c; exact absurd c (by decide)
            · exact ⟨c2, c3⟩
            · rw [k2] at c; exact absurd c (by decide)
        obtain ⟨hn, p, e1, e2, p1, p2⟩ := hn
        rcases hn with ⟨d1, d2⟩ | ⟨d, d1, d2, d3, d4⟩
        · have eX : upd nxt (nI j).toNatClampNeg (nI t + per (nI j).toNatClampNeg) = upd nxt j (nI (t + p)) := by rw [kj, e1, nI_add]
          have eY : upd nex (nI j).toNatClampNeg (nI t + prd (nI j).toNatClampNeg) = upd nex j (nI (t + p)) := by rw [kj, e2, nI_add]
          refine ⟨upd nxt j (nI (t + p)), upd nex j (nI (t + p)), ?_, fun post hp => X0 _ (br_f n1 ⟨ar_in, br_t (ar_c (by rw [f1]; exact k2)) ⟨ar_in, br_t (ar_c d1) ⟨ar_in, ar_in, nm_r eX hp⟩⟩⟩), fun P hp => br_f pj ⟨ar_in, br_t (ar_c k2) ⟨ar_in, br_f (by rw [kj, d2]; decide) ⟨ar_in, ar_in, nm_r eY hp⟩⟩⟩⟩
          intro i hi
          by_cases e : i = j
          · subst e
            rw [pk_us, pk_us]
            rcases hJj with ⟨g, _⟩ | ⟨g1, g2, g3, g4, g5, g6, g7, _⟩
            · exact absurd g hm
            · exact Or.inr ⟨g1, g2, g3, g4, g5, g6, g7, Or.inr (Or.inl ⟨Or.inr k2, Or.inr ⟨t + p, rfl, rfl, (by show t ≤ t + p; omega), by omega⟩, p, e1, e2, p1, p2⟩)⟩
          · rw [pk_un e, pk_un e]
            exact hJ i hi
        · refine ⟨nxt, nex, hJ, fun post hp => X0 _ (br_f n1 ⟨ar_in, br_t (ar_c (by rw [f1]; exact k2)) ⟨ar_in, br_f (ar_n (by rw [d1]; exact ar_ne2 (by omega))) hp⟩⟩), fun P hp => br_f pj ⟨ar_in, br_t (ar_c k2) ⟨ar_in, br_t ?_ hp⟩⟩⟩
          rw [kj, d2]
          exact nI_pos' (by omega)
      · exact ⟨nxt, nex, hJ, fun post hp => X0 _ (br_f n1 ⟨ar_in, br_f (ar_n (by rw [f1]; exact k2)) hp⟩), fun P hp => br_f pj ⟨ar_in, br_f (ar_n k2) hp⟩⟩
theorem rw_up {t W i : Nat} {bsy wjb wen doi ens : Nat → Int32} (h : rl_W i t W bsy wjb wen doi ens) (hi : (bsy i = 0 ∧ ens i = 0) ∨ ∃ e, ens i = nI e ∧ t < e ∧ e ≤ 1000200) : rl_W (i + 1) t W bsy wjb wen doi ens := by
  intro w hw
  rcases h w hw with g | ⟨g1, g2, ⟨e, e1, e2, e3, e4, e5, e6⟩, g4, g5⟩
  · exact Or.inl g
  · refine Or.inr ⟨g1, g2, ⟨e, e1, e2, e3, fun hw2 => ?_, e5, e6⟩, g4, g5⟩
    by_cases c : w = i
    · subst c
      rcases hi with ⟨z, _⟩ | ⟨f, f1, f2, f3⟩
      · rw [g1] at z; exact absurd z (by decide)
      · rw [e1] at f1
        have := ar_eq f1
        omega
    · exact e4 (by omega)
theorem er_loop (W t rs : Nat) (st nd np no nm ask : Int32) (made kin dur pri ovl mis per mnt hrs day mon wkd sta los msd mss wai req wjb wen kjb kst kdu knd prd sets mnw wdu doi his fld : Nat → Int32) (hW : W ≤ 3) (ht : t ≤ 1000000) (ht1 : 1 ≤ t) : ∀ d i, i + d = W → ∀ (nxt bsy nex ens : Nat → Int32), rl_J (fun _ => t) st made kin mis dur per mnt hrs day mon wkd nxt mss knd nex prd sets mnw wai → rl_W i t W bsy wjb wen doi ens → ∃ nxt' bsy' nex' ens' : Nat → Int32, rl_J (fun _ => t) st made kin mis dur per mnt hrs day mon wkd nxt' mss knd nex' prd sets mnw wai ∧ rl_W 3 t W bsy' wjb wen doi ens' ∧ (∀ post : SX → Prop, post ((nI W), (nI t), st, (nI rs), nd, np, no, nm, made, kin, dur, pri, ovl, mis, per, mnt, hrs, day, mon, wkd, nxt', sta, los, msd, mss, wai, req, bsy', wjb, wen, kjb, kst, kdu) → wX_endRuns_2 post (3 - i + 1) (nI i) (nI W) (nI t) st (nI rs) nd np no nm made kin dur pri ovl mis per mnt hrs day mon wkd nxt sta los msd mss wai req bsy wjb wen kjb kst kdu) ∧ (∀ post : SY → Prop, (∃ n106 : Nat, wY_tick_106 post n106 0 (nI W) (nI t) (nI rs) st nd np no nm ask knd dur pri ovl mis nex' prd sets sta los msd mnw wai wdu doi ens' his (fd_f t fld 5)) → wY_tick_12 post (nI W) (nI t) (nI rs) st nd np no nm ask (d + 1) (nI i) knd dur pri ovl mis nex prd sets sta los msd mnw wai wdu doi ens his fld) := by
  intro d
  induction d with
  | zero =>
    intro i hi nxt bsy nex ens hJ hK
    have tail : ∀ d i, i + d = 3 → W ≤ i → ∀ post : SX → Prop, post ((nI W), (nI t), st, (nI rs), nd, np, no, nm, made, kin, dur, pri, ovl, mis, per, mnt, hrs, day, mon, wkd, nxt, sta, los, msd, mss, wai, req, bsy, wjb, wen, kjb, kst, kdu) → wX_endRuns_2 post (d + 1) (nI i) (nI W) (nI t) st (nI rs) nd np no nm made kin dur pri ovl mis per mnt hrs day mon wkd nxt sta los msd mss wai req bsy wjb wen kjb kst kdu := by
      intro d
      induction d with
      | zero => intro i hi _ post hp; exact pk_le 3 i (fun _ => hp) (fun z => absurd z (by omega))
      | succ d ih =>
        intro i hi hw post hp
        rcases hK i (by omega) with ⟨b0, _⟩ | ⟨_, g, _⟩
        · exact pk_le 3 i (fun z => absurd z (by omega)) (fun _ => ⟨ar_in, br_t (ar_c b0) (nm_r (nI_1 i) (ih (i + 1) (by omega) (by omega) post hp))⟩)
        · exact absurd g (by omega)
    refine ⟨nxt, bsy, nex, ens, hJ, ?_, tail (3 - i) i (by omega) (by omega), fun post hp => pk_le W i (fun _ => yr_read2 _ _ _ _ _ _ _ _ _ _ _ _ _ _ _ _ _ _ _ _ _ _ _ _ _ _ _ t (by omega) _ hp) (fun z => absurd z (by omega))⟩
    intro w hw
    rcases hK w hw with g | ⟨g1, g2, ⟨e, e1, e2, e3, e4, e5, e6⟩, g4, g5⟩
    · exact Or.inl g
    · exact Or.inr ⟨g1, g2, ⟨e, e1, e2, e3, fun _ => e4 (by omega), e5, e6⟩, g4, g5⟩
  | succ d ih =>
    intro i hi nxt bsy nex ens hJ hK
    have kj : (nI i).toNatClampNeg = i := ar_k
    have e3' : 3 - i + 1 = (3 - (i + 1) + 1) + 1 := by omega
    rw [e3']
    rcases hK i (by omega) with ⟨b0, e0⟩ | ⟨b1, _, ⟨e, e1, e2, e3, _, e5, e6⟩, g4, g5⟩
    · obtain ⟨nxt', bsy', nex', ens', q1, q2, q3, q4⟩ := ih (i + 1) (by omega) nxt bsy nex ens hJ (rw_up hK (Or.inl ⟨b0, e0⟩))
      have ne : ¬ ens (nI i).toNatClampNeg = nI t := by
        rw [kj, e0]
        exact fun z => nI_ne0 (by omega) (by omega) z.symm
      exact ⟨nxt', bsy', nex', ens', q1, q2, fun post hp => pk_le 3 i (fun z => absurd z (by omega)) (fun _ => ⟨ar_in, br_t (ar_c b0) (nm_r (nI_1 i) (q3 post hp))⟩), fun post hp => pk_le W i (fun z => absurd z (by omega)) (fun _ => ⟨ar_in, br_f ne (nm_r (nI_1 i) (q4 post hp))⟩)⟩
    · have nb : ¬ bsy (nI i).toNatClampNeg = 0 := by rw [kj, b1]; decide
      have w1 : wen (nI i).toNatClampNeg = nI e := ar_c e2
      by_cases hte : t < e
      · obtain ⟨nxt', bsy', nex', ens', q1, q2, q3, q4⟩ := ih (i + 1) (by omega) nxt bsy nex ens hJ (rw_up hK (Or.inr ⟨e, e1, hte, e5⟩))
        have ne : ¬ ens (nI i).toNatClampNeg = nI t := by
          rw [kj, e1]
          exact ar_inj (by omega)
        exact ⟨nxt', bsy', nex', ens', q1, q2, fun post hp => pk_le 3 i (fun z => absurd z (by omega)) (fun _ => ⟨ar_in, br_f nb ⟨ar_in, pk_lt t e (fun _ => nm_r (nI_1 i) (q3 post hp)) (fun z => absurd z (by omega)) rfl w1⟩⟩), fun post hp => pk_le W i (fun z => absurd z (by omega)) (fun _ => ⟨ar_in, br_f ne (nm_r (nI_1 i) (q4 post hp))⟩)⟩
      · have ee : e = t := by omega
        subst ee
        have hx : wjb (nI i).toNatClampNeg = -1 ∨ ∃ j, j < 12 ∧ wjb (nI i).toNatClampNeg = nI j := by rw [kj]; exact g5
        have ed : doi (nI i).toNatClampNeg = wjb (nI i).toNatClampNeg := by rw [kj, g4]
        obtain ⟨nxt1, nex1, r1, r2, r3⟩ := le_sim W e rs st nd np no nm ask made kin dur pri ovl mis per mnt hrs day mon wkd nxt sta los msd mss wai req (upd bsy i 0) wjb wen kjb kst kdu knd nex prd sets mnw wdu doi ens his fld ht hJ _ hx
        have hK2 : rl_W (i + 1) e W (upd bsy i 0) wjb wen doi (upd ens i 0) := by
          refine rw_up (fun w hw => ?_) (Or.inl ⟨pk_us, pk_us⟩)
          by_cases c : w = i
          · subst c
            exact Or.inl ⟨pk_us, pk_us⟩
          · rw [pk_un c, pk_un c]
            exact hK w hw
        obtain ⟨nxt', bsy', nex', ens', q1, q2, q3, q4⟩ := ih (i + 1) (by omega) nxt1 (upd bsy i 0) nex1 (upd ens i 0) r1 hK2
        refine ⟨nxt', bsy', nex', ens', q1, q2, fun post hp => pk_le 3 i (fun z => absurd z (by omega)) (fun _ => ⟨ar_in, br_f nb ⟨ar_in, pk_lt e e (fun z => absurd z (by omega)) (fun _ => ⟨ar_in, nm_r ar_ub0 ⟨ar_in, r2 _ (nm_r (nI_1 i) (q3 post hp))⟩⟩) rfl w1⟩⟩), fun post hp => pk_le W i (fun z => absurd z (by omega)) (fun _ => ⟨ar_in, br_t (ar_c e1) ⟨ar_in, nm_r ar_u ⟨ar_in, nm_r ed (r3 (fun nex => ∀ y : Int32, y = nI i + 1 → wY_tick_12 post (nI W) (nI e) (nI rs) st nd np no nm ask (d + 1) y knd dur pri ovl mis nex prd sets sta los msd mnw wai wdu doi (upd ens i 0) his fld) (nm_r (nI_1 i) (q4 post hp)))⟩⟩⟩)⟩
theorem ad_loop (K n : Nat) (hK0 : K ≤ 3079) (hn : n ≤ 30000) : ∀ d i, i + d = n → ∀ (W t rs : Nat) (st nd np no nm ask : Int32) (made kin dur pri ovl mis per mnt hrs day mon wkd nxt sta los msd mss wai req bsy wjb wen kjb kst kdu knd nex prd sets mnw wdu doi ens his fld : Nat → Int32), rl_R K W t rs st nd np no nm ask made kin dur pri ovl mis per mnt hrs day mon wkd nxt sta los msd mss wai req bsy wjb wen kjb kst kdu knd nex prd sets mnw wdu doi ens his fld → ∃ r u' v', i_Rel K u' v' ∧ (∀ post : Int32 → SX → Prop, post r u' → wX_advance_15 post (nI n) (d + 1) (nI i) (nI W) (nI t) st (nI rs) nd np no nm made kin dur pri ovl mis per mnt hrs day mon wkd nxt sta los msd mss wai req bsy wjb wen kjb kst kdu) ∧ (∀ post : Int32 → SY → Prop, post r v' → wY_advance_15 post (nI n) (d + 1) (nI i) (nI W) (nI t) (nI rs) st nd np no nm ask knd dur pri ovl mis nex prd sets sta los msd mnw wai wdu doi ens his fld) := by
  intro d
  induction d with
  | zero =>
    intro i hi W t rs st nd np no nm ask made kin dur pri ovl mis per mnt hrs day mon wkd nxt sta los msd mss wai req bsy wjb wen kjb kst kdu knd nex prd sets mnw wdu doi ens his fld h
    exact ⟨nI t, _, _, rl_mk W t rs st nd np no nm ask made kin dur pri ovl mis per mnt hrs day mon wkd nxt sta los msd mss wai req bsy wjb wen kjb kst kdu knd nex prd sets mnw wdu doi ens his fld _ h, fun post hp => pk_le n i (fun _ => hp) (fun z => absurd z (by omega)), fun post hp => pk_le n i (fun _ => hp) (fun z => absurd z (by omega))⟩
  | succ d ih =>
    intro i hi W t rs st nd np no nm ask made kin dur pri ovl mis per mnt hrs day mon wkd nxt sta los msd mss wai req bsy wjb wen kjb kst kdu knd nex prd sets mnw wdu doi ens his fld h
    obtain ⟨hW1, hW3, ht, hRs, hst, hnd, hnm, hJ, hK, hQ, hA, hH, hT⟩ := id h
    by_cases hend : 1000000 ≤ t
    · exact ⟨nI t, _, _, rl_mk W t rs st nd np no nm ask made kin dur pri ovl mis per mnt hrs day mon wkd nxt sta los msd mss wai req bsy wjb wen kjb kst kdu knd nex prd sets mnw wdu doi ens his fld _ h, fun post hp => pk_le n i (fun z => absurd z (by omega)) (fun _ => pk_le 1000000 t (fun _ => hp) (fun z => absurd z (by omega))), fun post hp => pk_le n i (fun z => absurd z (by omega)) (fun _ => pk_le 1000000 t (fun _ => hp) (fun z => absurd z (by omega)))⟩
    · have hK2 : rl_W 0 (t + 1) W bsy wjb wen doi ens := by
        intro w hw
        rcases hK w hw with g | ⟨g1, g2, ⟨e, e1, e2, e3, e4, e5, e6⟩, g4, g5⟩
        · exact Or.inl g
        · have := e4 hw
          exact Or.inr ⟨g1, g2, ⟨e, e1, e2, by omega, fun z => absurd z (by omega), e5, e6⟩, g4, g5⟩
      obtain ⟨nxt1, bsy1, nex1, ens1, a1, a2, a3, a4⟩ := er_loop W (t + 1) rs st nd np no nm ask made kin dur pri ovl mis per mnt hrs day mon wkd sta los msd mss wai req wjb wen kjb kst kdu knd prd sets mnw wdu doi his fld hW3 (by omega) (by omega) W 0 (by omega) nxt bsy nex ens hJ hK2
      have h1 : st_H (td_b (t + 1) 0) W (t + 1) rs st nd np no nm ask made kin dur pri ovl mis per mnt hrs day mon wkd nxt1 sta los msd mss wai req bsy1 wjb wen kjb kst kdu knd nex1 prd sets mnw wdu doi ens1 his (fd_f (t + 1) fld 5) := ⟨a1, a2, hQ, hA, hH, hT⟩
      obtain ⟨ask2, nxt2, los2, msd2, mss2, wai2, req2, nex2, mnw2, wdu2, b1, b2, b3⟩ := td_loop W (t + 1) rs st nd np no nm made kin dur pri ovl mis per mnt hrs day mon wkd sta bsy1 wjb wen kjb kst kdu knd prd sets doi ens1 his (fd_f (t + 1) fld 5) hW3 (by omega) hst (fd_F (t + 1) fld) 12 0 (by omega) ask nxt1 los msd mss wai req nex1 mnw wdu h1
      obtain ⟨rs', ask', sta', wai', req', bsy', wjb', wen', kjb', kst', kdu', wdu', doi', ens', his', q1, q2, q3, q4, q5⟩ := sm_start _ _ _ _ _ _ _ _ _ _ _ _ _ _ _ _ _ _ _ _ _ _ _ _ _ _ _ _ _ _ _ _ _ _ _ _ _ _ _ _ _ _ _ _ _ hW3 (by omega : t + 1 ≤ 1000000) hst b1 (by omega)
      have fr : rl_R K W (t + 1) rs' st nd np no nm ask' made kin dur pri ovl mis per mnt hrs day mon wkd nxt2 sta' los2 msd2 mss2 wai' req' bsy' wjb' wen' kjb' kst' kdu' knd nex2 prd sets mnw2 wdu' doi' ens' his' (fd_f (t + 1) fld 5) := ⟨hW1, hW3, by omega, by omega, hst, hnd, hnm, q1⟩
      obtain ⟨r, u', v', c1, c2, c3⟩ := ih (i + 1) (by omega) _ _ _ _ _ _ _ _ _ _ _ _ _ _ _ _ _ _ _ _ _ _ _ _ _ _ _ _ _ _ _ _ _ _ _ _ _ _ _ _ _ _ _ _ fr
      refine ⟨r, u', v', c1, fun post hp => pk_le n i (fun z => absurd z (by omega)) (fun _ => pk_le 1000000 t (fun z => absurd z (by omega)) (fun _ => nm_r (nI_1 t) ⟨_, a3 _ ⟨_, b2 _ (q4 _ (nm_r (nI_1 i) (c2 post hp)))⟩⟩)), fun post hp => pk_le n i (fun z => absurd z (by omega)) (fun _ => pk_le 1000000 t (fun z => absurd z (by omega)) (fun _ => ?_))⟩
      unfold wpY_tick
      dsimp only
      exact nm_r (nI_1 t) ⟨_, a4 _ ⟨_, b3 _ _ q5 (nm_r (nI_1 i) (c3 post hp))⟩⟩
theorem i_vc_advance {k : Nat} {u : SX} {v : SY} (I : i_Rel k u v) (hk : k + 6 ≤ 3073) (v1 : Int32) : wpX_advance (fun r u' => wpY_advance (fun r' v' => r' = r ∧ i_Rel (k + 6) u' v') v v1) u v1 := by
  obtain ⟨W, t, rs, st, nd, np, no, nm, ask, made, kin, dur, pri, ovl, mis, per, mnt, hrs, day, mon, wkd, nxt, sta, los, msd, mss, wai, req, bsy, wjb, wen, kjb, kst, kdu, knd, nex, prd, sets, mnw, wdu, doi, ens, his, fld, rfl, rfl, h⟩ := I
  have h0 := rl_up W t rs st nd np no nm ask made kin dur pri ovl mis per mnt hrs day mon wkd nxt sta los msd mss wai req bsy wjb wen kjb kst kdu knd nex prd sets mnw wdu doi ens his fld (m := k + 6) (by omega) h
  have h' := rl_mk W t rs st nd np no nm ask made kin dur pri ovl mis per mnt hrs day mon wkd nxt sta los msd mss wai req bsy wjb wen kjb kst kdu knd nex prd sets mnw wdu doi ens his fld _ h0
  have n1 : ¬ (1 : Int32) = 0 := by decide
  unfold wpX_advance wpY_advance
  dsimp only
  by_cases a1 : v1 < 0
  · exact br_t a1 (yr_within _ _ _ _ (fun z _ => absurd a1 z) (fun _ => br_t rfl ⟨rfl, h'⟩))
  by_cases a2 : v1 ≤ 30000
  · obtain ⟨n, hn, rfl⟩ := nI_of2 (x := v1) (M := 30000) (n := 30000) (by decide) a1 a2
    obtain ⟨r, u', v', c1, c2, c3⟩ := ad_loop (k + 6) n (by omega) hn n 0 (by omega) W t rs st nd np no nm ask made kin dur pri ovl mis per mnt hrs day mon wkd nxt sta los msd mss wai req bsy wjb wen kjb kst kdu knd nex prd sets mnw wdu doi ens his fld h0
    exact br_f a1 (br_t a2 ⟨_, c2 _ (yr_within _ _ _ _ (fun _ _ => br_f n1 ⟨_, c3 _ ⟨rfl, c1⟩⟩) (fun z => absurd z (by simp only [not_or]; exact ⟨a1, Int32.not_lt.mpr a2⟩)))⟩)
  · exact br_f a1 (br_f a2 (yr_within _ _ _ _ (fun _ z => absurd (Int32.not_le.mp a2) z) (fun _ => br_t rfl ⟨rfl, h'⟩)))
end
