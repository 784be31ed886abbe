theorem pk_us {f : Nat → Int32} {k : Nat} {x : Int32} : upd f k x k = x := if_pos rfl
theorem pk_un {f : Nat → Int32} {k j : Nat} {x : Int32} (h : j ≠ k) : upd f k x j = f j := if_neg h
theorem pk_sub {a b : Nat} (h : b ≤ a) : nI a - nI b = nI (a - b) := by
  obtain ⟨c, rfl⟩ : ∃ c, a = c + b := ⟨a - b, by omega⟩
  rw [← nI_add, Int32.add_sub_cancel, Nat.add_sub_cancel]
theorem pk_m1 (n : Nat) : nI (n + 1) + (-1) = nI n := by
  rw [← nI_1, Int32.add_assoc, show (1 : Int32) + (-1) = 0 from rfl, Int32.add_zero]
theorem pk_mul (a b : Nat) : nI a * nI b = nI (a * b) := (Int32.ofNat_mul a b).symm
theorem pk_div {a d : Nat} (ha : a < 2 ^ 31) (h0 : 0 < d) (hd : d < 2 ^ 31) : nI a / nI d = nI (a / d) := by
  apply Int32.toInt_inj.mp
  rw [lg_idiv_nonneg (by rw [nI_toInt ha]; omega) (by rw [nI_toInt hd]; omega), nI_toInt ha, nI_toInt hd, nI_toInt (Nat.lt_of_le_of_lt (Nat.div_le_self a d) ha)]
  first | rfl | exact (Int.natCast_ediv _ _).symm
theorem pk_rem {a d : Nat} (ha : a < 2 ^ 31) (h0 : 0 < d) (hd : d < 2 ^ 31) : nI a - nI a / nI d * nI d = nI (a % d) := by
  rw [pk_div ha h0 hd, pk_mul, pk_sub (Nat.div_mul_le_self a d)]
  exact congrArg nI (by have := Nat.div_add_mod' a d; omega)
theorem pk_ix (x : Int32) {n : Nat} (hn : n < 2 ^ 31) : x < 0 ∨ nI n ≤ x ∨ ∃ j : Nat, j < n ∧ x = nI j := by
  by_cases h : x < 0
  · exact Or.inl h
  · obtain ⟨j, hj, rfl⟩ := nI_of h
    by_cases h2 : j < n
    · exact Or.inr (Or.inr ⟨j, h2, rfl⟩)
    · exact Or.inr (Or.inl (nI_le (by omega) hj))
theorem pk_le {x y : Int32} {A B : Prop} (a b : Nat) (f : a ≤ b → A) (g : b < a → B) (hx : x = nI a := by rfl) (hy : y = nI b := by rfl) (ha : a < 2 ^ 31 := by omega) (hb : b < 2 ^ 31 := by omega) : (x ≤ y → A) ∧ (¬ x ≤ y → B) := by
  subst hx hy
  rw [nI_leI ha hb]
  exact ⟨f, fun z => g (by omega)⟩
theorem pk_lt {x y : Int32} {A B : Prop} (a b : Nat) (f : a < b → A) (g : b ≤ a → B) (hx : x = nI a := by rfl) (hy : y = nI b := by rfl) (ha : a < 2 ^ 31 := by omega) (hb : b < 2 ^ 31 := by omega) : (x < y → A) ∧ (¬ x < y → B) := by
  subst hx hy
  rw [nI_ltI ha hb]
  exact ⟨f, fun z => g (by omega)⟩
theorem pk_eq {x y : Int32} {A B : Prop} (a b : Nat) (f : a = b → A) (g : a ≠ b → B) (hx : x = nI a := by rfl) (hy : y = nI b := by rfl) (ha : a < 2 ^ 31 := by omega) (hb : b < 2 ^ 31 := by omega) : (x = y → A) ∧ (¬ x = y → B) := by
  subst hx hy
  rw [nI_eq ha hb]
  exact ⟨f, g⟩
theorem pk_in {x : Int32} (n N : Nat) (h : n < N) (hx : x = nI n := by rfl) (hN : N < 2 ^ 31 := by omega) : vp_in x N := by
  subst hx
  exact vp_in_nI h hN
theorem pk_cl {x : Int32} (n : Nat) (hx : x = nI n := by rfl) (h : n < 2 ^ 31 := by omega) : x.toNatClampNeg = n := by
  subst hx
  exact nI_clamp h
def bt (x : Int32) (i : Nat) : Bool := x.toBitVec.getLsbD i
theorem b_ext {x y : Int32} (h : ∀ i, i < 32 → bt x i = bt y i) : x = y := Int32.toBitVec_inj.mp (BitVec.eq_of_getLsbD_eq (fun i hi => h i hi))
theorem b_and (x y : Int32) (i : Nat) : bt (x &&& y) i = (bt x i && bt y i) := by unfold bt; rw [Int32.toBitVec_and, BitVec.getLsbD_and]
theorem b_xor (x y : Int32) (i : Nat) : bt (x ^^^ y) i = (bt x i ^^ bt y i) := by unfold bt; rw [Int32.toBitVec_xor, BitVec.getLsbD_xor]
theorem b_big {x : Int32} {i : Nat} (h : 32 ≤ i) : bt x i = false := BitVec.getLsbD_of_ge _ _ h
theorem b_m1 : ∀ i, i < 32 → bt (-1) i = true := by decide +kernel
theorem b_0 (i : Nat) : bt 0 i = false := BitVec.getLsbD_zero

theorem ar_nb0 : vp_nar .boolean 0 = 0 := rfl
theorem ar_nb1 : vp_nar .boolean 1 = 1 := rfl
theorem ar_nw0 : narrow .boolean (.int 0) = .int 0 := rfl
theorem ar_nw1 : narrow .boolean (.int 1) = .int 1 := rfl
theorem ar_cl {a : Nat → Int32} {i : Nat} (h : i < 1000 := by omega) : a (nI i).toNatClampNeg = a i := by rw [nI_clamp (by omega)]
theorem ar_c {a : Nat → Int32} {i : Nat} {x : Int32} (h : a i = x) (hi : i < 1000 := by omega) : a (nI i).toNatClampNeg = x := by rw [nI_clamp (by omega)]; exact h
theorem ar_n {a : Nat → Int32} {i : Nat} {x : Int32} (h : ¬ a i = x) (hi : i < 1000 := by omega) : ¬ a (nI i).toNatClampNeg = x := by rw [nI_clamp (by omega)]; exact h
theorem ar_o {a : Nat → Int32} {i : Nat} {x : Int32} (h : a (nI i).toNatClampNeg = x) (hi : i < 1000 := by omega) : a i = x := by rw [nI_clamp (by omega)] at h; exact h
theorem ar_on {a : Nat → Int32} {i : Nat} {x : Int32} (h : ¬ a (nI i).toNatClampNeg = x) (hi : i < 1000 := by omega) : ¬ a i = x := by rw [nI_clamp (by omega)] at h; exact h
theorem ar_u {a : Nat → Int32} {i : Nat} {x : Int32} (hi : i < 1000 := by omega) : upd a (nI i).toNatClampNeg x = upd a i x := by rw [nI_clamp (by omega)]
theorem ar_k {i : Nat} (hi : i < 1000 := by omega) : (nI i).toNatClampNeg = i := nI_clamp (by omega)
theorem ar_m1 : (-1 : Int32) < 0 := by decide
theorem ar_m2 : (-2 : Int32) < 0 := by decide
theorem ar_ne1 {i : Nat} (h : i < 2147483648 := by omega) : ¬ nI i = -1 := by
  intro e
  exact nI_pos h (by rw [e]; decide)
theorem ar_ne2 {i : Nat} (h : i < 2147483648 := by omega) : ¬ nI i = -2 := by
  intro e
  exact nI_pos h (by rw [e]; decide)
theorem ar_le {a b : Nat} (h : a ≤ b) (hb : b < 2147483648 := by omega) : nI a ≤ nI b := nI_le h hb
theorem ar_nle {a b : Nat} (h : b < a) (hb : a < 2147483648 := by omega) : ¬ nI a ≤ nI b := nI_ge h hb
theorem ar_lt {a b : Nat} (h : a < b) (hb : b < 2147483648 := by omega) : nI a < nI b := nI_lt h hb
theorem ar_nlt {a b : Nat} (h : b ≤ a) (hb : a < 2147483648 := by omega) : ¬ nI a < nI b := nI_nlt h hb
theorem ar_eq {a b : Nat} (h : nI a = nI b) (ha : a < 2147483648 := by omega) (hb : b < 2147483648 := by omega) : a = b := (nI_eq ha hb).mp h
theorem ar_inj {a b : Nat} (h : a ≠ b) (ha : a < 2147483648 := by omega) (hb : b < 2147483648 := by omega) : ¬ nI a = nI b := fun e => h (ar_eq e ha hb)
theorem ar_in {i N : Nat} (h : i < N := by omega) (hN : N < 2147483648 := by omega) : vp_in (nI i) N := vp_in_nI h hN
theorem ar_x3 (j : Nat) : nI j * 3 = nI (3 * j) := by
  rw [show (3 : Int32) = nI 3 from rfl, pk_mul, Nat.mul_comm]
theorem ar_3x (j : Nat) : 3 * nI j = nI (3 * j) := by
  rw [show (3 : Int32) = nI 3 from rfl, pk_mul]
theorem ar_5x (j : Nat) : 5 * nI j = nI (5 * j) := by
  rw [show (5 : Int32) = nI 5 from rfl, pk_mul]
theorem ar_mask (x m : Int32) (k : Nat) (hm : ∀ i, i < 32 → bt m i = decide (i < k)) : (x &&& (m ^^^ (-1))) = 0 ↔ x.toBitVec.toNat < 2 ^ k := by
  constructor
  · intro h
    apply Nat.lt_pow_two_of_testBit
    intro i hi
    show bt x i = false
    rcases Nat.lt_or_ge i 32 with h3 | h3
    · have e := congrArg (fun z => bt z i) h
      rw [b_and, b_xor, b_m1 i h3, hm i h3, b_0, decide_eq_false (by omega)] at e
      simpa using e
    · exact b_big h3
  · intro h
    apply b_ext
    intro i hi
    rw [b_and, b_xor, b_m1 i hi, hm i hi, b_0]
    by_cases hk : i < k
    · simp [hk]
    · have : bt x i = false := by
        show x.toBitVec.toNat.testBit i = false
        exact Nat.testBit_lt_two_pow (Nat.lt_of_lt_of_le h (Nat.pow_le_pow_right (by decide) (by omega)))
      simp [this]
theorem ar_tn {x : Int32} {k : Nat} (hk : k < 31) (h : x.toBitVec.toNat < 2 ^ k) : x = nI x.toBitVec.toNat := by
  apply Int32.toBitVec_inj.mp
  apply BitVec.eq_of_toNat_eq
  show _ = (BitVec.ofNat 32 _).toNat
  rw [BitVec.toNat_ofNat]
  exact (Nat.mod_eq_of_lt x.toBitVec.isLt).symm
/-- a set of k bits, as both sides test it -/
theorem ar_set (x m : Int32) (k : Nat) (hk : k < 31) (hm : ∀ i, i < 32 → bt m i = decide (i < k)) : (¬ x = 0 ∧ (x &&& (m ^^^ (-1))) = 0) ↔ (¬ x ≤ 0 ∧ ¬ nI (2 ^ k) ≤ x) := by
  have h2 : 2 ^ k < 2 ^ 31 := Nat.pow_lt_pow_right (by decide) hk
  rw [ar_mask x m k hm]
  constructor
  · intro ⟨h0, h⟩
    have e := ar_tn hk h
    generalize x.toBitVec.toNat = n at e h
    subst e
    have hn : n ≠ 0 := fun z => h0 (by rw [z]; rfl)
    exact ⟨nI_nle (by omega) (by omega), nI_ge h h2⟩
  · intro ⟨h0, h⟩
    have hx : ¬ x < 0 := fun z => h0 (Int32.le_of_lt z)
    obtain ⟨n, hn, rfl⟩ := nI_of hx
    rw [nI_leI h2 hn] at h
    refine ⟨fun z => h0 (by rw [z]; decide), ?_⟩
    show (BitVec.ofNat 32 n).toNat < _
    rw [BitVec.toNat_ofNat, Nat.mod_eq_of_lt (by omega)]
    omega
theorem ar_b1023 : ∀ i, i < 32 → bt 1023 i = decide (i < 10) := by decide +kernel
theorem ar_b255 : ∀ i, i < 32 → bt 255 i = decide (i < 8) := by decide +kernel
theorem ar_b15 : ∀ i, i < 32 → bt 15 i = decide (i < 4) := by decide +kernel
theorem ar_b127 : ∀ i, i < 32 → bt 127 i = decide (i < 7) := by decide +kernel
/-- calendar -/
def ca_has (s f : Int32) : Prop := ((s >>> (f &&& 31)) &&& 1) = 1
def ca_fit (s0 s1 s2 s3 s4 : Int32) (t : Nat) : Prop := ca_has s0 (nI (t % 10)) ∧ ca_has s1 (nI (t / 10 % 8)) ∧ ca_has s3 (nI (t / 800 % 4)) ∧ (((s2 = 1023 ∨ s4 = 127) ∧ ca_has s2 (nI (t / 80 % 10)) ∧ ca_has s4 (nI (t / 80 % 7))) ∨ (¬ (s2 = 1023 ∨ s4 = 127) ∧ (ca_has s2 (nI (t / 80 % 10)) ∨ ca_has s4 (nI (t / 80 % 7)))))
theorem ca_per (s0 s1 s2 s3 s4 : Int32) (t : Nat) : ca_fit s0 s1 s2 s3 s4 (t + 22400) ↔ ca_fit s0 s1 s2 s3 s4 t := by
  unfold ca_fit
  rw [show (t + 22400) % 10 = t % 10 by omega, show (t + 22400) / 10 % 8 = t / 10 % 8 by omega, show (t + 22400) / 800 % 4 = t / 800 % 4 by omega, show (t + 22400) / 80 % 10 = t / 80 % 10 by omega, show (t + 22400) / 80 % 7 = t / 80 % 7 by omega]
theorem ca_nev {s0 s1 s2 s3 s4 : Int32} {b : Nat} (h : ∀ s, b ≤ s → s < b + 22400 → ¬ ca_fit s0 s1 s2 s3 s4 s) : ∀ s, b ≤ s → ¬ ca_fit s0 s1 s2 s3 s4 s := by
  intro s
  induction s using Nat.strongRecOn with
  | ind s ih =>
    intro hb
    rcases Nat.lt_or_ge s (b + 22400) with h1 | h1
    · exact h s hb h1
    · obtain ⟨r, rfl⟩ : ∃ r, s = r + 22400 := ⟨s - 22400, by omega⟩
      rw [ca_per]
      exact ih r (by omega) (by omega)
theorem ar_rem {s d : Nat} (hs : s < 2147483648) (h0 : 0 < d) (hd : d < 1000) : nI s - nI s / nI d * nI d = nI (s % d) := pk_rem (by omega) h0 (by omega)
theorem ar_rem2 {s c d : Nat} (hs : s < 2147483648) (hc : 0 < c) (hc2 : c < 1000) (h0 : 0 < d) (hd : d < 1000) : nI s / nI c - nI s / nI c / nI d * nI d = nI (s / c % d) := by
  have := Nat.div_le_self s c
  rw [pk_div (by omega) hc (by omega)]
  exact pk_rem (by omega) h0 (by omega)
