def rl_n (b : Nat) (nx ne : Int32) : Prop := (nx = -2 ∧ ne = -1) ∨ ∃ d, nx = nI d ∧ ne = nI d ∧ b ≤ d ∧ d ≤ 1100000
def rl_c (b : Nat) (s0 s1 s2 s3 s4 nx : Int32) : Prop := (nx = -2 ∧ ∀ s, b ≤ s → ¬ ca_fit s0 s1 s2 s3 s4 s) ∨ ∃ d, nx = nI d ∧ b ≤ d ∧ d ≤ 1100000 ∧ ca_fit s0 s1 s2 s3 s4 d ∧ ∀ s, b ≤ s → s < d → ¬ ca_fit s0 s1 s2 s3 s4 s
/-- one job: b is the earliest time at which it may be due next -/
def rl_j (b : Nat) (st ma ki mi du pe mt hr dy mo wd nx ms kn ne pr s0 s1 s2 s3 s4 mn wa : Int32) : Prop :=
  (ma = 0 ∧ kn = -1 ∧ wa = 0) ∨
  (ma = 1 ∧ ki = kn ∧ ms = mn ∧ (∃ m, mn = nI m ∧ m + 1 ≤ b) ∧ (st = 0 → mn = 0) ∧ (mi = 0 ∨ mi = 1 ∨ mi = 2) ∧ (∃ d, du = nI d ∧ 1 ≤ d ∧ d ≤ 200) ∧
   ((kn = 0 ∧ rl_n b nx ne) ∨ ((kn = 1 ∨ kn = 2) ∧ rl_n b nx ne ∧ ∃ p, pe = nI p ∧ pr = nI p ∧ 1 ≤ p ∧ p ≤ 2000) ∨ (kn = 3 ∧ (mt = s0 ∧ hr = s1 ∧ dy = s2 ∧ mo = s3 ∧ wd = s4) ∧ rl_c b mt hr dy mo wd nx)))
def rl_J (b : Nat → Nat) (st : Int32) (made kin mis dur per mnt hrs day mon wkd nxt mss knd nex prd sets mnw wai : Nat → Int32) : Prop :=
  ∀ j, j < 12 → rl_j (b j) st (made j) (kin j) (mis j) (dur j) (per j) (mnt j) (hrs j) (day j) (mon j) (wkd j) (nxt j) (mss j) (knd j) (nex j) (prd j) (sets (5 * j)) (sets (5 * j + 1)) (sets (5 * j + 2)) (sets (5 * j + 3)) (sets (5 * j + 4)) (mnw j) (wai j)
/-- the workers; those below wb have been looked at in this tick -/
def rl_W (wb t W : Nat) (bsy wjb wen doi ens : Nat → Int32) : Prop :=
  ∀ w, w < 3 → (bsy w = 0 ∧ ens w = 0) ∨ (bsy w = 1 ∧ w < W ∧ (∃ e, ens w = nI e ∧ wen w = nI e ∧ t ≤ e ∧ (w < wb → t < e) ∧ e ≤ 1000200 ∧ 1 ≤ e) ∧ wjb w = doi w ∧ (wjb w = -1 ∨ ∃ j, j < 12 ∧ wjb w = nI j))
def rl_Q (wai req wdu : Nat → Int32) : Prop := ∀ j, j < 12 → ∃ n, wai j = nI n ∧ n ≤ 3 ∧ ∀ i, i < n → req (3 * j + i) = wdu (3 * j + i)
def rl_S (wai : Nat → Int32) : Nat → Int32
  | 0 => 0
  | n + 1 => rl_S wai n + wai n
def rl_H (rs : Nat) (kjb kst kdu his : Nat → Int32) : Prop := ∀ k, k < 16 → k < rs → his (3 * k) = kjb ((rs - 1 - k) % 16) ∧ his (3 * k + 1) = kst ((rs - 1 - k) % 16) ∧ his (3 * k + 2) = kdu ((rs - 1 - k) % 16)
def rl_T (rs : Nat) (sta : Nat → Int32) : Prop := ∀ j, j < 12 → ∃ m, sta j = nI m ∧ m ≤ rs
def rl_R (K : Nat) (W t rs : Nat) (st nd np no nm ask : Int32) (made kin dur pri ovl mis per mnt hrs day mon wkd nxt sta los msd mss wai req bsy wjb wen kjb kst kdu knd nex prd sets mnw wdu doi ens his fld : Nat → Int32) : Prop :=
  1 ≤ W ∧ W ≤ 3 ∧ t ≤ 1000000 ∧ rs ≤ 3 * t + K ∧ (st = 0 ∨ st = 1) ∧ (∃ d, nd = nI d ∧ 1 ≤ d ∧ d ≤ 200) ∧ (nm = 0 ∨ nm = 1 ∨ nm = 2) ∧ rl_J (fun _ => t + 1) st made kin mis dur per mnt hrs day mon wkd nxt mss knd nex prd sets mnw wai ∧ rl_W 3 t W bsy wjb wen doi ens ∧ rl_Q wai req wdu ∧ ask = rl_S wai 12 ∧ rl_H rs kjb kst kdu his ∧ rl_T rs sta
/-- the relation at the head of a turn whose first cell is k -/
def i_Rel (k : Nat) (u : SX) (v : SY) : Prop := ∃ (W t rs : Nat) (st nd np no nm ask : Int32) (made kin dur pri ovl mis per mnt hrs day mon wkd nxt sta los msd mss wai req bsy wjb wen kjb kst kdu knd nex prd sets mnw wdu doi ens his fld : Nat → Int32), u = ((nI W), (nI t), st, (nI rs), nd, np, no, nm, made, kin, dur, pri, ovl, mis, per, mnt, hrs, day, mon, wkd, nxt, sta, los, msd, mss, wai, req, bsy, wjb, wen, kjb, kst, kdu) ∧ v = ((nI W), (nI t), (nI rs), st, nd, np, no, nm, ask, knd, dur, pri, ovl, mis, nex, prd, sets, sta, los, msd, mnw, wai, wdu, doi, ens, his, fld) ∧ rl_R k W t rs st nd np no nm ask made kin dur pri ovl mis per mnt hrs day mon wkd nxt sta los msd mss wai req bsy wjb wen kjb kst kdu knd nex prd sets mnw wdu doi ens his fld
theorem rl_mk (W t rs : Nat) (st nd np no nm ask : Int32) (made kin dur pri ovl mis per mnt hrs day mon wkd nxt sta los msd mss wai req bsy wjb wen kjb kst kdu knd nex prd sets mnw wdu doi ens his fld : Nat → Int32) (k : Nat) (h : rl_R k W t rs st nd np no nm ask made kin dur pri ovl mis per mnt hrs day mon wkd nxt sta los msd mss wai req bsy wjb wen kjb kst kdu knd nex prd sets mnw wdu doi ens his fld) : i_Rel k ((nI W), (nI t), st, (nI rs), nd, np, no, nm, made, kin, dur, pri, ovl, mis, per, mnt, hrs, day, mon, wkd, nxt, sta, los, msd, mss, wai, req, bsy, wjb, wen, kjb, kst, kdu) ((nI W), (nI t), (nI rs), st, nd, np, no, nm, ask, knd, dur, pri, ovl, mis, nex, prd, sets, sta, los, msd, mnw, wai, wdu, doi, ens, his, fld) := ⟨W, t, rs, st, nd, np, no, nm, ask, made, kin, dur, pri, ovl, mis, per, mnt, hrs, day, mon, wkd, nxt, sta, los, msd, mss, wai, req, bsy, wjb, wen, kjb, kst, kdu, knd, nex, prd, sets, mnw, wdu, doi, ens, his, fld, rfl, rfl, h⟩
theorem rl_up {k m : Nat} (W t rs : Nat) (st nd np no nm ask : Int32) (made kin dur pri ovl mis per mnt hrs day mon wkd nxt sta los msd mss wai req bsy wjb wen kjb kst kdu knd nex prd sets mnw wdu doi ens his fld : Nat → Int32) (hm : k ≤ m) (h : rl_R k W t rs st nd np no nm ask made kin dur pri ovl mis per mnt hrs day mon wkd nxt sta los msd mss wai req bsy wjb wen kjb kst kdu knd nex prd sets mnw wdu doi ens his fld) : rl_R m W t rs st nd np no nm ask made kin dur pri ovl mis per mnt hrs day mon wkd nxt sta los msd mss wai req bsy wjb wen kjb kst kdu knd nex prd sets mnw wdu doi ens his fld := by
  obtain ⟨h1, h2, h3, h4, h5⟩ := h
  exact ⟨h1, h2, h3, by omega, h5⟩
theorem i_up {k : Nat} {u : SX} {v : SY} (h : i_Rel k u v) : i_Rel (k + 6) u v := by
  obtain ⟨W, t, rs, st, nd, np, no, nm, ask, made, kin, dur, pri, ovl, mis, per, mnt, hrs, day, mon, wkd, nxt, sta, los, msd, mss, wai, req, bsy, wjb, wen, kjb, kst, kdu, knd, nex, prd, sets, mnw, wdu, doi, ens, his, fld, rfl, rfl, h⟩ := h
  exact rl_mk W t rs st nd np no nm ask made kin dur pri ovl mis per mnt hrs day mon wkd nxt sta los msd mss wai req bsy wjb wen kjb kst kdu knd nex prd sets mnw wdu doi ens his fld _ (rl_up W t rs st nd np no nm ask made kin dur pri ovl mis per mnt hrs day mon wkd nxt sta los msd mss wai req bsy wjb wen kjb kst kdu knd nex prd sets mnw wdu doi ens his fld (by omega) h)
/-! what the pieces give -/
theorem rl_m0 {b : Nat} {st ma ki mi du pe mt hr dy mo wd nx ms kn ne pr s0 s1 s2 s3 s4 mn wa : Int32} (h : rl_j b st ma ki mi du pe mt hr dy mo wd nx ms kn ne pr s0 s1 s2 s3 s4 mn wa) (e : ma = 0) : kn = -1 ∧ wa = 0 := by
  rcases h with ⟨_, h⟩ | ⟨h, _⟩
  · exact h
  · rw [h] at e; exact absurd e (by decide)
theorem rl_k0 {b : Nat} {st ma ki mi du pe mt hr dy mo wd nx ms kn ne pr s0 s1 s2 s3 s4 mn wa : Int32} (h : rl_j b st ma ki mi du pe mt hr dy mo wd nx ms kn ne pr s0 s1 s2 s3 s4 mn wa) (e : kn < 0) : ma = 0 := by
  rcases h with ⟨h, _⟩ | ⟨_, _, _, _, _, _, _, h⟩
  · exact h
  · rcases h with ⟨h, _⟩ | ⟨h | h, _⟩ | ⟨h, _⟩
    all_goals (rw [h] at e; exact absurd e (by decide))
theorem rl_m1 {b : Nat} {st ma ki mi du pe mt hr dy mo wd nx ms kn ne pr s0 s1 s2 s3 s4 mn wa : Int32} (h : rl_j b st ma ki mi du pe mt hr dy mo wd nx ms kn ne pr s0 s1 s2 s3 s4 mn wa) (e : ¬ ma = 0) : ¬ kn < 0 := fun z => e (rl_k0 h z)
theorem rl_PQ {wb t W : Nat} {bsy wjb wen doi ens : Nat → Int32} (hW : W ≤ 3) (h : rl_W wb t W bsy wjb wen doi ens) (x : Int32) : hp_P bsy wjb x ↔ hp_Q W ens doi x := by
  constructor
  · rintro ⟨w, hw, hb, he⟩
    rcases h w hw with ⟨g, _⟩ | ⟨_, g, ⟨e, e1, _, _, _, e5, e6⟩, g2, _⟩
    · exact absurd g hb
    · exact ⟨w, g, by rw [e1]; exact nI_nle (by omega) (by omega), by rw [← g2]; exact he⟩
  · rintro ⟨w, hw, hb, he⟩
    rcases h w (by omega) with ⟨_, g⟩ | ⟨g, _, _, g2, _⟩
    · rw [g] at hb; exact absurd (by decide) hb
    · exact ⟨w, by omega, by rw [g]; decide, by rw [g2]; exact he⟩
theorem up_id {a : Nat → Int32} {i : Nat} {x : Int32} (h : a i = x) : upd a i x = a := by
  funext j
  by_cases e : j = i
  · rw [e, pk_us, h]
  · rw [pk_un e]
theorem rl_Su {wai : Nat → Int32} {i : Nat} {x : Int32} : ∀ n, rl_S (upd wai i x) n = if i < n then rl_S wai n - wai i + x else rl_S wai n := by
  intro n
  induction n with
  | zero => rfl
  | succ n ih =>
    show rl_S (upd wai i x) n + upd wai i x n = _
    rw [ih]
    by_cases h : i < n
    · rw [if_pos h, if_pos (by omega), pk_un (by omega)]
      show _ = rl_S wai n + wai n - wai i + x
      grind
    · rw [if_neg h]
      by_cases e : i = n
      · rw [if_pos (by omega), e, pk_us]
        show _ = rl_S wai n + wai n - wai n + x
        grind
      · rw [if_neg (by omega), pk_un (by omega)]
        rfl
theorem rl_Sp {wai req wdu : Nat → Int32} (h : rl_Q wai req wdu) : ∀ n, n ≤ 12 → ∃ s, rl_S wai n = nI s ∧ s ≤ 3 * n ∧ ∀ j, j < n → ∀ m, m ≤ 3 → wai j = nI m → m ≤ s := by
  intro n
  induction n with
  | zero => intro _; exact ⟨0, rfl, by omega, fun j hj => absurd hj (by omega)⟩
  | succ n ih =>
    intro hn
    obtain ⟨s, e, hs, hm⟩ := ih (by omega)
    obtain ⟨q, eq, hq, _⟩ := h n (by omega)
    refine ⟨s + q, by show rl_S wai n + wai n = _; rw [e, eq, nI_add], by omega, ?_⟩
    intro j hj m h3 hm2
    rcases Nat.lt_or_ge j n with g | g
    · have := hm j g m h3 hm2
      omega
    · have e2 : j = n := by omega
      rw [e2, eq] at hm2
      have := ar_eq hm2
      omega
