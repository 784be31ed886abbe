theorem rj_nd {b : Nat} {st ma ki mi du pe mt hr dy mo wd nx ms kn ne pr s0 s1 s2 s3 s4 mn wa : Int32} (h : rl_j b st ma ki mi du pe mt hr dy mo wd nx ms kn ne pr s0 s1 s2 s3 s4 mn wa) (hb : b < 2147483648) (hn : ma = 0 ∨ ¬ nx = nI b) : rl_j (b + 1) st ma ki mi du pe mt hr dy mo wd nx ms kn ne pr s0 s1 s2 s3 s4 mn wa := by
  rcases h with h | ⟨g1, g2, g3, ⟨m, g4, g5⟩, g6, g7, g8, g9⟩
  · exact Or.inl h
  · have hx : ¬ nx = nI b := hn.elim (fun z => absurd (g1.symm.trans z) (by decide)) id
    have up : rl_n b nx ne → rl_n (b + 1) nx ne := by
      rintro (z | ⟨d, d1, d2, d3, d4⟩)
      · exact Or.inl z
      · refine Or.inr ⟨d, d1, d2, ?_, d4⟩
        rcases Nat.eq_or_lt_of_le d3 with c | c
        · exact absurd (by rw [d1, c]) hx
        · exact c
    refine Or.inr ⟨g1, g2, g3, ⟨m, g4, by omega⟩, g6, g7, g8, ?_⟩
    rcases g9 with ⟨c1, c2⟩ | ⟨c1, c2, c3⟩ | ⟨c1, c2, c3⟩
    · exact Or.inl ⟨c1, up c2⟩
    · exact Or.inr (Or.inl ⟨c1, up c2, c3⟩)
    · refine Or.inr (Or.inr ⟨c1, c2, ?_⟩)
      rcases c3 with ⟨z1, z2⟩ | ⟨d, d1, d2, d3, d4, d5⟩
      · exact Or.inl ⟨z1, fun s hs => z2 s (by omega)⟩
      · refine Or.inr ⟨d, d1, ?_, d3, d4, fun s hs => d5 s (by omega)⟩
        rcases Nat.eq_or_lt_of_le d2 with c | c
        · exact absurd (by rw [d1, c]) hx
        · exact c
theorem rj_due {b : Nat} {st ma ki mi du pe mt hr dy mo wd nx ms kn ne pr s0 s1 s2 s3 s4 mn wa : Int32} (h : rl_j b st ma ki mi du pe mt hr dy mo wd nx ms kn ne pr s0 s1 s2 s3 s4 mn wa) (hb : b < 2147483648) (hm : ¬ ma = 0) : nx = nI b ↔ ((kn = 3 ∧ ca_fit s0 s1 s2 s3 s4 b) ∨ (¬ kn = 3 ∧ ¬ kn < 0 ∧ ne = nI b)) := by
  rcases h with ⟨h, _⟩ | ⟨g1, g2, g3, g4, g6, g7, g8, g9⟩
  · exact absurd h hm
  · have pl : ¬ kn = 3 → ¬ kn < 0 → rl_n b nx ne → (nx = nI b ↔ ((kn = 3 ∧ ca_fit s0 s1 s2 s3 s4 b) ∨ (¬ kn = 3 ∧ ¬ kn < 0 ∧ ne = nI b))) := by
      intro k3 k0 hn
      constructor
      · intro e
        refine Or.inr ⟨k3, k0, ?_⟩
        rcases hn with ⟨z, _⟩ | ⟨d, d1, d2, _⟩
        · rw [z] at e; exact absurd e.symm (ar_ne2 hb)
        · rw [d2, ← d1]; exact e
      · rintro (⟨z, _⟩ | ⟨_, _, e⟩)
        · exact absurd z k3
        · rcases hn with ⟨_, z⟩ | ⟨d, d1, d2, _⟩
          · rw [z] at e; exact absurd e.symm (ar_ne1 hb)
          · rw [d1, ← d2]; exact e
    rcases g9 with ⟨c1, c2⟩ | ⟨c1, c2, c3⟩ | ⟨c1, ⟨e0, e1, e2, e3, e4⟩, c3⟩
    · exact pl (by rw [c1]; decide) (by rw [c1]; decide) c2
    · exact pl (by rcases c1 with c | c <;> rw [c] <;> decide) (by rcases c1 with c | c <;> rw [c] <;> decide) c2
    · subst e0 e1 e2 e3 e4
      rcases c3 with ⟨z1, z2⟩ | ⟨d, d1, d2, d3, d4, d5⟩
      · constructor
        · intro e; rw [z1] at e; exact absurd e.symm (ar_ne2 hb)
        · rintro (⟨_, z⟩ | ⟨z, _⟩)
          · exact absurd z (z2 b (Nat.le_refl b))
          · exact absurd c1 z
      · constructor
        · intro e
          rw [d1] at e
          have := ar_eq e (by omega) hb
          subst this
          exact Or.inl ⟨c1, d4⟩
        · rintro (⟨_, z⟩ | ⟨z, _⟩)
          · rcases Nat.eq_or_lt_of_le d2 with c | c
            · rw [d1, c]
            · exact absurd z (d5 b (Nat.le_refl b) c)
          · exact absurd c1 z
def td_b (t i : Nat) : Nat → Nat := fun j => if j < i then t + 1 else t
theorem td_0 (t i : Nat) : td_b t i i = t := if_neg (by omega)
theorem td_1 (t i : Nat) : td_b t (i + 1) i = t + 1 := if_pos (by omega)
theorem td_n (t i p : Nat) (h : p ≠ i) : td_b t (i + 1) p = td_b t i p := by
  unfold td_b
  by_cases e : p < i
  · rw [if_pos e, if_pos (by omega)]
  · rw [if_neg e, if_neg (by omega)]
theorem td_loop (W t rs : Nat) (st nd np no nm : Int32) (made kin dur pri ovl mis per mnt hrs day mon wkd sta bsy wjb wen kjb kst kdu knd prd sets doi ens his fld : Nat → Int32) (hW : W ≤ 3) (ht : t ≤ 1000000) (hst : st = 0 ∨ st = 1) (hF : ca_F t fld) : ∀ d i, i + d = 12 → ∀ (ask : Int32) (nxt los msd mss wai req nex mnw wdu : Nat → Int32), st_H (td_b t i) W t rs st nd np no nm ask made kin dur pri ovl mis per mnt hrs day mon wkd nxt sta los msd mss wai req bsy wjb wen kjb kst kdu knd nex prd sets mnw wdu doi ens his fld → ∃ (ask' : Int32) (nxt' los' msd' mss' wai' req' nex' mnw' wdu' : Nat → Int32),  st_H (fun _ => t + 1) W t rs st nd np no nm ask' made kin dur pri ovl mis per mnt hrs day mon wkd nxt' sta los' msd' mss' wai' req' bsy wjb wen kjb kst kdu knd nex' prd sets mnw' wdu' doi ens his fld ∧ (∀ post : SX → Prop, post ((nI W), (nI t), st, (nI rs), nd, np, no, nm, made, kin, dur, pri, ovl, mis, per, mnt, hrs, day, mon, wkd, nxt', sta, los', msd', mss', wai', req', bsy, wjb, wen, kjb, kst, kdu) → wX_takeDueJobs_2 post (d + 1) (nI i) (nI W) (nI t) st (nI rs) nd np no nm made kin dur pri ovl mis per mnt hrs day mon wkd nxt sta los msd mss wai req bsy wjb wen kjb kst kdu) ∧ (∀ (post : SY → Prop) (Yf : SY), (∀ post2 : SY → Prop, post2 Yf → wpY_start post2 ((nI W), (nI t), (nI rs), st, nd, np, no, nm, ask', knd, dur, pri, ovl, mis, nex', prd, sets, sta, los', msd', mnw', wai', wdu', doi, ens, his, fld)) → post Yf → wY_tick_106 post (d + 1) (nI i) (nI W) (nI t) (nI rs) st nd np no nm ask knd dur pri ovl mis nex prd sets sta los msd mnw wai wdu doi ens his fld) := by
  have n1 : ¬ (1 : Int32) = 0 := by decide
  intro d
  induction d with
  | zero =>
    intro i hi ask nxt los msd mss wai req nex mnw wdu h
    refine ⟨ask, nxt, los, msd, mss, wai, req, nex, mnw, wdu, ⟨?_, h.2⟩, fun post hp => pk_le 12 i (fun _ => hp) (fun z => absurd z (by omega)), fun post Yf H hp => pk_le 12 i (fun _ => H _ (by obtain ⟨y1, y2, y3, y4, y5, y6, y7, y8, y9, y10, y11, y12, y13, y14, y15, y16, y17, y18, y19, y20, y21, y22, y23, y24, y25, y26, y27⟩ := Yf; exact hp)) (fun z => absurd z (by omega))⟩
    intro j hj
    have := h.1 j hj
    rw [show td_b t i j = t + 1 from if_pos (by omega)] at this
    exact this
  | succ d ih =>
    intro i hi ask nxt los msd mss wai req nex mnw wdu h
    obtain ⟨hJ, hK, hQ, hA, hH, hT⟩ := id h
    have kj : (nI i).toNatClampNeg = i := ar_k
    have hi12 : i < 12 := by omega
    have hJi := hJ i hi12
    rw [td_0] at hJi
    have others : ∀ p, p < 12 → p ≠ i → rl_j (td_b t (i + 1) p) st (made p) (kin p) (mis p) (dur p) (per p) (mnt p) (hrs p) (day p) (mon p) (wkd p) (nxt p) (mss p) (knd p) (nex p) (prd p) (sets (5 * p)) (sets (5 * p + 1)) (sets (5 * p + 2)) (sets (5 * p + 3)) (sets (5 * p + 4)) (mnw p) (wai p) := by
      intro p hp hne
      rw [td_n t i p hne]
      exact hJ p hp
    have skip : (made i = 0 ∨ ¬ nxt i = nI t) → st_H (td_b t (i + 1)) W t rs st nd np no nm ask made kin dur pri ovl mis per mnt hrs day mon wkd nxt sta los msd mss wai req bsy wjb wen kjb kst kdu knd nex prd sets mnw wdu doi ens his fld := by
      intro hnd'
      refine ⟨?_, hK, hQ, hA, hH, hT⟩
      intro p hp
      by_cases e : p = i
      · subst e
        rw [td_1]
        exact rj_nd hJi (by omega) hnd'
      · exact others p hp e
    by_cases hm : made i = 0
    · have hkn : knd (nI i).toNatClampNeg < 0 := by rw [kj, (rl_m0 hJi hm).1]; decide
      obtain ⟨ask', nxt', los', msd', mss', wai', req', nex', mnw', wdu', q1, q2, q3⟩ := ih (i + 1) (by omega) _ _ _ _ _ _ _ _ _ _ (skip (Or.inl hm))
      exact ⟨ask', nxt', los', msd', mss', wai', req', nex', mnw', wdu', q1, fun post hp => pk_le 12 i (fun z => absurd z (by omega)) (fun _ => ⟨ar_in, br_t (ar_c hm) (nm_r (nI_1 i) (q2 post hp))⟩), fun post Yf H hp => pk_le 12 i (fun z => absurd z (by omega)) (fun _ => ⟨ar_in, br_t hkn (br_t rfl (nm_r (nI_1 i) (q3 post Yf H hp)))⟩)⟩
    · have hkn : ¬ knd (nI i).toNatClampNeg < 0 := by rw [kj]; exact rl_m1 hJi hm
      have due := rj_due hJi (by omega) hm
      by_cases hd : nxt i = nI t
      · have hdY := due.mp hd
        obtain ⟨x, y, ask1, los1, msd1, mss1, mnw1, wai1, req1, wdu1, a1, a2, a3, a4, a5, fx, fy⟩ := td_first W t rs st nd np no nm ask made kin dur pri ovl mis per mnt hrs day mon wkd nxt sta los msd mss wai req bsy wjb wen kjb kst kdu knd nex prd sets mnw wdu doi ens his fld hW hst hK hQ hA i hi12
        have facts : kin i = knd i ∧ mss i = mnw i ∧ (∃ m, mnw i = nI m ∧ m + 1 ≤ t) ∧ (st = 0 → mnw i = 0) ∧ (mis i = 0 ∨ mis i = 1 ∨ mis i = 2) ∧ (∃ d, dur i = nI d ∧ 1 ≤ d ∧ d ≤ 200) ∧ made i = 1 := by
          rcases hJi with ⟨g, _⟩ | ⟨g1, g2, g3, g4, g5, g6, g7, _⟩
          · exact absurd g hm
          · exact ⟨g2, g3, g4, g5, g6, g7, g1⟩
        obtain ⟨f1, f2, ⟨m, f3, f3'⟩, f4, f5, f6, f7⟩ := facts
        have kinds : (knd i = 0 ∧ nex i = nI t) ∨ ((knd i = 1 ∨ knd i = 2) ∧ nex i = nI t ∧ ∃ p, per i = nI p ∧ prd i = nI p ∧ 1 ≤ p ∧ p ≤ 2000) ∨ knd i = 3 := by
          have ne3 : ¬ knd i = 3 → nex i = nI t := fun k3 => hdY.elim (fun z => absurd z.1 k3) (fun z => z.2.2)
          rcases hJi with ⟨g, _⟩ | ⟨_, _, _, _, _, _, _, g⟩
          · exact absurd g hm
          · rcases g with ⟨c1, _⟩ | ⟨c1, _, c3⟩ | ⟨c1, _⟩
            · exact Or.inl ⟨c1, ne3 (by rw [c1]; decide)⟩
            · exact Or.inr (Or.inl ⟨c1, ne3 (by rcases c1 with c | c <;> rw [c] <;> decide), c3⟩)
            · exact Or.inr (Or.inr c1)
        obtain ⟨v, w, b1, sx, sy⟩ := td_second W t rs st nd np no nm ask1 made kin dur pri ovl mis per mnt hrs day mon wkd nxt sta los1 msd1 mss1 wai1 req1 bsy wjb wen kjb kst kdu knd nex prd sets mnw1 wdu1 doi ens his fld ht i hi12 x y a1 f1 kinds
        have h2 : st_H (td_b t (i + 1)) W t rs st nd np no nm ask1 made kin dur pri ovl mis per mnt hrs day mon wkd (upd nxt i v) sta los1 msd1 mss1 wai1 req1 bsy wjb wen kjb kst kdu knd (upd nex i w) prd sets mnw1 wdu1 doi ens his fld := by
          refine ⟨?_, hK, a2, a3, hH, hT⟩
          intro p hp
          by_cases e : p = i
          · subst e
            rw [td_1, pk_us, pk_us]
            have mm : mss1 p = mnw1 p ∧ (∃ m, mnw1 p = nI m ∧ m + 1 ≤ t + 1) ∧ (st = 0 → mnw1 p = 0) := by
              rcases a5 with ⟨z1, z2, z3⟩ | ⟨z1, z2, z3⟩
              · exact ⟨by rw [z2, z3]; exact f2, ⟨m, by rw [z3]; exact f3, by omega⟩, fun z => by rw [z3]; exact f4 z⟩
              · refine ⟨by rw [z2, z3, f2], ⟨m + 1, by rw [z3, f3]; exact nI_1 m, by omega⟩, fun z => ?_⟩
                rw [z1] at z
                exact absurd z (by decide)
            obtain ⟨m1, m2, m3⟩ := mm
            refine Or.inr ⟨f7, f1, m1, m2, m3, f5, f6, ?_⟩
            rcases hJi with ⟨g, _⟩ | ⟨_, _, _, _, _, _, _, g⟩
            · exact absurd g hm
            · rcases g with ⟨c1, _⟩ | ⟨c1, _, c3⟩ | ⟨c1, c2, _⟩
              · refine Or.inl ⟨c1, ?_⟩
                rcases b1 with ⟨_, z⟩ | ⟨z, _⟩
                · exact z
                · rw [c1] at z; exact absurd z (by decide)
              · refine Or.inr (Or.inl ⟨c1, ?_, c3⟩)
                rcases b1 with ⟨_, z⟩ | ⟨z, _⟩
                · exact z
                · rcases c1 with c | c
                  · rw [c] at z; exact absurd z (by decide)
                  · rw [c] at z; exact absurd z (by decide)
              · refine Or.inr (Or.inr ⟨c1, c2, ?_⟩)
                rcases b1 with ⟨z, _⟩ | ⟨_, z⟩
                · exact absurd c1 z
                · exact z
          · rw [pk_un e, pk_un e, (a4 p e).1, (a4 p e).2.1, (a4 p e).2.2]
            exact others p hp e
        obtain ⟨ask', nxt', los', msd', mss', wai', req', nex', mnw', wdu', q1, q2, q3⟩ := ih (i + 1) (by omega) _ _ _ _ _ _ _ _ _ _ h2
        exact ⟨ask', nxt', los', msd', mss', wai', req', nex', mnw', wdu', q1, fun post hp => pk_le 12 i (fun z => absurd z (by omega)) (fun _ => ⟨ar_in, br_f (ar_n hm) ⟨ar_in, br_t (ar_c hd) (fx _ (sx _ (nm_r (nI_1 i) (q2 post hp))))⟩⟩), fun post Yf H hp => pk_le 12 i (fun z => absurd z (by omega)) (fun _ => ⟨ar_in, br_f hkn (yc_isDue _ _ _ _ _ _ _ _ _ _ _ _ _ _ _ _ _ _ _ _ _ _ _ _ _ _ _ i hi12 hF _ (fun _ => br_f n1 (br_f n1 (fy _ (sy _ (nm_r (nI_1 i) (q3 post Yf H hp)))))) (fun z => absurd hdY z))⟩)⟩
      · have hdY := fun z => hd (due.mpr z)
        obtain ⟨ask', nxt', los', msd', mss', wai', req', nex', mnw', wdu', q1, q2, q3⟩ := ih (i + 1) (by omega) _ _ _ _ _ _ _ _ _ _ (skip (Or.inr hd))
        exact ⟨ask', nxt', los', msd', mss', wai', req', nex', mnw', wdu', q1, fun post hp => pk_le 12 i (fun z => absurd z (by omega)) (fun _ => ⟨ar_in, br_f (ar_n hm) ⟨ar_in, br_f (ar_n hd) (nm_r (nI_1 i) (q2 post hp))⟩⟩), fun post Yf H hp => pk_le 12 i (fun z => absurd z (by omega)) (fun _ => ⟨ar_in, br_f hkn (yc_isDue _ _ _ _ _ _ _ _ _ _ _ _ _ _ _ _ _ _ _ _ _ _ _ _ _ _ _ i hi12 hF _ (fun z => absurd z hdY) (fun _ => br_t rfl (br_t rfl (nm_r (nI_1 i) (q3 post Yf H hp)))))⟩)⟩
