theorem ar_ue {a : Nat → Int32} {i : Nat} {y x : Int32} (he : y = nI i) (hi : i < 1000 := by omega) : upd a y.toNatClampNeg x = upd a i x := by rw [he]; exact ar_u
theorem jb_rel (W t rs : Nat) (st nd np no nm ask : Int32) (made kin dur pri ovl mis per mnt hrs day mon wkd nxt sta los msd mss wai req bsy wjb wen kjb kst kdu knd nex prd sets mnw wdu doi ens his fld : Nat → Int32) (k : Nat) (h : rl_R k W t rs st nd np no nm ask made kin dur pri ovl mis per mnt hrs day mon wkd nxt sta los msd mss wai req bsy wjb wen kjb kst kdu knd nex prd sets mnw wdu doi ens his fld) (m : Nat) (hm : m < 12) (hf : made m = 0) (v1 v2 v3 : Int32) (hv : v1 = 0 ∨ v1 = 1 ∨ v1 = 2) (hp : v1 = 0 ∨ ∃ p, v3 = nI p ∧ 1 ≤ p ∧ p ≤ 2000) (d : Nat) (hd : v2 = nI d) (hd1 : t + 1 ≤ d) (hd2 : d ≤ 1000000) : i_Rel k ((nI W), (nI t), st, (nI rs), nd, np, no, nm, (upd made m 1), (upd kin m v1), (upd dur m nd), (upd pri m np), (upd ovl m no), (upd mis m nm), (upd per m v3), mnt, hrs, day, mon, wkd, (upd nxt m v2), (upd sta m 0), (upd los m 0), (upd msd m 0), (upd mss m 0), (upd wai m 0), req, bsy, wjb, wen, kjb, kst, kdu) ((nI W), (nI t), (nI rs), st, nd, np, no, nm, ask, (upd knd m v1), (upd dur m nd), (upd pri m np), (upd ovl m no), (upd mis m nm), (upd nex m v2), (upd prd m v3), sets, (upd sta m 0), (upd los m 0), (upd msd m 0), (upd mnw m 0), (upd wai m 0), wdu, doi, ens, his, fld) := by
  obtain ⟨hW1, hW3, ht, hRs, hst, hnd, hnm, hJ, hK, hQ, hA, hH, hT⟩ := h
  have ew : upd wai m 0 = wai := up_id (rl_m0 (hJ m hm) hf).2
  rw [ew]
  refine rl_mk _ _ _ _ _ _ _ _ _ _ _ _ _ _ _ _ _ _ _ _ _ _ _ _ _ _ _ _ _ _ _ _ _ _ _ _ _ _ _ _ _ _ _ _ _ ⟨hW1, hW3, ht, hRs, hst, hnd, hnm, ?_, hK, hQ, hA, hH, ?_⟩
  · intro j hj
    by_cases e : j = m
    · subst e
      simp only [pk_us]
      have hn : rl_n (t + 1) v2 v2 := Or.inr ⟨d, hd, hd, hd1, by omega⟩
      refine Or.inr ⟨rfl, rfl, rfl, ⟨0, rfl, by omega⟩, fun _ => rfl, hnm, hnd, ?_⟩
      rcases hv with hv | hv
      · exact Or.inl ⟨hv, hn⟩
      · refine Or.inr (Or.inl ⟨hv, hn, ?_⟩)
        rcases hp with hp | ⟨p, e1, e2, e3⟩
        · rw [hp] at hv; exact absurd hv (by decide)
        · exact ⟨p, e1, e1, e2, e3⟩
    · simp only [pk_un e]
      exact hJ j hj
  · intro j hj
    by_cases e : j = m
    · rw [e, pk_us]; exact ⟨0, rfl, by omega⟩
    · rw [pk_un e]; exact hT j hj
theorem jb_34 (W t rs : Nat) (st nd np no nm ask : Int32) (made kin dur pri ovl mis per mnt hrs day mon wkd nxt sta los msd mss wai req bsy wjb wen kjb kst kdu knd nex prd sets mnw wdu doi ens his fld : Nat → Int32) (k : Nat) (h : rl_R k W t rs st nd np no nm ask made kin dur pri ovl mis per mnt hrs day mon wkd nxt sta los msd mss wai req bsy wjb wen kjb kst kdu knd nex prd sets mnw wdu doi ens his fld) (v1 v2 v3 : Int32) (hv : v1 = 0 ∨ v1 = 1 ∨ v1 = 2) (hp : v1 = 0 ∨ ∃ p, v3 = nI p ∧ 1 ≤ p ∧ p ≤ 2000) : ∃ r u' v', i_Rel k u' v' ∧ (∀ post : Int32 → SX → Prop, post r u' → wX_job_34 post v1 v2 v3 (nI W) (nI t) st (nI rs) nd np no nm made kin dur pri ovl mis per mnt hrs day mon wkd nxt sta los msd mss wai req bsy wjb wen kjb kst kdu) ∧ (∀ post : Int32 → SY → Prop, post r v' → wY_job_24 post v1 v2 v3 (nI W) (nI t) (nI rs) st nd np no nm ask knd dur pri ovl mis nex prd sets sta los msd mnw wai wdu doi ens his fld) := by
  have h' := rl_mk W t rs st nd np no nm ask made kin dur pri ovl mis per mnt hrs day mon wkd nxt sta los msd mss wai req bsy wjb wen kjb kst kdu knd nex prd sets mnw wdu doi ens his fld _ h
  have ht : t ≤ 1000000 := h.2.2.1
  have hJ := h.2.2.2.2.2.2.2.1
  by_cases a : v2 ≤ nI t
  · exact ⟨-1, _, _, h', fun post hp => br_t a hp, fun post hp => br_t a hp⟩
  by_cases b : v2 ≤ 1000000
  case neg => exact ⟨-1, _, _, h', fun post hp => br_f a (br_f b hp), fun post hp => br_f a (br_t (Int32.not_le.mp b) hp)⟩
  have b' : ¬ 1000000 < v2 := Int32.not_lt.mpr b
  obtain ⟨d, hd, e⟩ := nI_of2 (x := v2) (M := 1000000) (n := 1000000) (by decide) (fun z => a (Int32.le_trans (Int32.le_of_lt z) (nI_pos' (by omega)))) b
  have hd1 : t + 1 ≤ d := by
    rcases Nat.lt_or_ge t d with z | z
    · exact z
    · exact absurd (by rw [e]; exact ar_le z) a
  obtain ⟨m, hm, hb, he⟩ := fr_ex (fun j => made j = 0)
  have hb' : ∀ j, j < m → ¬ knd j < 0 := fun j hj => rl_m1 (hJ j (by omega)) (hb j hj)
  rcases Nat.lt_or_ge m 12 with g | g
  · have hk : knd m < 0 := by rw [(rl_m0 (hJ m g) (he g)).1]; decide
    exact ⟨nI m, _, _, jb_rel W t rs st nd np no nm ask made kin dur pri ovl mis per mnt hrs day mon wkd nxt sta los msd mss wai req bsy wjb wen kjb kst kdu knd nex prd sets mnw wdu doi ens his fld k h m g (he g) v1 v2 v3 hv hp d e hd1 hd, fun post hp => br_f a (br_t b (xm_make _ _ _ _ _ _ _ _ _ _ _ _ _ _ _ _ _ _ _ _ _ _ _ _ _ _ _ _ _ _ _ _ _ m hm hb he v1 _ (fun z => absurd z (by omega)) (fun _ => br_f ar_ne1 ⟨ar_in, nm_r ar_u ⟨ar_in, nm_r ar_u hp⟩⟩))), fun post hp => br_f a (br_f b' (ym_free _ _ _ _ _ _ _ _ _ _ _ _ _ _ _ _ _ _ _ _ _ _ _ _ _ _ _ m hm hb' (fun _ => hk) _ (fun z => absurd z (by omega)) (fun _ => br_t (nI_pos' (by omega)) (ym_make _ _ _ _ _ _ _ _ _ _ _ _ _ _ _ _ _ _ _ _ _ _ _ _ _ _ _ m g hb' hk v1 v2 v3 _ hp))))⟩
  · exact ⟨-1, _, _, h', fun post hp => br_f a (br_t b (xm_make _ _ _ _ _ _ _ _ _ _ _ _ _ _ _ _ _ _ _ _ _ _ _ _ _ _ _ _ _ _ _ _ _ m hm hb he v1 _ (fun _ => br_t rfl hp) (fun z => absurd z (by omega)))), fun post hp => br_f a (br_f b' (ym_free _ _ _ _ _ _ _ _ _ _ _ _ _ _ _ _ _ _ _ _ _ _ _ _ _ _ _ m hm hb' (fun z => absurd z (by omega)) _ (fun _ => br_f (by decide) hp) (fun z => absurd z (by omega))))⟩
theorem i_vc_job {k : Nat} {u : SX} {v : SY} (I : i_Rel k u v) (hk : k + 6 ≤ 3073) (v1 : Int32) (v2 : Int32) (v3 : Int32) : wpX_job (fun r u' => wpY_job (fun r' v' => r' = r ∧ i_Rel (k + 6) u' v') v v1 v2 v3) u v1 v2 v3 := by
  obtain ⟨W, t, rs, st, nd, np, no, nm, ask, made, kin, dur, pri, ovl, mis, per, mnt, hrs, day, mon, wkd, nxt, sta, los, msd, mss, wai, req, bsy, wjb, wen, kjb, kst, kdu, knd, nex, prd, sets, mnw, wdu, doi, ens, his, fld, rfl, rfl, h⟩ := I
  have h0 := rl_up W t rs st nd np no nm ask made kin dur pri ovl mis per mnt hrs day mon wkd nxt sta los msd mss wai req bsy wjb wen kjb kst kdu knd nex prd sets mnw wdu doi ens his fld (m := k + 6) (by omega) h
  have h' := rl_mk W t rs st nd np no nm ask made kin dur pri ovl mis per mnt hrs day mon wkd nxt sta los msd mss wai req bsy wjb wen kjb kst kdu knd nex prd sets mnw wdu doi ens his fld _ h0
  have n1 : ¬ (1 : Int32) = 0 := by decide
  unfold wpX_job wpY_job
  dsimp only
  by_cases a0 : v1 = 0
  · obtain ⟨r, u', v', hr, hx, hy⟩ := jb_34 W t rs st nd np no nm ask made kin dur pri ovl mis per mnt hrs day mon wkd nxt sta los msd mss wai req bsy wjb wen kjb kst kdu knd nex prd sets mnw wdu doi ens his fld (k + 6) h0 v1 v2 v3 (Or.inl a0) (Or.inl a0)
    exact br_t a0 (br_t a0 (hx _ (yr_within _ _ _ _ (fun _ _ => br_f n1 (br_t a0 (hy _ ⟨rfl, hr⟩))) (fun z => absurd z (by rw [a0]; decide)))))
  · by_cases a12 : v1 = 1 ∨ v1 = 2
    · have Y0 : ∀ post : Int32 → Prop, post 1 → wpY_within post v1 0 2 := fun post hp => yr_within _ _ _ _ (fun _ _ => hp) (fun z => absurd z (by rcases a12 with a | a <;> rw [a] <;> decide))
      have X0 : ∀ post : Int32 → SX → Prop, wX_job_16 post v1 v2 v3 (nI W) (nI t) st (nI rs) nd np no nm made kin dur pri ovl mis per mnt hrs day mon wkd nxt sta los msd mss wai req bsy wjb wen kjb kst kdu → ((v1 = 0 → (wX_job_16 post v1 v2 v3 (nI W) (nI t) st (nI rs) nd np no nm made kin dur pri ovl mis per mnt hrs day mon wkd nxt sta los msd mss wai req bsy wjb wen kjb kst kdu)) ∧ (¬ v1 = 0 → (((v1 = 1 → (wX_job_16 post v1 v2 v3 (nI W) (nI t) st (nI rs) nd np no nm made kin dur pri ovl mis per mnt hrs day mon wkd nxt sta los msd mss wai req bsy wjb wen kjb kst kdu)) ∧ (¬ v1 = 1 → (((v1 = 2 → (wX_job_16 post v1 v2 v3 (nI W) (nI t) st (nI rs) nd np no nm made kin dur pri ovl mis per mnt hrs day mon wkd nxt sta los msd mss wai req bsy wjb wen kjb kst kdu)) ∧ (¬ v1 = 2 → (post (-1) ((nI W), (nI t), st, (nI rs), nd, np, no, nm, made, kin, dur, pri, ovl, mis, per, mnt, hrs, day, mon, wkd, nxt, sta, los, msd, mss, wai, req, bsy, wjb, wen, kjb, kst, kdu)))))))))) := by
        intro post hh
        refine br_f a0 (br_c (fun _ => hh) (fun z => br_t ?_ hh))
        rcases a12 with a | a
        · exact absurd a z
        · exact a
      by_cases p1 : v3 < 1
      · exact X0 _ (br_f a0 (br_t p1 (Y0 _ (br_f n1 (br_f a0 (yr_within _ _ _ _ (fun z _ => absurd p1 z) (fun _ => br_t rfl ⟨rfl, h'⟩)))))))
      by_cases p2 : v3 ≤ 2000
      case neg => exact X0 _ (br_f a0 (br_f p1 (br_f p2 (Y0 _ (br_f n1 (br_f a0 (yr_within _ _ _ _ (fun _ z => absurd (Int32.not_le.mp p2) z) (fun _ => br_t rfl ⟨rfl, h'⟩))))))))
      have hp : ∃ p, v3 = nI p ∧ 1 ≤ p ∧ p ≤ 2000 := by
        obtain ⟨d, hd, e⟩ := nI_of2 (x := v3) (M := 2000) (n := 2000) (by decide) (fun z => p1 (Int32.lt_trans z (by decide))) p2
        refine ⟨d, e, ?_, hd⟩
        rcases Nat.eq_zero_or_pos d with z | z
        · exact absurd (by rw [e, z]; decide) p1
        · exact z
      obtain ⟨r, u', v', hr, hx, hy⟩ := jb_34 W t rs st nd np no nm ask made kin dur pri ovl mis per mnt hrs day mon wkd nxt sta los msd mss wai req bsy wjb wen kjb kst kdu knd nex prd sets mnw wdu doi ens his fld (k + 6) h0 v1 v2 v3 (Or.inr a12) (Or.inr hp)
      exact X0 _ (br_f a0 (br_f p1 (br_t p2 (hx _ (Y0 _ (br_f n1 (br_f a0 (yr_within _ _ _ _ (fun _ _ => br_f n1 (hy _ ⟨rfl, hr⟩)) (fun z => absurd z (by simp only [not_or]; exact ⟨p1, Int32.not_lt.mpr p2⟩))))))))))
    · have a1 : ¬ v1 = 1 := fun z => a12 (Or.inl z)
      have a2 : ¬ v1 = 2 := fun z => a12 (Or.inr z)
      refine br_f a0 (br_f a1 (br_f a2 (yr_within _ _ _ _ (fun z1 z2 => ?_) (fun _ => br_t rfl ⟨rfl, h'⟩))))
      obtain ⟨d, hd, e⟩ := nI_of2 (x := v1) (M := 2) (n := 2) (by decide) z1 (Int32.not_lt.mp z2)
      have : d = 0 ∨ d = 1 ∨ d = 2 := by omega
      rcases this with rfl | rfl | rfl
      · exact absurd e a0
      · exact absurd e a1
      · exact absurd e a2
theorem sm_set (W t rs : Nat) (st nd np no nm : Int32) (made kin dur pri ovl mis per mnt hrs day mon wkd nxt sta los msd mss wai req bsy wjb wen kjb kst kdu : Nat → Int32) (x m kk : Int32) (k : Nat) (hk : k < 31) (hm : ∀ i, i < 32 → bt m i = decide (i < k)) (he : ((1 : Int32) <<< (kk &&& 31)) = nI (2 ^ k)) : ((∀ post : Int32 → Prop, post 1 → wpX_isSetOf post ((nI W), (nI t), st, (nI rs), nd, np, no, nm, made, kin, dur, pri, ovl, mis, per, mnt, hrs, day, mon, wkd, nxt, sta, los, msd, mss, wai, req, bsy, wjb, wen, kjb, kst, kdu) x m) ∧ (∀ post : Int32 → Prop, post 1 → wpY_isSet post x kk)) ∨ ((∀ post : Int32 → Prop, post 0 → wpX_isSetOf post ((nI W), (nI t), st, (nI rs), nd, np, no, nm, made, kin, dur, pri, ovl, mis, per, mnt, hrs, day, mon, wkd, nxt, sta, los, msd, mss, wai, req, bsy, wjb, wen, kjb, kst, kdu) x m) ∧ (∀ post : Int32 → Prop, post 0 → wpY_isSet post x kk)) := by
  have key := ar_set x m k hk hm
  by_cases h : ¬ x = 0 ∧ (x &&& (m ^^^ (-1))) = 0
  · have h2 := key.mp h
    exact Or.inl ⟨fun post hp => br_f h.1 (br_t h.2 hp), fun post hp => br_f h2.1 (br_f (by rw [he]; exact h2.2) hp)⟩
  · have h2 : ¬ (¬ x ≤ 0 ∧ ¬ nI (2 ^ k) ≤ x) := fun z => h (key.mpr z)
    refine Or.inr ⟨fun post hp => br_c (fun _ => hp) (fun z => br_c (fun y => absurd ⟨z, y⟩ h) (fun _ => hp)), fun post hp => br_c (fun _ => hp) (fun z => br_c (fun _ => hp) (fun y => absurd ⟨z, by rw [← he]; exact y⟩ h2))⟩
theorem cr_s5 (sets : Nat → Int32) (m : Nat) (v1 v2 v3 v4 v5 : Int32) : (upd (upd (upd (upd (upd sets (5 * m) v1) (5 * m + 1) v2) (5 * m + 2) v3) (5 * m + 3) v4) (5 * m + 4) v5) (5 * m) = v1 ∧ (upd (upd (upd (upd (upd sets (5 * m) v1) (5 * m + 1) v2) (5 * m + 2) v3) (5 * m + 3) v4) (5 * m + 4) v5) (5 * m + 1) = v2 ∧ (upd (upd (upd (upd (upd sets (5 * m) v1) (5 * m + 1) v2) (5 * m + 2) v3) (5 * m + 3) v4) (5 * m + 4) v5) (5 * m + 2) = v3 ∧ (upd (upd (upd (upd (upd sets (5 * m) v1) (5 * m + 1) v2) (5 * m + 2) v3) (5 * m + 3) v4) (5 * m + 4) v5) (5 * m + 3) = v4 ∧ (upd (upd (upd (upd (upd sets (5 * m) v1) (5 * m + 1) v2) (5 * m + 2) v3) (5 * m + 3) v4) (5 * m + 4) v5) (5 * m + 4) = v5 := by
  refine ⟨?_, ?_, ?_, ?_, ?_⟩
  · rw [pk_un (by omega), pk_un (by omega), pk_un (by omega), pk_un (by omega), pk_us]
  · rw [pk_un (by omega), pk_un (by omega), pk_un (by omega), pk_us]
  · rw [pk_un (by omega), pk_un (by omega), pk_us]
  · rw [pk_un (by omega), pk_us]
  · rw [pk_us]
theorem cr_n5 (sets : Nat → Int32) (m j i : Nat) (hi : i < 5) (hj : j ≠ m) (v1 v2 v3 v4 v5 : Int32) : (upd (upd (upd (upd (upd sets (5 * m) v1) (5 * m + 1) v2) (5 * m + 2) v3) (5 * m + 3) v4) (5 * m + 4) v5) (5 * j + i) = sets (5 * j + i) := by
  rw [pk_un (by omega), pk_un (by omega), pk_un (by omega), pk_un (by omega), pk_un (by omega)]
theorem cr_rel (W t rs : Nat) (st nd np no nm ask : Int32) (made kin dur pri ovl mis per mnt hrs day mon wkd nxt sta los msd mss wai req bsy wjb wen kjb kst kdu knd nex prd sets mnw wdu doi ens his fld : Nat → Int32) (k : Nat) (h : rl_R k W t rs st nd np no nm ask made kin dur pri ovl mis per mnt hrs day mon wkd nxt sta los msd mss wai req bsy wjb wen kjb kst kdu knd nex prd sets mnw wdu doi ens his fld) (m : Nat) (hm : m < 12) (hf : made m = 0) (v1 v2 v3 v4 v5 r : Int32) (hc : rl_c (t + 1) v1 v2 v3 v4 v5 r) : i_Rel k ((nI W), (nI t), st, (nI rs), nd, np, no, nm, (upd made m 1), (upd kin m 3), (upd dur m nd), (upd pri m np), (upd ovl m no), (upd mis m nm), per, (upd mnt m v1), (upd hrs m v2), (upd day m v3), (upd mon m v4), (upd wkd m v5), (upd nxt m r), (upd sta m 0), (upd los m 0), (upd msd m 0), (upd mss m 0), (upd wai m 0), req, bsy, wjb, wen, kjb, kst, kdu) ((nI W), (nI t), (nI rs), st, nd, np, no, nm, ask, (upd knd m 3), (upd dur m nd), (upd pri m np), (upd ovl m no), (upd mis m nm), (upd nex m (-1)), (upd prd m 0), (upd (upd (upd (upd (upd sets (5 * m) v1) (5 * m + 1) v2) (5 * m + 2) v3) (5 * m + 3) v4) (5 * m + 4) v5), (upd sta m 0), (upd los m 0), (upd msd m 0), (upd mnw m 0), (upd wai m 0), wdu, doi, ens, his, fld) := by
  obtain ⟨hW1, hW3, ht, hRs, hst, hnd, hnm, hJ, hK, hQ, hA, hH, hT⟩ := h
  have ew : upd wai m 0 = wai := up_id (rl_m0 (hJ m hm) hf).2
  rw [ew]
  refine rl_mk _ _ _ _ _ _ _ _ _ _ _ _ _ _ _ _ _ _ _ _ _ _ _ _ _ _ _ _ _ _ _ _ _ _ _ _ _ _ _ _ _ _ _ _ _ ⟨hW1, hW3, ht, hRs, hst, hnd, hnm, ?_, hK, hQ, hA, hH, ?_⟩
  · intro j hj
    by_cases e : j = m
    · subst e
      obtain ⟨s0, s1, s2, s3, s4⟩ := cr_s5 sets j v1 v2 v3 v4 v5
      rw [s0, s1, s2, s3, s4]
      simp only [pk_us]
      exact Or.inr ⟨rfl, rfl, rfl, ⟨0, rfl, by omega⟩, fun _ => rfl, hnm, hnd, Or.inr (Or.inr ⟨rfl, ⟨rfl, rfl, rfl, rfl, rfl⟩, hc⟩)⟩
    · have s0 : (upd (upd (upd (upd (upd sets (5 * m) v1) (5 * m + 1) v2) (5 * m + 2) v3) (5 * m + 3) v4) (5 * m + 4) v5) (5 * j) = sets (5 * j) := cr_n5 sets m j 0 (by omega) e v1 v2 v3 v4 v5
      have s1 := cr_n5 sets m j 1 (by omega) e v1 v2 v3 v4 v5
      have s2 := cr_n5 sets m j 2 (by omega) e v1 v2 v3 v4 v5
      have s3 := cr_n5 sets m j 3 (by omega) e v1 v2 v3 v4 v5
      have s4 := cr_n5 sets m j 4 (by omega) e v1 v2 v3 v4 v5
      rw [s0, s1, s2, s3, s4]
      simp only [pk_un e]
      exact hJ j hj
  · intro j hj
    by_cases e : j = m
    · rw [e, pk_us]; exact ⟨0, rfl, by omega⟩
    · rw [pk_un e]; exact hT j hj
theorem i_vc_cron {k : Nat} {u : SX} {v : SY} (I : i_Rel k u v) (hk : k + 6 ≤ 3073) (v1 : Int32) (v2 : Int32) (v3 : Int32) (v4 : Int32) (v5 : Int32) : wpX_cron (fun r u' => wpY_cron (fun r' v' => r' = r ∧ i_Rel (k + 6) u' v') v v1 v2 v3 v4 v5) u v1 v2 v3 v4 v5 := by
  obtain ⟨W, t, rs, st, nd, np, no, nm, ask, made, kin, dur, pri, ovl, mis, per, mnt, hrs, day, mon, wkd, nxt, sta, los, msd, mss, wai, req, bsy, wjb, wen, kjb, kst, kdu, knd, nex, prd, sets, mnw, wdu, doi, ens, his, fld, rfl, rfl, h⟩ := I
  have h0 := rl_up W t rs st nd np no nm ask made kin dur pri ovl mis per mnt hrs day mon wkd nxt sta los msd mss wai req bsy wjb wen kjb kst kdu knd nex prd sets mnw wdu doi ens his fld (m := k + 6) (by omega) h
  have h' := rl_mk W t rs st nd np no nm ask made kin dur pri ovl mis per mnt hrs day mon wkd nxt sta los msd mss wai req bsy wjb wen kjb kst kdu knd nex prd sets mnw wdu doi ens his fld _ h0
  have ht : t ≤ 1000000 := h.2.2.1
  have hJ := h.2.2.2.2.2.2.2.1
  have n1 : ¬ (1 : Int32) = 0 := by decide
  unfold wpX_cron wpY_cron
  dsimp only
  rcases sm_set W t rs st nd np no nm made kin dur pri ovl mis per mnt hrs day mon wkd nxt sta los msd mss wai req bsy wjb wen kjb kst kdu v1 1023 10 10 (by omega) ar_b1023 (by decide) with ⟨x1, y1⟩ | ⟨x1, y1⟩
  rotate_left
  · exact (x1 _ (br_t rfl (br_t rfl (y1 _ (br_t rfl ⟨rfl, h'⟩)))))
  rcases sm_set W t rs st nd np no nm made kin dur pri ovl mis per mnt hrs day mon wkd nxt sta los msd mss wai req bsy wjb wen kjb kst kdu v2 255 8 8 (by omega) ar_b255 (by decide) with ⟨x2, y2⟩ | ⟨x2, y2⟩
  rotate_left
  · exact (x1 _ (br_f n1 (x2 _ (br_t rfl (br_t rfl (y1 _ (br_f n1 (y2 _ (br_t rfl ⟨rfl, h'⟩)))))))))
  rcases sm_set W t rs st nd np no nm made kin dur pri ovl mis per mnt hrs day mon wkd nxt sta los msd mss wai req bsy wjb wen kjb kst kdu v3 1023 10 10 (by omega) ar_b1023 (by decide) with ⟨x3, y3⟩ | ⟨x3, y3⟩
  rotate_left
  · exact (x1 _ (br_f n1 (x2 _ (br_f n1 (x3 _ (br_t rfl (br_t rfl (y1 _ (br_f n1 (y2 _ (br_f n1 (y3 _ (br_t rfl ⟨rfl, h'⟩)))))))))))))
  rcases sm_set W t rs st nd np no nm made kin dur pri ovl mis per mnt hrs day mon wkd nxt sta los msd mss wai req bsy wjb wen kjb kst kdu v4 15 4 4 (by omega) ar_b15 (by decide) with ⟨x4, y4⟩ | ⟨x4, y4⟩
  rotate_left
  · exact (x1 _ (br_f n1 (x2 _ (br_f n1 (x3 _ (br_f n1 (x4 _ (br_t rfl (br_t rfl (y1 _ (br_f n1 (y2 _ (br_f n1 (y3 _ (br_f n1 (y4 _ (br_t rfl ⟨rfl, h'⟩)))))))))))))))))
  rcases sm_set W t rs st nd np no nm made kin dur pri ovl mis per mnt hrs day mon wkd nxt sta los msd mss wai req bsy wjb wen kjb kst kdu v5 127 7 7 (by omega) ar_b127 (by decide) with ⟨x5, y5⟩ | ⟨x5, y5⟩
  rotate_left
  · exact (x1 _ (br_f n1 (x2 _ (br_f n1 (x3 _ (br_f n1 (x4 _ (br_f n1 (x5 _ (br_t rfl (br_t rfl (y1 _ (br_f n1 (y2 _ (br_f n1 (y3 _ (br_f n1 (y4 _ (br_f n1 (y5 _ (br_t rfl ⟨rfl, h'⟩)))))))))))))))))))))
  obtain ⟨m, hm, hb, he⟩ := fr_ex (fun j => made j = 0)
  have hb' : ∀ j, j < m → ¬ knd j < 0 := fun j hj => rl_m1 (hJ j (by omega)) (hb j hj)
  rcases Nat.lt_or_ge m 12 with g | g
  · have hkn : knd m < 0 := by rw [(rl_m0 (hJ m g) (he g)).1]; decide
    have c1 : 5 * nI m + 1 = nI (5 * m + 1) := by rw [ar_5x]; exact nI_add _ 1
    have c2 : 5 * nI m + 2 = nI (5 * m + 2) := by rw [ar_5x]; exact nI_add _ 2
    have c3 : 5 * nI m + 3 = nI (5 * m + 3) := by rw [ar_5x]; exact nI_add _ 3
    have c4 : 5 * nI m + 4 = nI (5 * m + 4) := by rw [ar_5x]; exact nI_add _ 4
    have fin : ∀ r, rl_c (t + 1) v1 v2 v3 v4 v5 r → i_Rel (k + 6) ((nI W), (nI t), st, (nI rs), nd, np, no, nm, (upd made m 1), (upd kin m 3), (upd dur m nd), (upd pri m np), (upd ovl m no), (upd mis m nm), per, (upd mnt m v1), (upd hrs m v2), (upd day m v3), (upd mon m v4), (upd wkd m v5), (upd nxt m r), (upd sta m 0), (upd los m 0), (upd msd m 0), (upd mss m 0), (upd wai m 0), req, bsy, wjb, wen, kjb, kst, kdu) ((nI W), (nI t), (nI rs), st, nd, np, no, nm, ask, (upd knd m 3), (upd dur m nd), (upd pri m np), (upd ovl m no), (upd mis m nm), (upd nex m (-1)), (upd prd m 0), (upd (upd (upd (upd (upd sets (5 * m) v1) (5 * m + 1) v2) (5 * m + 2) v3) (5 * m + 3) v4) (5 * m + 4) v5), (upd sta m 0), (upd los m 0), (upd msd m 0), (upd mnw m 0), (upd wai m 0), wdu, doi, ens, his, fld) := fun r hc => cr_rel W t rs st nd np no nm ask made kin dur pri ovl mis per mnt hrs day mon wkd nxt sta los msd mss wai req bsy wjb wen kjb kst kdu knd nex prd sets mnw wdu doi ens his fld (k + 6) h0 m g (he g) v1 v2 v3 v4 v5 r hc
    refine (x1 _ (br_f n1 (x2 _ (br_f n1 (x3 _ (br_f n1 (x4 _ (br_f n1 (x5 _ (br_f n1 (br_f n1 (xm_make _ _ _ _ _ _ _ _ _ _ _ _ _ _ _ _ _ _ _ _ _ _ _ _ _ _ _ _ _ _ _ _ _ m hm hb he 3 _ (fun z => absurd z (by omega)) (fun _ => br_f ar_ne1 ⟨ar_in, nm_r ar_u ⟨ar_in, nm_r ar_u ⟨ar_in, nm_r ar_u ⟨ar_in, nm_r ar_u ⟨ar_in, nm_r ar_u (xc_next _ _ _ _ _ _ _ _ _ _ _ _ _ _ _ _ _ _ _ _ _ _ _ _ _ _ _ _ _ _ _ _ _ m g ht _ (fun d d1 d2 d3 d4 => ⟨ar_in, nm_r ar_u ?_⟩) (fun d4 => ⟨ar_in, nm_r ar_u ?_⟩))⟩⟩⟩⟩⟩)))))))))))))
    · simp only [pk_us] at d3 d4
      exact (y1 _ (br_f n1 (y2 _ (br_f n1 (y3 _ (br_f n1 (y4 _ (br_f n1 (y5 _ (br_f n1 (ym_free _ _ _ _ _ _ _ _ _ _ _ _ _ _ _ _ _ _ _ _ _ _ _ _ _ _ _ m hm hb' (fun _ => hkn) _ (fun z => absurd z (by omega)) (fun _ => br_t (nI_pos' (by omega)) (ym_make _ _ _ _ _ _ _ _ _ _ _ _ _ _ _ _ _ _ _ _ _ _ _ _ _ _ _ m g hb' hkn 3 (-1) 0 _ ⟨by rw [ar_5x]; exact ar_in, nm_r (ar_ue (ar_5x m)) ⟨by rw [c1]; exact ar_in, nm_r (ar_ue c1) ⟨by rw [c2]; exact ar_in, nm_r (ar_ue c2) ⟨by rw [c3]; exact ar_in, nm_r (ar_ue c3) ⟨by rw [c4]; exact ar_in, nm_r (ar_ue c4) ⟨rfl, fin _ (Or.inr ⟨d, rfl, d1, by omega, d3, d4⟩)⟩⟩⟩⟩⟩⟩)))))))))))))
    · simp only [pk_us] at d4
      exact (y1 _ (br_f n1 (y2 _ (br_f n1 (y3 _ (br_f n1 (y4 _ (br_f n1 (y5 _ (br_f n1 (ym_free _ _ _ _ _ _ _ _ _ _ _ _ _ _ _ _ _ _ _ _ _ _ _ _ _ _ _ m hm hb' (fun _ => hkn) _ (fun z => absurd z (by omega)) (fun _ => br_t (nI_pos' (by omega)) (ym_make _ _ _ _ _ _ _ _ _ _ _ _ _ _ _ _ _ _ _ _ _ _ _ _ _ _ _ m g hb' hkn 3 (-1) 0 _ ⟨by rw [ar_5x]; exact ar_in, nm_r (ar_ue (ar_5x m)) ⟨by rw [c1]; exact ar_in, nm_r (ar_ue c1) ⟨by rw [c2]; exact ar_in, nm_r (ar_ue c2) ⟨by rw [c3]; exact ar_in, nm_r (ar_ue c3) ⟨by rw [c4]; exact ar_in, nm_r (ar_ue c4) ⟨rfl, fin _ (Or.inl ⟨rfl, d4⟩)⟩⟩⟩⟩⟩⟩)))))))))))))
  · exact (x1 _ (br_f n1 (x2 _ (br_f n1 (x3 _ (br_f n1 (x4 _ (br_f n1 (x5 _ (br_f n1 (br_f n1 (xm_make _ _ _ _ _ _ _ _ _ _ _ _ _ _ _ _ _ _ _ _ _ _ _ _ _ _ _ _ _ _ _ _ _ m hm hb he 3 _ (fun _ => br_t rfl (y1 _ (br_f n1 (y2 _ (br_f n1 (y3 _ (br_f n1 (y4 _ (br_f n1 (y5 _ (br_f n1 (ym_free _ _ _ _ _ _ _ _ _ _ _ _ _ _ _ _ _ _ _ _ _ _ _ _ _ _ _ m hm hb' (fun z => absurd z (by omega)) _ (fun _ => br_f (by decide) ⟨rfl, h'⟩) (fun z => absurd z (by omega)))))))))))))) (fun z => absurd z (by omega))))))))))))))
