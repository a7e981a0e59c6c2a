/-! sure, worst: the class -/
theorem upd_at {gg : Nat → Int32} {jj yy : Nat} {vv : Int32} : upd gg jj vv yy = if yy = jj then vv else gg yy := by simp [upd]
theorem C_list {tt : MM} {dd : WD} {nn : Nat} (hC : CW tt dd) (hO : DOk dd) (hn : 12 < nn) : ∃ gg, f_X4_listRiders nn tt = some (nI (rk dd 10), stA tt 26 gg) ∧ ∀ kk, kk < 10 → rb dd kk = true → gg (rk dd kk) = nI kk := by
  have hr := ridS_lt hO
  obtain ⟨xx, h1, gg, rfl, h3⟩ := it3_inv (bb := lb_X4_listRiders_12 nn (nI (ridS dd))) (fun kx v2 v3 t2 => v2 = nI (rk dd kx) ∧ v3 = nI kx ∧ ∃ gg, t2 = stA tt 26 gg ∧ ∀ kk, kk < kx → rb dd kk = true → gg (rk dd kk) = nI kk) 10 (fun xx => ∃ gg, xx = (nI (rk dd 10), stA tt 26 gg) ∧ ∀ kk, kk < 10 → rb dd kk = true → gg (rk dd kk) = nI kk) (by
    rintro kx v2 v3 t2 hle ⟨rfl, rfl, gg, rfl, h3⟩
    unfold lb_X4_listRiders_12
    by_cases q : kx < 10
    · rw [if_neg (show ¬ (10 : Int32) ≤ nI kx from nI_ge (b := 10) q (by omega))]
      simp only [bit_z (show ridS dd < 2 ^ 31 by omega) (show kx < 31 by omega)]
      by_cases q2 : rb dd kx = true
      · have hrk : rk dd kx ≤ kx := fa_cnt_le _ _
        have er : rk dd (kx + 1) = rk dd kx + 1 := fa_cnt_yes q2
        rw [if_neg (fun z => by rw [show (ridS dd).testBit kx = true from q2] at z; exact absurd z (by decide)), ix_nI (show rk dd kx < 10 by omega) (by omega), nI_clamp (show rk dd kx < 2 ^ 31 by omega), nm_eq, nm_eq, nm_eq, nI_1, nI_1, st1_stA]
        refine Or.inl ⟨q, _, _, _, rfl, by rw [er], rfl, _, rfl, fun kk hk hr2 => ?_⟩
        rw [upd_at]
        by_cases q3 : kk = kx
        · rw [if_pos (by rw [q3]), q3]
        · have h7 : rk dd kk < rk dd kx := cnt_mono (by omega) hr2
          rw [if_neg (by omega)]
          exact h3 kk (by omega) hr2
      · have q2' : rb dd kx = false := by simpa using q2
        have er : rk dd (kx + 1) = rk dd kx := fa_cnt_no q2'
        rw [if_pos (show (ridS dd).testBit kx = false from q2'), nm_eq, nI_1]
        refine Or.inl ⟨q, _, _, _, rfl, by rw [er], rfl, gg, rfl, fun kk hk hr2 => ?_⟩
        by_cases q3 : kk = kx
        · rw [q3] at hr2; exact absurd hr2 q2
        · exact h3 kk (by omega) hr2
    · have e : kx = 10 := by omega
      subst e
      rw [if_pos (show (10 : Int32) ≤ nI 10 by decide)]
      exact Or.inr ⟨_, rfl, gg, rfl, h3⟩) nn 0 0 tt (by omega) ⟨rfl, rfl, tt 26, (stA_self tt 26).symm, fun kk hk => absurd hk (by omega)⟩
  refine ⟨gg, ?_, h3⟩
  unfold f_X4_listRiders
  rw [C_rides hC hO (by omega), b1_eq, h1]
  rfl
theorem low_ok {ww sl : Nat} (hw : ww ≤ 99) (hs : sl ≤ 9) : (if (0 : Int32) < (nI ww - nI sl) then (nI ww - nI sl) else (0 : Int32)) = nI (ww - sl) := by
  by_cases q : sl < ww
  · rw [sh_sub (by omega), if_pos (show (0 : Int32) < nI (ww - sl) from nI_lt (a := 0) (by omega) (by omega))]
  · have e1 : ¬ (0 : Int32) < nI ww - nI sl := by
      rw [← iI_nat ww, ← iI_nat sl, iI_sub, fa_lt, iI_toInt (by omega) (by omega), show (0 : Int32).toInt = 0 from rfl]
      omega
    rw [if_neg e1, show ww - sl = 0 by omega]
    rfl
theorem C_become2 {tt : MM} {k0 k1 : Nat} {ld : Nat → Int} (hk : k0 ≠ k1) (hB : BalF (tt k1) ld) : ∃ gg, f_X2_become tt k0 k1 = some (stA tt k0 gg) ∧ BalF gg ld := by
  refine ⟨upd (upd (upd (upd (tt k0) 0 (tt k1 0)) 1 (tt k1 1)) 2 (tt k1 2)) 3 (tt k1 3), ?_, ?_⟩
  · unfold f_X2_become
    simp only [nm_eq, st1_ne (show k1 ≠ k0 from fun z => hk z.symm)]
    rw [st1_stA' tt k0 0, st1_stA, st1_stA, st1_stA]
  · intro ii hi
    rcases (show ii = 0 ∨ ii = 1 ∨ ii = 2 ∨ ii = 3 by omega) with rfl | rfl | rfl | rfl
    · exact hB 0 (by omega)
    · exact hB 1 (by omega)
    · exact hB 2 (by omega)
    · exact hB 3 (by omega)
theorem C_worse {tt : MM} {k0 k1 : Nat} {l1 l2 : Nat → Int} (h1 : BalF (tt k0) l1) (h2 : BalF (tt k1) l2) (o1 : ldOk l1) (o2 : ldOk l2) : f_X2_isWorseThan tt k0 k1 = some (if abvB (sqA l1 - sqA l2) (sqB l1 - sqB l2) then 1 else 0) := by
  obtain ⟨s1, s2⟩ := sq_sm o1 o2
  unfold f_X2_isWorseThan
  rw [C_whole h1 o1, b1_eq, C_whole h2 o2, b1_eq, C_root h1 o1, b1_eq, C_root h2 o2, b1_eq, lI_sub, lI_sub, above_ok s1 s2, b1_eq, bz_01]
theorem C_slip1 {t0 : MM} {dd : WD} {nn sl ee : Nat} (hC : CW t0 dd) (hO : DOk dd) (hs : sl ≤ 9) (he : ee < 2 ^ 31) (hl : ∀ kk, kk < 10 → rb dd kk = true → t0 26 (rk dd kk) = nI kk) (hB : BalF (t0 25) (fun cc => (dsd dd cc : Int))) (hn : 12 < nn) : ∃ gg, it2 (lb_X4_findWorst_50 nn (nI sl) (nI (rk dd 10)) (nI ee)) nn (0 : Int32) t0 = some (stA t0 25 gg) ∧ BalF gg (vx dd sl ee) := by
  have h10 := hO.1
  have hrk : rk dd 10 ≤ 10 := fa_cnt_le _ _
  obtain ⟨c1, c2, c3, c4, c5, c6, c7, c8⟩ := hC
  obtain ⟨xx, h1, gg, rfl, B2⟩ := it2_inv (bb := lb_X4_findWorst_50 nn (nI sl) (nI (rk dd 10)) (nI ee)) (fun kx v4 t2 => v4 = nI kx ∧ ∃ gg, t2 = stA t0 25 gg ∧ BalF gg (fun cc => (dsd dd cc : Int) + (nsum (fun jj => (fun kk => if dp dd kk = cc then endW dd sl ee kk else 0) ((t0 26 jj).toNatClampNeg)) kx : Int))) (rk dd 10) (fun xx => ∃ gg, xx = stA t0 25 gg ∧ BalF gg (fun cc => (dsd dd cc : Int) + (nsum (fun jj => (fun kk => if dp dd kk = cc then endW dd sl ee kk else 0) ((t0 26 jj).toNatClampNeg)) (rk dd 10) : Int))) (by
    rintro kx v4 t2 hle ⟨rfl, gg, rfl, hB2⟩
    unfold lb_X4_findWorst_50
    by_cases q : kx < rk dd 10
    · obtain ⟨kk, hk, hr, hrk2⟩ := cnt_surj 10 kx q
      have hrk3 : rk dd kk = kx := hrk2
      obtain ⟨hkN, hp⟩ := rb_t hr
      have hw := (hO.2.1 kk hkN).2.2.1
      have e26 : t0 26 kx = nI kk := by rw [← hrk3]; exact hl kk hk hr
      have k26 : stA t0 25 gg 26 kx = nI kk := by rw [stA_ne _ _ (by omega)]; exact e26
      have k3 : stA t0 25 gg 3 kk = nI (dw dd kk) := by rw [stA_ne _ _ (by omega)]; exact c3 kk hkN
      have k4 : stA t0 25 gg 4 kk = nI (dp dd kk) := by rw [stA_ne _ _ (by omega)]; exact c4 kk hkN
      have key : f_X4_findWorst_97_in50 nn (stA t0 25 gg) (nI sl) (nI (rk dd 10)) (nI ee) (nI kx) (nI (endW dd sl ee kk)) = b1 (f_X2_hang (stA t0 25 gg) 25 (nI (dp dd kk)) (nI (endW dd sl ee kk))) (fun y_6 => some (.inr (nI (kx + 1), y_6))) := by
        unfold f_X4_findWorst_97_in50
        simp only [ix_nI (show kx < 10 by omega) (show 10 < 2 ^ 31 by omega), nI_clamp (show kx < 2 ^ 31 by omega), k26, ix_nI hk (show 10 < 2 ^ 31 by omega), nI_clamp (show kk < 2 ^ 31 by omega), k4, nm_eq, nI_1]
      obtain ⟨g2, e2, B3⟩ := C_hang (tt := t0) (kb := 25) (xx := (endW dd sl ee kk : Int)) hB2 hp
      rw [iI_nat] at e2
      rw [if_neg (nI_ge q (by omega)), ix_nI (show kx < 10 by omega) (by omega), nI_clamp (show kx < 2 ^ 31 by omega), k26, ix_nI hk (by omega), nI_clamp (show kk < 2 ^ 31 by omega), k3, nm_eq, low_ok hw hs, nI_add]
      have both : (if ((nI ee >>> (nI kx &&& 31)) &&& (1 : Int32)) = 0 then f_X4_findWorst_97_in50 nn (stA t0 25 gg) (nI sl) (nI (rk dd 10)) (nI ee) (nI kx) (nI (dw dd kk - sl)) else f_X4_findWorst_97_in50 nn (stA t0 25 gg) (nI sl) (nI (rk dd 10)) (nI ee) (nI kx) (nI (dw dd kk + sl))) = f_X4_findWorst_97_in50 nn (stA t0 25 gg) (nI sl) (nI (rk dd 10)) (nI ee) (nI kx) (nI (endW dd sl ee kk)) := by
        simp only [bit_z he (show kx < 31 by omega)]
        unfold endW
        rw [hrk3]
        by_cases q2 : ee.testBit kx = true
        · rw [if_neg (fun z => by rw [q2] at z; exact absurd z (by decide)), if_pos q2]
        · rw [if_pos (by simpa using q2), if_neg q2]
      rw [both, key, e2, b1_eq]
      refine Or.inl ⟨q, _, _, rfl, rfl, g2, rfl, B3.cong (fun cc hc => ?_)⟩
      unfold addL
      dsimp only
      rw [nsum]
      rw [e26, nI_clamp (show kk < 2 ^ 31 by omega), Int.natCast_add]
      by_cases q2 : cc = dp dd kk
      · rw [if_pos q2, if_pos q2.symm]; omega
      · rw [if_neg q2, if_neg (fun z => q2 z.symm)]; omega
    · have e : kx = rk dd 10 := by omega
      subst e
      rw [if_pos (nI_le (Nat.le_refl _) (by omega))]
      exact Or.inr ⟨_, rfl, gg, rfl, hB2⟩) nn 0 t0 (by omega) ⟨rfl, t0 25, (stA_self t0 25).symm, hB.cong (fun cc _ => by simp [nsum])⟩
  refine ⟨gg, h1, B2.cong (fun cc hc => ?_)⟩
  have hs2 := sum_list (pp := rb dd) (rl := fun jj => (t0 26 jj).toNatClampNeg) (gg := fun kk => if dp dd kk = cc then endW dd sl ee kk else 0) (mm := 10) (fun kk hk hr => by
    show (t0 26 (rk dd kk)).toNatClampNeg = kk
    rw [hl kk hk hr, nI_clamp (by omega)]) (dN dd) h10
  have e1 : rk dd 10 = fa_cnt (rb dd) (dN dd) := rk_N dd h10
  unfold vx
  rw [ldA_wt hc]
  dsimp only at hs2 ⊢
  rw [e1, hs2, nsum_cong (ff := fun jj => if rb dd jj then (if dp dd jj = cc then endW dd sl ee jj else 0) else 0) (gg := fun kk => if dp dd kk = cc then endW dd sl ee kk else 0) (dN dd) (fun kk hk => ?_)]
  by_cases q : rb dd kk = true
  · rw [if_pos q]
  · have q' : rb dd kk = false := by simpa using q
    have := rb_f q' hk
    rw [if_neg q, if_neg (by omega)]
theorem C_slip2 {t0 : MM} {dd : WD} {nn sl : Nat} (hC : CW t0 dd) (hO : DOk dd) (hs : sl ≤ 9) (h8 : rk dd 10 ≤ 8) (hl : ∀ kk, kk < 10 → rb dd kk = true → t0 26 (rk dd kk) = nI kk) (hB : BalF (t0 24) (fun cc => (dsd dd cc : Int))) (hB2 : BalF (t0 27) (ldA dd)) (hn : 300 < nn) : ∃ t2, it2 (lb_X4_findWorst_29 nn (nI sl) (nI (rk dd 10))) nn (0 : Int32) t0 = some t2 ∧ (∀ kk, kk ≠ 25 → kk ≠ 27 → t2 kk = t0 kk) ∧ ∃ lw, ldOk lw ∧ BalF (t2 27) lw ∧ (lw = ldA dd ∨ ∃ ee, ee < 2 ^ rk dd 10 ∧ lw = vx dd sl ee) ∧ phL (ldA dd) ≤ phL lw ∧ ∀ ee, ee < 2 ^ rk dd 10 → phL (vx dd sl ee) ≤ phL lw := by
  have hpow : 2 ^ rk dd 10 ≤ 2 ^ 8 := Nat.pow_le_pow_right (by decide) h8
  have hpow2 : (2 : Nat) ^ 8 = 256 := by decide
  exact it2_inv (bb := lb_X4_findWorst_29 nn (nI sl) (nI (rk dd 10))) (fun kx v3 t2 => v3 = nI kx ∧ (∀ kk, kk ≠ 25 → kk ≠ 27 → t2 kk = t0 kk) ∧ ∃ lw, ldOk lw ∧ BalF (t2 27) lw ∧ (lw = ldA dd ∨ ∃ ee, ee < kx ∧ lw = vx dd sl ee) ∧ phL (ldA dd) ≤ phL lw ∧ ∀ ee, ee < kx → phL (vx dd sl ee) ≤ phL lw) (2 ^ rk dd 10) (fun t2 => (∀ kk, kk ≠ 25 → kk ≠ 27 → t2 kk = t0 kk) ∧ ∃ lw, ldOk lw ∧ BalF (t2 27) lw ∧ (lw = ldA dd ∨ ∃ ee, ee < 2 ^ rk dd 10 ∧ lw = vx dd sl ee) ∧ phL (ldA dd) ≤ phL lw ∧ ∀ ee, ee < 2 ^ rk dd 10 → phL (vx dd sl ee) ≤ phL lw) (by
    rintro kx v3 t2 hle ⟨rfl, f1, lw, ow, B1, hw, hm0, hm⟩
    unfold lb_X4_findWorst_29
    rw [bit_sh (show rk dd 10 < 31 by omega)]
    by_cases q : kx < 2 ^ rk dd 10
    · rw [if_neg (nI_ge q (by omega))]
      have g24 : BalF (t2 24) (fun cc => (dsd dd cc : Int)) := by rw [f1 24 (by omega) (by omega)]; exact hB
      obtain ⟨g1, e1, B3⟩ := C_become2 (tt := t2) (k0 := 25) (k1 := 24) (by omega) g24
      have hC2 : CW (stA t2 25 g1) dd := by
        unfold CW
        rw [stA_ne _ _ (show 1 ≠ 25 by omega), stA_ne _ _ (show 2 ≠ 25 by omega), stA_ne _ _ (show 3 ≠ 25 by omega), stA_ne _ _ (show 4 ≠ 25 by omega), stA_ne _ _ (show 5 ≠ 25 by omega), stA_ne _ _ (show 6 ≠ 25 by omega), f1 1 (by omega) (by omega), f1 2 (by omega) (by omega), f1 3 (by omega) (by omega), f1 4 (by omega) (by omega), f1 5 (by omega) (by omega), f1 6 (by omega) (by omega)]
        exact hC
      obtain ⟨g2, e2, B4⟩ := C_slip1 (nn := nn) (sl := sl) (ee := kx) hC2 hO hs (by omega) (fun kk hk hr => by rw [stA_ne _ _ (by omega), f1 26 (by omega) (by omega)]; exact hl kk hk hr) (by rw [stA_same]; exact B3) (by omega)
      rw [stA_stA] at e2
      have ov : ldOk (vx dd sl kx) := vx_ok hO hs
      have B5 : BalF (stA t2 25 g2 25) (vx dd sl kx) := by rw [stA_same]; exact B4
      have B6 : BalF (stA t2 25 g2 27) lw := by rw [stA_ne _ _ (by omega)]; exact B1
      rw [e1, b1_eq, e2, b1_eq, C_worse B5 B6 ov ow, b1_eq, if01]
      by_cases q2 : abvB (sqA (vx dd sl kx) - sqA lw) (sqB (vx dd sl kx) - sqB lw) = true
      · have hgt := (gt_ph ov ow).mp (abvB_t.mp q2)
        obtain ⟨g3, e3, B7⟩ := C_become2 (tt := stA t2 25 g2) (k0 := 27) (k1 := 25) (by omega) B5
        rw [if_pos q2, e3, b1_eq, nm_eq, nI_1]
        refine Or.inl ⟨q, _, _, rfl, rfl, fun kk h1 h2 => by rw [stA_ne _ _ h2, stA_ne _ _ h1]; exact f1 kk h1 h2, vx dd sl kx, ov, by rw [stA_same]; exact B7, Or.inr ⟨kx, by omega, rfl⟩, by omega, fun ee hee => ?_⟩
        by_cases q3 : ee = kx
        · rw [q3]; exact Int.le_refl _
        · have := hm ee (by omega)
          omega
      · have hgt : ¬ phL lw < phL (vx dd sl kx) := fun z => q2 (abvB_t.mpr ((gt_ph ov ow).mpr z))
        rw [if_neg q2, nm_eq, nI_1]
        refine Or.inl ⟨q, _, _, rfl, rfl, fun kk h1 h2 => by rw [stA_ne _ _ h1]; exact f1 kk h1 h2, lw, ow, B6, ?_, hm0, fun ee hee => ?_⟩
        · rcases hw with hw | ⟨ee, h1, h2⟩
          · exact Or.inl hw
          · exact Or.inr ⟨ee, by omega, h2⟩
        · by_cases q3 : ee = kx
          · rw [q3]; omega
          · exact hm ee (by omega)
    · have e : kx = 2 ^ rk dd 10 := by omega
      subst e
      rw [if_pos (nI_le (Nat.le_refl _) (by omega))]
      exact Or.inr ⟨_, rfl, f1, lw, ow, B1, hw, hm0, hm⟩) nn 0 t0 (by omega) ⟨rfl, fun _ _ _ => rfl, ldA dd, ldm_Ok hO _, hB2, Or.inl rfl, Int.le_refl _, fun ee hee => absurd hee (by omega)⟩
theorem C_worst {tt : MM} {dd : WD} {nn sl : Nat} (hC : CW tt dd) (hO : DOk dd) (hs : sl ≤ 9) (h8 : rk dd 10 ≤ 8) (hn : 300 < nn) : ∃ t2, f_X4_findWorst nn tt (nI sl) = some t2 ∧ (∀ kk, ¬ (24 ≤ kk ∧ kk ≤ 27) → t2 kk = tt kk) ∧ ∃ lw ee, ldOk lw ∧ BalF (t2 27) lw ∧ ee < 2 ^ rk dd 10 ∧ sqA lw = sqA (vx dd sl ee) ∧ sqB lw = sqB (vx dd sl ee) ∧ ∀ ef, ef < 2 ^ rk dd 10 → phL (vx dd sl ef) ≤ phL (vx dd sl ee) := by
  obtain ⟨g1, e1, hl⟩ := C_list hC hO (show 12 < nn by omega)
  have hC1 : CW (stA tt 26 g1) dd := CW_stA hC (by omega)
  obtain ⟨g2, e2, B2⟩ := C_wAll (kb := 27) hC1 hO (show 13 < nn by omega) (by omega)
  have hC2 : CW (stA (stA tt 26 g1) 27 g2) dd := CW_stA hC1 (by omega)
  obtain ⟨g3, e3, B3⟩ := C_wSand (kb := 24) hC2 (show 13 < nn by omega) (by omega)
  have hC3 : CW (stA (stA (stA tt 26 g1) 27 g2) 24 g3) dd := CW_stA hC2 (by omega)
  obtain ⟨t2, e4, f1, lw, ow, B4, hw, hm0, hm⟩ := C_slip2 (nn := nn) (sl := sl) hC3 hO hs h8 (fun kk hk hr => by rw [stA_ne _ _ (by omega), stA_ne _ _ (by omega), stA_same]; exact hl kk hk hr) (by rw [stA_same]; exact B3) (by rw [stA_ne _ _ (by omega), stA_same]; exact B2) hn
  refine ⟨t2, ?_, fun kk hk => by rw [f1 kk (by omega) (by omega), stA_ne _ _ (by omega), stA_ne _ _ (by omega), stA_ne _ _ (by omega)], ?_⟩
  · unfold f_X4_findWorst
    rw [e1, b1_eq, e2, b1_eq, e3, b1_eq, e4]
    rfl
  · rcases hw with rfl | ⟨ee, h1, rfl⟩
    · obtain ⟨ee, h1, h2⟩ := vx_ex dd sl
      rw [← rk_N dd hO.1] at h1
      have h3 := hm ee h1
      have h4 : phL (ldA dd) = phL (vx dd sl ee) := by omega
      have h5 := eq_ph (ldm_Ok hO _) (vx_ok hO hs) h4
      exact ⟨ldA dd, ee, ow, B4, h1, h5.1, h5.2, fun ef hef => by rw [← h4]; exact hm ef hef⟩
    · exact ⟨vx dd sl ee, ee, ow, B4, h1, rfl, rfl, hm⟩
