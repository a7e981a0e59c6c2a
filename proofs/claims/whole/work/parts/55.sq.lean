/-! the reference's square, evenness -/
theorem cos1 : ∀ cc, cc < 12 → f_X8_cosine (nI cc) (0 : Int32) = some (iI (tabI 1 cc)) := by decide +kernel
theorem cos2 : ∀ cc, cc < 12 → f_X8_cosine (nI cc) (1 : Int32) = some (iI (tabI 2 cc)) := by decide +kernel
theorem cos3 : ∀ cc, cc < 12 → f_X8_cosine ((nI cc + (9 : Int32)) - (nI cc + (9 : Int32)) / (12 : Int32) * (12 : Int32)) (0 : Int32) = some (iI (tabI 3 cc)) := by decide +kernel
theorem cos4 : ∀ cc, cc < 12 → f_X8_cosine ((nI cc + (9 : Int32)) - (nI cc + (9 : Int32)) / (12 : Int32) * (12 : Int32)) (1 : Int32) = some (iI (tabI 4 cc)) := by decide +kernel
theorem sr1_o {uu : SR} {kk jj yy : Nat} {vv : Int32} (h : yy ≠ jj) : (sr1 uu kk jj vv).1 kk yy = uu.1 kk yy := by rw [sr1_at, if_neg h]
theorem sr1_s {uu : SR} {kk jj : Nat} {vv : Int32} : (sr1 uu kk jj vv).1 kk jj = vv := by rw [sr1_at, if_pos rfl]
theorem R_square {uu : SR} {ld : Nat → Int} {nn : Nat} (hL : ∀ cc, cc < 12 → uu.1 45 cc = iI (ld cc)) (hO : ldOk ld) (hn : 13 < nn) : ∃ ww, f_X8_findSquare nn uu = some ww ∧ RFr uu ww ∧ ww.1 45 = uu.1 45 ∧ (∀ ii, ii < 4 → ww.1 39 (10 + ii) = iI (carS ld ii)) ∧ ww.2 14 = lI (sqA ld) ∧ ww.2 15 = lI (sqB ld) := by
  have hF0 : RFr uu (sr1 (sr1 (sr1 (sr1 uu 39 10 0) 39 11 0) 39 12 0) 39 13 0) := (((RFr.rf.w39 (by omega) _).w39 (by omega) _).w39 (by omega) _).w39 (by omega) _
  obtain ⟨xx, h1, h2⟩ := it2_inv (bb := lb_X8_findSquare_22 nn) (fun ii v1 ww => v1 = nI ii ∧ RFr uu ww ∧ ww.1 45 = uu.1 45 ∧ ∀ jj, jj < 4 → ww.1 39 (10 + jj) = iI (csum (fun cc => ld cc * tabI (jj + 1) cc) ii)) 12 (fun ww => RFr uu ww ∧ ww.1 45 = uu.1 45 ∧ ∀ jj, jj < 4 → ww.1 39 (10 + jj) = iI (carS ld jj)) (by
    rintro ii v1 ww hle ⟨rfl, hF, h45, hV⟩
    by_cases h : ii < 12
    · refine Or.inl ⟨h, ?_⟩
      have g1 : ¬ (12 : Int32) ≤ nI ii := nI_ge (b := 12) h (by omega)
      have k0 := hV 0 (by omega)
      have k1 := hV 1 (by omega)
      have k2 := hV 2 (by omega)
      have k3 := hV 3 (by omega)
      have kl : ww.1 45 ii = iI (ld ii) := by rw [h45]; exact hL ii h
      simp only [lb_X8_findSquare_22, if_neg g1, ix_nI h (show 12 < 2 ^ 31 by omega), nI_clamp (show ii < 2 ^ 31 by omega), nm_eq, nI_1, cos1 ii h, cos2 ii h, cos3 ii h, cos4 ii h, b1_eq, sr1_ne (show 45 ≠ 39 by omega), sr1_o (show 11 ≠ 10 by omega), sr1_o (show 12 ≠ 11 by omega), sr1_o (show 12 ≠ 10 by omega), sr1_o (show 13 ≠ 12 by omega), sr1_o (show 13 ≠ 11 by omega), sr1_o (show 13 ≠ 10 by omega), kl, k0, k1, k2, k3, iI_mul, iI_add]
      refine ⟨_, _, rfl, rfl, (((hF.w39 (by omega) _).w39 (by omega) _).w39 (by omega) _).w39 (by omega) _, ?_, ?_⟩
      · rw [sr1_ne (by omega), sr1_ne (by omega), sr1_ne (by omega), sr1_ne (by omega)]
        exact h45
      · intro jj hj
        rcases (show jj = 0 ∨ jj = 1 ∨ jj = 2 ∨ jj = 3 by omega) with rfl | rfl | rfl | rfl
        · rw [sr1_o (by omega), sr1_o (by omega), sr1_o (by omega), sr1_s, csum]
        · rw [sr1_o (by omega), sr1_o (by omega), sr1_s, csum]
        · rw [sr1_o (by omega), sr1_s, csum]
        · rw [sr1_s, csum]
    · refine Or.inr ?_
      have e : ii = 12 := by omega
      subst e
      have g1 : (12 : Int32) ≤ nI 12 := by decide
      simp only [lb_X8_findSquare_22, if_pos g1]
      exact ⟨_, rfl, hF, h45, hV⟩) nn 0 (sr1 (sr1 (sr1 (sr1 uu 39 10 0) 39 11 0) 39 12 0) 39 13 0) (by omega) ⟨rfl, hF0, rfl, fun jj hj => by
      rcases (show jj = 0 ∨ jj = 1 ∨ jj = 2 ∨ jj = 3 by omega) with rfl | rfl | rfl | rfl <;> rfl⟩
  obtain ⟨hF, h45, hV⟩ := h2
  have a0 := carS_bd hO (ii := 0) (by omega)
  have a1 := carS_bd hO (ii := 1) (by omega)
  have a2 := carS_bd hO (ii := 2) (by omega)
  have a3 := carS_bd hO (ii := 3) (by omega)
  have k0 := hV 0 (by omega)
  have k1 := hV 1 (by omega)
  have k2 := hV 2 (by omega)
  have k3 := hV 3 (by omega)
  refine ⟨srL (srL xx 14 (lI (sqA ld))) 15 (lI (sqB ld)), ?_, (hF.wL (Or.inl rfl) _).wL (Or.inr rfl) _, h45, hV, ?_, ?_⟩
  · unfold f_X8_findSquare
    simp only [nm_eq]
    rw [show (it2 (lb_X8_findSquare_22 nn) nn (0 : Int32) (sr1 (sr1 (sr1 (sr1 uu 39 10 0) 39 11 0) 39 12 0) 39 13 0)) = some xx from h1, b1_eq]
    simp only [srL_1, k0, k1, k2, k3, wid (zz := carS ld 0) (by omega) (by omega), wid (zz := carS ld 1) (by omega) (by omega), wid (zz := carS ld 2) (by omega) (by omega), wid (zz := carS ld 3) (by omega) (by omega), i64_3, i64_2, lI_mul, lI_add]
    rfl
  · rw [srL_at, if_neg (by omega), srL_at, if_pos rfl]
  · rw [srL_at, if_pos rfl]
theorem R_evenNow {uu : SR} {ld : Nat → Int} {nn li : Nat} (hL : ∀ cc, cc < 12 → uu.1 45 cc = iI (ld cc)) (hO : ldOk ld) (hn : 13 < nn) (h6 : uu.1 39 6 = nI li) (hl : li ≤ 999) : ∃ ww, f_X8_isEvenNow nn uu = some (if evB ld li then 1 else 0, ww) ∧ RFr uu ww ∧ ww.1 45 = uu.1 45 := by
  obtain ⟨ww, e1, hF, h45, -, hA, hB⟩ := R_square hL hO hn
  obtain ⟨s1, s2⟩ := even_sm hO hl
  refine ⟨ww, ?_, hF, h45⟩
  unfold f_X8_isEvenNow
  rw [e1, b1_eq, hA, hB, hF.2.1 6 (by omega), h6, nI_wid (by omega), i64_4, lI_mul, lI_mul, lI_sub, noMore_ok s1 s2, b1_eq]
  unfold evB
  cases abvB (sqA ld - 4 * (li : Int) * (li : Int)) (sqB ld) <;> rfl
theorem R_even {uu : SR} {dd : WD} {nn : Nat} (hC : RX uu dd) (hO : DOk dd) (hn : 13 < nn) : ∃ ww, f_X8_isEven nn uu = some (if evB (ldA dd) (dli dd) then 1 else 0, ww) ∧ RFr uu ww := by
  obtain ⟨w1, e1, F1', L1⟩ := R_loads hC hO hn
  have hC1 := hC.fr F1'
  obtain ⟨w2, e2, F2', -⟩ := R_evenNow L1 (ldm_Ok hO _) hn hC1.2.2.2.2.2.2.2.1 hO.2.2.2.2
  refine ⟨w2, ?_, F1'.tr F2'⟩
  unfold f_X8_isEven
  rw [e1, b1_eq, e2, b1_eq]
  exact bz_01
theorem evB_cong {ld le : Nat → Int} (h : ∀ cc, cc < 12 → ld cc = le cc) (li : Nat) : evB ld li = evB le li := by
  unfold evB sqA sqB
  simp only [carS_cong h]
theorem ldOk_cong {ld le : Nat → Int} (h : ∀ cc, cc < 12 → ld cc = le cc) (hO : ldOk ld) : ldOk le := ⟨fun cc hc => by rw [← h cc hc]; exact hO.1 cc hc, by rw [← csum_cong 12 h]; exact hO.2⟩
