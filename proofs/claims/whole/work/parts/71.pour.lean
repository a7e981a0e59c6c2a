/-! pour -/
def poD (dd : WD) (pv : Nat → Nat) : WD := (dN dd, dk dd, dw dd, dp dd, dsn dd, pv, dmi dd, dli dd)
def pvI (IT : Nat → Int32) (cc : Nat) : Nat := (IT cc).toNatClampNeg
def okI (vv : Int32) : Prop := ∃ kk : Nat, kk ≤ 99 ∧ vv = nI kk
theorem okI_c (vv : Int32) : (vv < 0 ∧ vv.toInt < 0 ∧ ¬ okI vv) ∨ (∃ kk : Nat, kk < 2 ^ 31 ∧ vv = nI kk ∧ ((kk ≤ 99 ∧ okI vv) ∨ (99 < kk ∧ ¬ okI vv))) := by
  rcases cases32 vv with ⟨q1, q2⟩ | ⟨kk, hk, rfl⟩
  · left
    refine ⟨q1, q2, ?_⟩
    rintro ⟨kk, hk, rfl⟩
    exact nI_pos (by omega) q1
  · right
    refine ⟨kk, hk, rfl, ?_⟩
    by_cases q : kk ≤ 99
    · exact Or.inl ⟨q, kk, q, rfl⟩
    · right
      refine ⟨by omega, ?_⟩
      rintro ⟨jj, hj, e⟩
      have := (nI_eq hk (by omega)).mp e
      omega
theorem okI_p {IT : Nat → Int32} {cc : Nat} (h : okI (IT cc)) : IT cc = nI (pvI IT cc) ∧ pvI IT cc ≤ 99 := by
  obtain ⟨kk, hk, e⟩ := h
  unfold pvI
  rw [e, nI_clamp (by omega)]
  exact ⟨rfl, hk⟩
theorem C_hang2 {tt : MM} {kb : Nat} {ld : Nat → Int} {cc : Nat} {xx : Int} (hB : BalF (tt kb) ld) (hc : cc < 12) : ∃ gg2, f_X2_hang tt kb (nI cc) (iI xx) = some (stA tt kb gg2) ∧ BalF gg2 (addL ld cc xx) := by
  have h := C_hang (tt := tt) (kb := kb) (xx := xx) hB hc
  rw [stA_self] at h
  exact h
theorem C_pour1 {tt : MM} {nn ii fr : Nat} {IT : Nat → Int32} {l0 : Nat → Int} (hi : ii < 4) (hfr : fr + 12 ≤ 24) (hIT : ∀ cc, cc < 12 → tt (30 + 2 * ii + 1) (fr + cc) = IT cc) (hB : BalF (tt 28) l0) (hn : 13 < nn) : ∃ xx, it3 (lb_X7_pour_36 nn (nI ii) (nI fr)) nn (0 : Int32) (0 : Int32) tt = some xx ∧ ∃ t2, (∀ kk, kk ≠ 28 → kk ≠ 38 → t2 kk = tt kk) ∧ ((xx = .inl (-2, t2) ∧ ∃ jj, jj < 12 ∧ ¬ okI (IT jj)) ∨ (xx = .inr (nI (nsum (pvI IT) 12), t2) ∧ (∀ jj, jj < 12 → okI (IT jj)) ∧ BalF (t2 28) (fun cc => l0 cc + (if cc < 12 then (pvI IT cc : Int) else 0)) ∧ ∀ jj, jj < 12 → t2 38 jj = IT jj)) :=
  it3_inv (bb := lb_X7_pour_36 nn (nI ii) (nI fr)) (fun kx v5 v6 t2 => v5 = nI (nsum (pvI IT) kx) ∧ v6 = nI kx ∧ (∀ kk, kk ≠ 28 → kk ≠ 38 → t2 kk = tt kk) ∧ (∀ jj, jj < kx → okI (IT jj)) ∧ BalF (t2 28) (fun cc => l0 cc + (if cc < kx then (pvI IT cc : Int) else 0)) ∧ ∀ jj, jj < kx → t2 38 jj = IT jj) 12 (fun xx => ∃ t2, (∀ kk, kk ≠ 28 → kk ≠ 38 → t2 kk = tt kk) ∧ ((xx = .inl (-2, t2) ∧ ∃ jj, jj < 12 ∧ ¬ okI (IT jj)) ∨ (xx = .inr (nI (nsum (pvI IT) 12), t2) ∧ (∀ jj, jj < 12 → okI (IT jj)) ∧ BalF (t2 28) (fun cc => l0 cc + (if cc < 12 then (pvI IT cc : Int) else 0)) ∧ ∀ jj, jj < 12 → t2 38 jj = IT jj))) (by
    rintro kx v5 v6 t2 hle ⟨rfl, rfl, f1, hok, hB2, h38⟩
    unfold lb_X7_pour_36
    by_cases q : kx < 12
    · rw [if_neg (show ¬ (12 : Int32) ≤ nI kx from nI_ge (b := 12) q (by omega)), ix_nI hi (by omega), nI_add, ix_nI (show fr + kx < 24 by omega) (by omega), nI_clamp (show ii < 2 ^ 31 by omega), nI_clamp (show fr + kx < 2 ^ 31 by omega), f1 (30 + 2 * ii + 1) (by omega) (by omega), hIT kx q, nm_eq]
      rcases okI_c (IT kx) with ⟨z1, -, z2⟩ | ⟨kk, hk, z1, ⟨z2, z3⟩ | ⟨z2, z3⟩⟩
      · rw [if_pos z1]
        exact Or.inr ⟨_, rfl, t2, f1, Or.inl ⟨rfl, kx, q, z2⟩⟩
      · have ep : pvI IT kx = kk := by unfold pvI; rw [z1, nI_clamp hk]
        have hB3 : BalF (st1 t2 38 kx (IT kx) 28) (fun cc => l0 cc + (if cc < kx then (pvI IT cc : Int) else 0)) := by rw [st1_ne (by omega)]; exact hB2
        obtain ⟨g2, e1, B4⟩ := C_hang2 (tt := st1 t2 38 kx (IT kx)) (kb := 28) (xx := (kk : Int)) hB3 q
        rw [iI_nat] at e1
        rw [z1] at e1 ⊢
        rw [if_neg (nI_pos hk), if_pos (show nI kk ≤ (99 : Int32) from nI_le (b := 99) z2 (by omega)), ix_nI q (by omega), nI_clamp (show kx < 2 ^ 31 by omega), nm_eq, nm_eq, nI_add, e1, b1_eq, nm_eq, nI_1]
        refine Or.inl ⟨q, _, _, _, rfl, by rw [nsum, ep], rfl, fun kk h1 h2 => ?_, fun jj hj => ?_, ?_, fun jj hj => ?_⟩
        · rw [stA_ne _ _ h1, st1_ne h2]; exact f1 kk h1 h2
        · by_cases q2 : jj = kx
          · rw [q2]; exact z3
          · exact hok jj (by omega)
        · rw [stA_same]
          refine B4.cong (fun cc hc => ?_)
          unfold addL
          dsimp only
          by_cases q2 : cc = kx
          · subst q2
            rw [if_pos rfl, if_neg (by omega), if_pos (by omega), ep]
            omega
          · rw [if_neg q2]
            by_cases q3 : cc < kx
            · rw [if_pos q3, if_pos (by omega)]
            · rw [if_neg q3, if_neg (by omega)]
        · rw [stA_ne _ _ (by omega), st1_at]
          by_cases q2 : jj = kx
          · rw [if_pos q2, q2, z1]
          · rw [if_neg q2]; exact h38 jj (by omega)
      · rw [z1, if_neg (nI_pos hk), if_neg (show ¬ nI kk ≤ (99 : Int32) from nI_ge (a := 99) z2 hk)]
        exact Or.inr ⟨_, rfl, t2, f1, Or.inl ⟨rfl, kx, q, z3⟩⟩
    · have e : kx = 12 := by omega
      subst e
      rw [if_pos (show (12 : Int32) ≤ nI 12 by decide)]
      exact Or.inr ⟨_, rfl, t2, f1, Or.inr ⟨rfl, hok, hB2, h38⟩⟩) nn 0 0 tt (by omega) ⟨rfl, rfl, fun _ _ _ => rfl, fun jj hj => absurd hj (by omega), hB.cong (fun cc _ => by rw [if_neg (by omega)]; omega), fun jj hj => absurd hj (by omega)⟩
theorem R_pour1 {uu : SR} {nn at0 : Nat} {IT : Nat → Int32} {l0 : Nat → Int} {sd : Nat → Nat} (ha : at0 + 12 ≤ 96) (hIT : ∀ cc, cc < 12 → uu.1 56 (at0 + cc) = IT cc) (hL : ∀ cc, cc < 12 → uu.1 45 cc = iI (l0 cc)) (hs : ∀ cc, cc < 12 → uu.1 44 cc = nI (sd cc)) (hn : 13 < nn) : ∃ xx, it2 (lb_X8_pour_44 nn (nI at0)) nn (0 : Int32) uu = some xx ∧ ∃ u2, RFr uu u2 ∧ ((xx = .inl (-2, u2) ∧ ∃ jj, jj < 12 ∧ ¬ okI (IT jj)) ∨ (xx = .inr u2 ∧ (∀ jj, jj < 12 → okI (IT jj)) ∧ ∀ cc, cc < 12 → u2.1 45 cc = iI (l0 cc + (pvI IT cc : Int) - (sd cc : Int)))) :=
  it2_inv (bb := lb_X8_pour_44 nn (nI at0)) (fun kx v6 u2 => v6 = nI kx ∧ RFr uu u2 ∧ (∀ jj, jj < kx → okI (IT jj)) ∧ ∀ cc, cc < 12 → u2.1 45 cc = iI (if cc < kx then l0 cc + (pvI IT cc : Int) - (sd cc : Int) else l0 cc)) 12 (fun xx => ∃ u2, RFr uu u2 ∧ ((xx = .inl (-2, u2) ∧ ∃ jj, jj < 12 ∧ ¬ okI (IT jj)) ∨ (xx = .inr u2 ∧ (∀ jj, jj < 12 → okI (IT jj)) ∧ ∀ cc, cc < 12 → u2.1 45 cc = iI (l0 cc + (pvI IT cc : Int) - (sd cc : Int))))) (by
    rintro kx v6 u2 hle ⟨rfl, hF, hok, hL2⟩
    unfold lb_X8_pour_44
    by_cases q : kx < 12
    · have e56 : u2.1 56 (at0 + kx) = IT kx := by rw [hF.1 56 (by omega) (by omega)]; exact hIT kx q
      have e44 : u2.1 44 kx = nI (sd kx) := by rw [hF.1 44 (by omega) (by omega)]; exact hs kx q
      have e45 : u2.1 45 kx = iI (l0 kx) := by rw [hL2 kx q, if_neg (by omega)]
      simp only [if_neg (show ¬ (12 : Int32) ≤ nI kx from nI_ge (b := 12) q (by omega)), nI_add, ix_nI (show at0 + kx < 96 by omega) (show 96 < 2 ^ 31 by omega), ix_nI q (show 12 < 2 ^ 31 by omega), nI_clamp (show at0 + kx < 2 ^ 31 by omega), nI_clamp (show kx < 2 ^ 31 by omega), e56, e44, e45, nm_eq, nI_1]
      rcases okI_c (IT kx) with ⟨z1, z1', z2⟩ | ⟨kk, hk, z1, ⟨z2, z3⟩ | ⟨z2, z3⟩⟩
      · rw [show f_X8_in (IT kx).toInt64 (0 : Int64) (99 : Int64) = some 0 from R_inM z1' 0 99 (by omega) (by omega), b1_eq, if_pos rfl]
        exact Or.inr ⟨_, rfl, u2, hF, Or.inl ⟨rfl, kx, q, z2⟩⟩
      · have ep : pvI IT kx = kk := by unfold pvI; rw [z1, nI_clamp hk]
        have e99 : f_X8_in (nI kk).toInt64 (0 : Int64) (99 : Int64) = some 1 := by
          rw [show f_X8_in (nI kk).toInt64 (0 : Int64) (99 : Int64) = _ from R_inN hk 0 99 (by omega) (by omega), if_pos (by omega)]
        rw [z1, e99, b1_eq, if_neg n10', ← iI_nat kk, ← iI_nat (sd kx), iI_sub, iI_add]
        refine Or.inl ⟨q, _, _, rfl, rfl, hF.w45 _ _, fun jj hj => ?_, fun cc hc => ?_⟩
        · by_cases q2 : jj = kx
          · rw [q2]; exact z3
          · exact hok jj (by omega)
        · rw [sr1_at]
          by_cases q2 : cc = kx
          · subst q2
            rw [if_pos rfl, if_pos (by omega), ep]
            congr 1
            omega
          · rw [if_neg q2, hL2 cc hc]
            by_cases q3 : cc < kx
            · rw [if_pos q3, if_pos (by omega)]
            · rw [if_neg q3, if_neg (by omega)]
      · have e99 : f_X8_in (nI kk).toInt64 (0 : Int64) (99 : Int64) = some 0 := by
          rw [show f_X8_in (nI kk).toInt64 (0 : Int64) (99 : Int64) = _ from R_inN hk 0 99 (by omega) (by omega), if_neg (by omega)]
        rw [z1, e99, b1_eq, if_pos rfl]
        exact Or.inr ⟨_, rfl, u2, hF, Or.inl ⟨rfl, kx, q, z3⟩⟩
    · have e : kx = 12 := by omega
      subst e
      rw [if_pos (show (12 : Int32) ≤ nI 12 by decide)]
      exact Or.inr ⟨_, rfl, u2, hF, Or.inr ⟨rfl, hok, fun cc hc => by rw [hL2 cc hc, if_pos hc]⟩⟩) nn 0 uu (by omega) ⟨rfl, RFr.rf, fun jj hj => absurd hj (by omega), fun cc hc => by rw [if_neg (by omega)]; exact hL cc hc⟩
theorem R_pour2 {uu : SR} {nn at0 : Nat} {IT : Nat → Int32} (ha : at0 + 12 ≤ 96) (hIT : ∀ cc, cc < 12 → uu.1 56 (at0 + cc) = IT cc) (hok : ∀ jj, jj < 12 → okI (IT jj)) (hn : 13 < nn) : ∃ xx, it3 (lb_X8_pour_125 nn (nI at0)) nn (0 : Int32) (0 : Int32) uu = some xx ∧ ∃ u2, xx = (nI (nsum (pvI IT) 12), u2) ∧ (∀ kk, kk ≠ 44 → u2.1 kk = uu.1 kk) ∧ u2.2 = uu.2 ∧ ∀ cc, cc < 12 → u2.1 44 cc = nI (pvI IT cc) :=
  it3_inv (bb := lb_X8_pour_125 nn (nI at0)) (fun kx v6 v7 u2 => v6 = nI (nsum (pvI IT) kx) ∧ v7 = nI kx ∧ (∀ kk, kk ≠ 44 → u2.1 kk = uu.1 kk) ∧ u2.2 = uu.2 ∧ ∀ cc, cc < kx → u2.1 44 cc = nI (pvI IT cc)) 12 (fun xx => ∃ u2, xx = (nI (nsum (pvI IT) 12), u2) ∧ (∀ kk, kk ≠ 44 → u2.1 kk = uu.1 kk) ∧ u2.2 = uu.2 ∧ ∀ cc, cc < 12 → u2.1 44 cc = nI (pvI IT cc)) (by
    rintro kx v6 v7 u2 hle ⟨rfl, rfl, f1, f2, f3⟩
    unfold lb_X8_pour_125
    by_cases q : kx < 12
    · have e56 : u2.1 56 (at0 + kx) = nI (pvI IT kx) := by rw [f1 56 (by omega), hIT kx q]; exact (okI_p (hok kx q)).1
      simp only [if_neg (show ¬ (12 : Int32) ≤ nI kx from nI_ge (b := 12) q (by omega)), nI_add, ix_nI (show at0 + kx < 96 by omega) (show 96 < 2 ^ 31 by omega), ix_nI q (show 12 < 2 ^ 31 by omega), nI_clamp (show at0 + kx < 2 ^ 31 by omega), nI_clamp (show kx < 2 ^ 31 by omega), e56, nm_eq, nI_1, sr1_s]
      refine Or.inl ⟨q, _, _, _, rfl, by rw [nsum], rfl, fun kk hk => by rw [sr1_ne hk]; exact f1 kk hk, f2, fun cc hc => ?_⟩
      rw [sr1_at]
      by_cases q2 : cc = kx
      · rw [if_pos q2, q2]
      · rw [if_neg q2]; exact f3 cc (by omega)
    · have e : kx = 12 := by omega
      subst e
      rw [if_pos (show (12 : Int32) ≤ nI 12 by decide)]
      exact Or.inr ⟨_, rfl, u2, rfl, f1, f2, f3⟩) nn 0 0 uu (by omega) ⟨rfl, rfl, fun _ _ => rfl, rfl, fun jj hj => absurd hj (by omega)⟩
theorem m_pour {tt : MM} {uu : SR} {dd : WD} {nn : Nat} (hW : WR tt uu dd) (h : SH tt uu) (hn : 24 < nn) (v1 v2 v3 : Int32) : Good tt uu (f_X7_pour nn tt v1 v2 v3) (f_X8_pour nn uu v1 v2 v3) := by
  have h0 := hW
  obtain ⟨hC, hR, hO, hfit⟩ := hW
  unfold f_X7_pour f_X8_pour
  rcases m_row h (ww := 12) (w32 := 12) (by omega) rfl v1 v2 v3 with ⟨ii, la, fr, ln, hi, hla, hl, hfr, rfl, rfl, rfl, k2, k3, a1, a2, a3⟩ | ⟨no, hno, a1, a2⟩
  · obtain ⟨l9, hl9, -, -, -, hit⟩ := h ii hi
    obtain ⟨IT, hIT⟩ : ∃ IT : Nat → Int32, ∀ cc, cc < 12 → tt (30 + 2 * ii + 1) (fr + cc) = IT cc := ⟨fun cc => tt (30 + 2 * ii + 1) (fr + cc), fun _ _ => rfl⟩
    obtain ⟨g1, c1, B1⟩ := C_wRid (kb := 28) hC hO (show 13 < nn by omega) (by omega)
    obtain ⟨w1, d1, F1', L1⟩ := R_loads hR.x hO (show 13 < nn by omega)
    have hR1 := hR.fr F1'
    obtain ⟨xx, c2, t2, f1, hx⟩ := C_pour1 (tt := stA tt 28 g1) (nn := nn) (IT := IT) hi (show fr + 12 ≤ 24 by omega) (fun cc hc => by rw [stA_ne _ _ (by omega)]; exact hIT cc hc) (by rw [stA_same]; exact B1) (by omega)
    have hIR : ∀ cc, cc < 12 → w1.1 56 (24 * ii + fr + cc) = IT cc := fun cc hc => by
      rw [F1'.1 56 (by omega) (by omega), Nat.add_assoc, ← hit _ (by omega)]; exact hIT cc hc
    obtain ⟨yy, d2, u2, F2', hy⟩ := R_pour1 (uu := w1) (nn := nn) (IT := IT) (at0 := 24 * ii + fr) (by omega) hIR L1 hR1.2.2.2.2.2.1 (by omega)
    have hF := F1'.tr F2'
    have f2 : ∀ kk, kk ≠ 28 → kk ≠ 38 → t2 kk = tt kk := fun kk h1 h2 => by rw [f1 kk h1 h2, stA_ne _ _ h1]
    have hC2 : CW t2 dd := by
      unfold CW
      rw [f2 1 (by omega) (by omega), f2 2 (by omega) (by omega), f2 3 (by omega) (by omega), f2 4 (by omega) (by omega), f2 5 (by omega) (by omega), f2 6 (by omega) (by omega)]
      exact hC
    have hc2 : CRest tt t2 := ⟨fun kk hk => f2 kk (by unfold CK at hk; omega) (by unfold CK at hk; omega), by rw [f2 13 (by omega) (by omega)]⟩
    have hR2 := hR.fr hF
    rw [a1, a2]
    simp only [b1_eq, if_neg n10', if_true, a3, if_pos (show (0 : Int32) ≤ 0 by decide), nm_eq, it_ix, c1, d1, c2, d2]
    rcases hx with ⟨rfl, j1, hj1, hj2⟩ | ⟨rfl, hok, B3, h38⟩
    · have ey : yy = .inl (-2, u2) := by
        rcases hy with ⟨z, _⟩ | ⟨_, z, _⟩
        · exact z
        · exact absurd (z j1 hj1) hj2
      subst ey
      rw [bR_r, bR_r]
      exact ⟨_, _, _, dd, rfl, rfl, ⟨hC2, hR2, hO, hfit⟩, hc2, hF.rest⟩
    · have ey : yy = .inr u2 ∧ ∀ cc, cc < 12 → u2.1 45 cc = iI (ldA dd cc + (pvI IT cc : Int) - (dsd dd cc : Int)) := by
        rcases hy with ⟨_, j1, hj1, hj2⟩ | ⟨z, _, z2⟩
        · exact absurd (hok j1 hj1) hj2
        · exact ⟨z, z2⟩
      obtain ⟨ey, L2⟩ := ey
      subst ey
      have hO2 : DOk (poD dd (pvI IT)) := ⟨hO.1, hO.2.1, fun cc hc => (okI_p (hok cc hc)).2, hO.2.2.2.1, hO.2.2.2.2⟩
      have B4 : BalF (t2 28) (ldA (poD dd (pvI IT))) := B3.cong (fun cc hc => by
        rw [if_pos hc]
        show (0 : Int) + (nsum (lm dd (ridS dd) cc) (dN dd) : Int) + (pvI IT cc : Int) = (pvI IT cc : Int) + (nsum (lm dd (ridS dd) cc) (dN dd) : Int)
        omega)
      have L3 : ∀ cc, cc < 12 → u2.1 45 cc = iI (ldA (poD dd (pvI IT)) cc) := fun cc hc => by
        rw [L2 cc hc]
        congr 1
        show (dsd dd cc : Int) + (nsum (lm dd (ridS dd) cc) (dN dd) : Int) + (pvI IT cc : Int) - (dsd dd cc : Int) = (pvI IT cc : Int) + (nsum (lm dd (ridS dd) cc) (dN dd) : Int)
        omega
      have hld : ldOk (ldA (poD dd (pvI IT))) := ldm_Ok hO2 _
      have ev := C_even (tt := t2) (kb := 28) (li := dli dd) B4 hld hO.2.2.2.2
      obtain ⟨w3, d3, F3', -⟩ := R_evenNow (nn := nn) (li := dli dd) L3 hld (by omega) hR2.2.2.2.2.2.2.2.1 hO.2.2.2.2
      have hR3 := hR2.fr F3'
      have hF3 := hF.tr F3'
      rw [bR_k, bR_k]
      simp only [nm2, hC2.2.2.2.2.2.2.2, ev, d3, b1_eq, if01]
      by_cases q : evB (ldA (poD dd (pvI IT))) (dli dd) = true
      · rw [if_pos q, if_pos q]
        obtain ⟨zz, d4, u4, rfl, f5, f6, f7⟩ := R_pour2 (uu := w3) (nn := nn) (IT := IT) (at0 := 24 * ii + fr) (by omega) (fun cc hc => by rw [F3'.1 56 (by omega) (by omega), F2'.1 56 (by omega) (by omega)]; exact hIR cc hc) hok (by omega)
        have hcp : ∀ {B : Type} (aa : Option B), cpk (0 : Int32) (0 : Int32) (12 : Int32) 12 12 aa = aa := by
          intro B aa
          unfold cpk
          rw [if_neg (by decide)]
        rw [d4, b2_eq, hcp]
        have e12 : (12 : Int32).toNatClampNeg = 12 := by decide
        have e00 : (0 : Int32).toNatClampNeg = 0 := by decide
        rw [e12, e00]
        refine ⟨_, _, _, poD dd (pvI IT), rfl, rfl, ⟨?_, ?_, hO2, hfit⟩, hc2.sA (ck16 (by omega)) (by omega), ?_⟩
        · obtain ⟨p1, p2, p3, p4, p5, p6, p7, p8⟩ := hC2
          unfold CW
          rw [stA_ne _ _ (show 1 ≠ 6 by omega), stA_ne _ _ (show 2 ≠ 6 by omega), stA_ne _ _ (show 3 ≠ 6 by omega), stA_ne _ _ (show 4 ≠ 6 by omega), stA_ne _ _ (show 5 ≠ 6 by omega), stA_same]
          refine ⟨p1, p2, p3, p4, p5, fun cc hc => ?_, p7, p8⟩
          rw [pk_cpy_in (by omega) (by omega), show 0 + (cc - 0) = cc by omega, h38 cc hc]
          exact (okI_p (hok cc hc)).1
        · obtain ⟨p1, p2, p3, p4, p5, p6, p7, p8, p9⟩ := hR3
          unfold RW
          rw [f5 39 (by omega), f5 40 (by omega), f5 41 (by omega), f5 42 (by omega), f5 43 (by omega)]
          exact ⟨p1, p2, p3, p4, p5, f7, p7, p8, p9⟩
        · obtain ⟨p1, p2, p3⟩ := hF3.rest
          exact ⟨fun kk hk => by rw [f5 kk (by omega)]; exact p1 kk hk, by rw [f5 39 (by omega)]; exact p2, by rw [f5 39 (by omega)]; exact p3⟩
      · rw [if_neg q, if_neg q]
        exact ⟨_, _, _, dd, rfl, rfl, ⟨hC2, hR3, hO, hfit⟩, hc2, hF3.rest⟩
  · rw [a1, b1_eq, if_neg (fun z => by rw [z] at hno; exact absurd hno (by decide))]
    rcases a2 with ⟨a2, rfl⟩ | ⟨a2, a3⟩
    · rw [a2, b1_eq, if_pos rfl]
      exact ⟨_, _, _, dd, rfl, rfl, h0, CRest.rf, RRest.rf⟩
    · rw [a2, b1_eq, if_neg n10', a3, b1_eq, if_neg (fun z => (fa_of_lt hno).2.1 z)]
      exact ⟨_, _, _, dd, rfl, rfl, h0, CRest.rf, RRest.rf⟩
