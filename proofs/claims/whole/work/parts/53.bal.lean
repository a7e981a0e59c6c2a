/-! loads and the class's balances -/
def lm (dd : WD) (mm cc : Nat) : Nat → Nat := fun ii => if mm.testBit ii ∧ dp dd ii = cc then dw dd ii else 0
def ldm (dd : WD) (mm : Nat) : Nat → Int := fun cc => (dsd dd cc : Int) + (nsum (lm dd mm cc) (dN dd) : Int)
def ldA (dd : WD) : Nat → Int := ldm dd (ridS dd)
def BalF (gg : Nat → Int32) (ld : Nat → Int) : Prop := ∀ ii, ii < 4 → gg ii = iI (carS ld ii)
theorem BalF.cong {gg : Nat → Int32} {ld le : Nat → Int} (h : BalF gg ld) (h2 : ∀ cc, cc < 12 → ld cc = le cc) : BalF gg le := fun ii hi => by rw [h ii hi, carS_cong h2]
theorem CW_stA {tt : MM} {dd : WD} {kb : Nat} {gg : Nat → Int32} (h : CW tt dd) (hk : 7 ≤ kb) : CW (stA tt kb gg) dd := by
  unfold CW at h ⊢
  rw [stA_ne tt gg (show 1 ≠ kb by omega), stA_ne tt gg (show 2 ≠ kb by omega), stA_ne tt gg (show 3 ≠ kb by omega), stA_ne tt gg (show 4 ≠ kb by omega), stA_ne tt gg (show 5 ≠ kb by omega), stA_ne tt gg (show 6 ≠ kb by omega)]
  exact h
theorem C_hang {tt : MM} {kb : Nat} {gg : Nat → Int32} {ld : Nat → Int} {cc : Nat} {xx : Int} (hB : BalF gg ld) (hc : cc < 12) : ∃ gg2, f_X2_hang (stA tt kb gg) kb (nI cc) (iI xx) = some (stA tt kb gg2) ∧ BalF gg2 (addL ld cc xx) := by
  have t1 : tabv 1 cc = iI (tabI 1 cc) := tab_ok 0 (by omega) cc hc
  have t2 : tabv 2 cc = iI (tabI 2 cc) := tab_ok 1 (by omega) cc hc
  have t3 : tabv 3 cc = iI (tabI 3 cc) := tab_ok 2 (by omega) cc hc
  have t4 : tabv 4 cc = iI (tabI 4 cc) := tab_ok 3 (by omega) cc hc
  have g1 : nI cc < (12 : Int32) := nI_lt (b := 12) hc (by omega)
  refine ⟨upd (upd (upd (upd gg 0 (gg 0 + iI xx * tabv 1 cc)) 1 (gg 1 + iI xx * tabv 2 cc)) 2 (gg 2 + iI xx * tabv 3 cc)) 3 (gg 3 + iI xx * tabv 4 cc), ?_, ?_⟩
  · simp only [f_X2_hang, if_neg (nI_pos (show cc < 2 ^ 31 by omega)), if_pos g1, ix_nI hc (show 12 < 2 ^ 31 by omega), nm_eq, nI_clamp (show cc < 2 ^ 31 by omega), st1_stA, stA_same]
    simp [upd]
  · intro ii hi
    rcases (show ii = 0 ∨ ii = 1 ∨ ii = 2 ∨ ii = 3 by omega) with rfl | rfl | rfl | rfl
    · rw [carS_add hc, show upd (upd (upd (upd gg 0 (gg 0 + iI xx * tabv 1 cc)) 1 (gg 1 + iI xx * tabv 2 cc)) 2 (gg 2 + iI xx * tabv 3 cc)) 3 (gg 3 + iI xx * tabv 4 cc) 0 = gg 0 + iI xx * tabv 1 cc from rfl, hB 0 (by omega), t1, iI_mul, iI_add]
    · rw [carS_add hc, show upd (upd (upd (upd gg 0 (gg 0 + iI xx * tabv 1 cc)) 1 (gg 1 + iI xx * tabv 2 cc)) 2 (gg 2 + iI xx * tabv 3 cc)) 3 (gg 3 + iI xx * tabv 4 cc) 1 = gg 1 + iI xx * tabv 2 cc from rfl, hB 1 (by omega), t2, iI_mul, iI_add]
    · rw [carS_add hc, show upd (upd (upd (upd gg 0 (gg 0 + iI xx * tabv 1 cc)) 1 (gg 1 + iI xx * tabv 2 cc)) 2 (gg 2 + iI xx * tabv 3 cc)) 3 (gg 3 + iI xx * tabv 4 cc) 2 = gg 2 + iI xx * tabv 3 cc from rfl, hB 2 (by omega), t3, iI_mul, iI_add]
    · rw [carS_add hc, show upd (upd (upd (upd gg 0 (gg 0 + iI xx * tabv 1 cc)) 1 (gg 1 + iI xx * tabv 2 cc)) 2 (gg 2 + iI xx * tabv 3 cc)) 3 (gg 3 + iI xx * tabv 4 cc) 3 = gg 3 + iI xx * tabv 4 cc from rfl, hB 3 (by omega), t4, iI_mul, iI_add]
theorem C_hangO {tt : MM} {kb cc : Nat} {vv : Int32} (hc : 12 ≤ cc) (h2 : cc < 2 ^ 31) : f_X2_hang tt kb (nI cc) vv = some tt := by
  have g1 : ¬ nI cc < (12 : Int32) := nI_nlt (b := 12) hc h2
  simp only [f_X2_hang, if_neg (nI_pos h2), if_neg g1]
theorem C_clear (tt : MM) (kb : Nat) : ∃ gg, f_X2_clear tt kb = some (stA tt kb gg) ∧ BalF gg (fun _ => 0) := by
  refine ⟨upd (upd (upd (upd (tt kb) 0 0) 1 0) 2 0) 3 0, ?_, ?_⟩
  · simp only [f_X2_clear, nm_eq]
    rw [st1_stA' tt kb 0 0, st1_stA, st1_stA, st1_stA]
  · intro ii hi
    have h0 : ∀ jj, carS (fun _ => 0) jj = 0 := by intro jj; simp [carS, csum]
    rw [h0]
    rcases (show ii = 0 ∨ ii = 1 ∨ ii = 2 ∨ ii = 3 by omega) with rfl | rfl | rfl | rfl <;> rfl
def sandU (dd : WD) (kk : Nat) : Nat → Int := fun jj => if jj < kk then (dsd dd jj : Int) else 0
theorem sandU_1 (dd : WD) (kk : Nat) : addL (sandU dd kk) kk (dsd dd kk : Int) = sandU dd (kk + 1) := by
  funext jj
  unfold addL sandU
  by_cases h : jj = kk
  · subst h
    rw [if_pos rfl, if_neg (by omega), if_pos (by omega)]
    omega
  · rw [if_neg h]
    by_cases h2 : jj < kk
    · rw [if_pos h2, if_pos (by omega)]
    · rw [if_neg h2, if_neg (by omega)]
theorem C_wSand {tt : MM} {dd : WD} {nn kb : Nat} (hC : CW tt dd) (hn : 13 < nn) (hk : 7 ≤ kb) : ∃ gg, f_X6_weighSand nn tt kb = some (stA tt kb gg) ∧ BalF gg (fun cc => (dsd dd cc : Int)) := by
  obtain ⟨g0, e0, B0⟩ := C_clear tt kb
  have c6 := hC.2.2.2.2.2.1
  obtain ⟨xx, h1, h2⟩ := it2_inv (bb := lb_X6_weighSand_6 nn kb) (fun ii v2 st2 => v2 = nI ii ∧ ∃ gg, st2 = stA tt kb gg ∧ BalF gg (sandU dd ii)) 12 (fun xx => ∃ gg, xx = stA tt kb gg ∧ BalF gg (sandU dd 12)) (by
    rintro ii v2 st2 hle ⟨rfl, gg, rfl, hB⟩
    by_cases h : ii < 12
    · refine Or.inl ⟨h, ?_⟩
      have g1 : ¬ (12 : Int32) ≤ nI ii := nI_ge (b := 12) h (by omega)
      obtain ⟨gg2, h3, h4⟩ := C_hang (tt := tt) (kb := kb) (xx := (dsd dd ii : Int)) hB h
      simp only [lb_X6_weighSand_6, if_neg g1, ix_nI h (show 12 < 2 ^ 31 by omega), nI_clamp (show ii < 2 ^ 31 by omega), stA_ne tt gg (show 6 ≠ kb by omega), c6 ii h, ← iI_nat (dsd dd ii), h3, b1_eq, nm_eq, nI_1]
      exact ⟨_, _, rfl, rfl, gg2, rfl, by rw [← sandU_1]; exact h4⟩
    · refine Or.inr ?_
      have e : ii = 12 := by omega
      subst e
      have g1 : (12 : Int32) ≤ nI 12 := by decide
      simp only [lb_X6_weighSand_6, if_pos g1]
      exact ⟨_, rfl, gg, rfl, hB⟩) nn 0 (stA tt kb g0) (by omega) ⟨rfl, g0, rfl, B0.cong (fun cc _ => by simp [sandU])⟩
  obtain ⟨gg, rfl, hB⟩ := h2
  refine ⟨gg, ?_, hB.cong (fun cc hc => by simp [sandU, hc])⟩
  unfold f_X6_weighSand
  rw [e0, b1_eq]
  show b1 (it2 (lb_X6_weighSand_6 nn kb) nn (0 : Int32) (stA tt kb g0)) _ = _
  rw [h1]
  rfl
def ldU (dd : WD) (ld : Nat → Int) (mm kk : Nat) : Nat → Int := fun cc => ld cc + (nsum (lm dd mm cc) kk : Int)
theorem C_hThese {tt : MM} {dd : WD} {nn kb mm : Nat} {gg : Nat → Int32} {ld : Nat → Int} (hC : CW tt dd) (hO : DOk dd) (hn : 11 < nn) (hk : 7 ≤ kb) (hm : mm < 2 ^ 31) (hB : BalF gg ld) : ∃ gg2, f_X6_hangThese nn (stA tt kb gg) (nI mm) kb = some (stA tt kb gg2) ∧ BalF gg2 (ldU dd ld mm (dN dd)) := by
  obtain ⟨c1, c2, c3, c4, c5, c6, c7, c8⟩ := hC
  have h10 := hO.1
  obtain ⟨xx, h1, h2⟩ := it2_inv (bb := lb_X6_hangThese_2 nn (nI mm) kb) (fun ii v3 st2 => v3 = nI ii ∧ ∃ gg, st2 = stA tt kb gg ∧ BalF gg (ldU dd ld mm ii)) (dN dd) (fun xx => ∃ gg, xx = stA tt kb gg ∧ BalF gg (ldU dd ld mm (dN dd))) (by
    rintro ii v3 st2 hle ⟨rfl, gg, rfl, hB⟩
    by_cases h : ii < dN dd
    · refine Or.inl ⟨h, ?_⟩
      have hp := hO.2.1 ii h
      by_cases h3 : mm.testBit ii = false
      · simp only [lb_X6_hangThese_2, stA_ne tt gg (show 1 ≠ kb by omega), c1, if_neg (nI_ge h (show dN dd < 2 ^ 31 by omega)), bit_z hm (show ii < 31 by omega), if_pos h3, nm_eq, nI_1]
        refine ⟨_, _, rfl, rfl, gg, rfl, hB.cong (fun cc _ => ?_)⟩
        unfold ldU
        rw [nsum, lm, if_neg (by simp [h3]), Nat.add_zero]
      · have h3t : mm.testBit ii = true := by simpa using h3
        by_cases h4 : dp dd ii < 12
        · obtain ⟨gg2, h5, h6⟩ := C_hang (tt := tt) (kb := kb) (xx := (dw dd ii : Int)) hB h4
          simp only [lb_X6_hangThese_2, stA_ne tt gg (show 1 ≠ kb by omega), stA_ne tt gg (show 3 ≠ kb by omega), stA_ne tt gg (show 4 ≠ kb by omega), c1, if_neg (nI_ge h (show dN dd < 2 ^ 31 by omega)), bit_z hm (show ii < 31 by omega), if_neg h3, nm_eq, nI_1, ix_nI (show ii < 10 by omega) (show 10 < 2 ^ 31 by omega), nI_clamp (show ii < 2 ^ 31 by omega), c3 ii h, c4 ii h, ← iI_nat (dw dd ii), h5, b1_eq]
          refine ⟨_, _, rfl, rfl, gg2, rfl, h6.cong (fun cc _ => ?_)⟩
          unfold addL ldU
          rw [nsum, lm]
          by_cases h7 : cc = dp dd ii
          · subst h7
            rw [if_pos rfl, if_pos ⟨h3t, rfl⟩, Int.natCast_add]
            unfold lm
            omega
          · rw [if_neg h7, if_neg (fun z => h7 z.2.symm), Nat.add_zero]
        · simp only [lb_X6_hangThese_2, stA_ne tt gg (show 1 ≠ kb by omega), stA_ne tt gg (show 3 ≠ kb by omega), stA_ne tt gg (show 4 ≠ kb by omega), c1, if_neg (nI_ge h (show dN dd < 2 ^ 31 by omega)), bit_z hm (show ii < 31 by omega), if_neg h3, nm_eq, nI_1, ix_nI (show ii < 10 by omega) (show 10 < 2 ^ 31 by omega), nI_clamp (show ii < 2 ^ 31 by omega), c3 ii h, c4 ii h, C_hangO (show 12 ≤ dp dd ii by omega) (show dp dd ii < 2 ^ 31 by omega), b1_eq]
          refine ⟨_, _, rfl, rfl, gg, rfl, hB.cong (fun cc hc => ?_)⟩
          unfold ldU
          rw [nsum, lm, if_neg (fun z => by have := z.2; omega), Nat.add_zero]
    · refine Or.inr ?_
      have e : ii = dN dd := by omega
      subst e
      simp only [lb_X6_hangThese_2, stA_ne tt gg (show 1 ≠ kb by omega), c1, if_pos (nI_le (Nat.le_refl (dN dd)) (show dN dd < 2 ^ 31 by omega))]
      exact ⟨_, rfl, gg, rfl, hB⟩) nn 0 (stA tt kb gg) (by omega) ⟨rfl, gg, rfl, hB.cong (fun cc _ => by simp [ldU, nsum])⟩
  obtain ⟨gg2, rfl, hB2⟩ := h2
  refine ⟨gg2, ?_, hB2⟩
  unfold f_X6_hangThese
  rw [show ((0 : Int32)) = 0 from rfl, h1]
  rfl
theorem C_wAll {tt : MM} {dd : WD} {nn kb : Nat} (hC : CW tt dd) (hO : DOk dd) (hn : 13 < nn) (hk : 7 ≤ kb) : ∃ gg, f_X6_weighAll nn tt kb = some (stA tt kb gg) ∧ BalF gg (ldA dd) := by
  obtain ⟨g1, e1, B1⟩ := C_wSand hC hn hk
  have hr := ridS_lt hO
  obtain ⟨g2, e2, B2⟩ := C_hThese (mm := ridS dd) hC hO (show 11 < nn by omega) hk (by omega) B1
  refine ⟨g2, ?_, B2⟩
  unfold f_X6_weighAll
  rw [e1, b1_eq, C_rides (CW_stA hC hk) hO (by omega), b1_eq, e2, b1_eq]
theorem C_wRid {tt : MM} {dd : WD} {nn kb : Nat} (hC : CW tt dd) (hO : DOk dd) (hn : 13 < nn) (hk : 7 ≤ kb) : ∃ gg, f_X6_weighRiders nn tt kb = some (stA tt kb gg) ∧ BalF gg (ldU dd (fun _ => 0) (ridS dd) (dN dd)) := by
  obtain ⟨g1, e1, B1⟩ := C_clear tt kb
  have hr := ridS_lt hO
  obtain ⟨g2, e2, B2⟩ := C_hThese (mm := ridS dd) hC hO (show 11 < nn by omega) hk (by omega) B1
  refine ⟨g2, ?_, B2⟩
  unfold f_X6_weighRiders
  rw [e1, b1_eq, C_rides (CW_stA hC hk) hO (by omega), b1_eq, e2, b1_eq]
theorem C_whole {tt : MM} {kb : Nat} {ld : Nat → Int} (hB : BalF (tt kb) ld) (hO : ldOk ld) : f_X2_wholePart tt kb = some (lI (sqA ld)) := by
  have a0 := carS_bd hO (ii := 0) (by omega)
  have a1 := carS_bd hO (ii := 1) (by omega)
  have a2 := carS_bd hO (ii := 2) (by omega)
  have a3 := carS_bd hO (ii := 3) (by omega)
  unfold f_X2_wholePart sqA
  rw [hB 0 (by omega), hB 1 (by omega), hB 2 (by omega), hB 3 (by omega), wid (by omega) (by omega), wid (by omega) (by omega), wid (by omega) (by omega), wid (by omega) (by omega), i64_3]
  simp only [lI_mul, lI_add]
theorem C_root {tt : MM} {kb : Nat} {ld : Nat → Int} (hB : BalF (tt kb) ld) (hO : ldOk ld) : f_X2_rootPart tt kb = some (lI (sqB ld)) := by
  have a0 := carS_bd hO (ii := 0) (by omega)
  have a1 := carS_bd hO (ii := 1) (by omega)
  have a2 := carS_bd hO (ii := 2) (by omega)
  have a3 := carS_bd hO (ii := 3) (by omega)
  unfold f_X2_rootPart sqB
  rw [hB 0 (by omega), hB 1 (by omega), hB 2 (by omega), hB 3 (by omega), wid (by omega) (by omega), wid (by omega) (by omega), wid (by omega) (by omega), wid (by omega) (by omega), i64_2]
  simp only [lI_mul, lI_add]
/-- even within a limit -/
noncomputable def evB (ld : Nat → Int) (li : Nat) : Bool := !abvB (sqA ld - 4 * (li : Int) * (li : Int)) (sqB ld)
theorem lim_sq {li : Nat} (h : li ≤ 999) : 0 ≤ 4 * (li : Int) * (li : Int) ∧ 4 * (li : Int) * (li : Int) ≤ 3992004 := by
  have h1 := sq_bd (aa := (li : Int)) (mm := 999) (by omega) (by omega)
  have h2 : 4 * (li : Int) * (li : Int) = 4 * ((li : Int) * (li : Int)) := by grind
  omega
theorem even_sm {ld : Nat → Int} {li : Nat} (hO : ldOk ld) (hl : li ≤ 999) : small (sqA ld - 4 * (li : Int) * (li : Int)) ∧ small (sqB ld) := by
  have a1 := sqA_bd hO
  have a2 := sqB_bd hO
  have a3 := lim_sq hl
  unfold small
  omega
theorem C_even {tt : MM} {kb li : Nat} {ld : Nat → Int} (hB : BalF (tt kb) ld) (hO : ldOk ld) (hl : li ≤ 999) : f_X2_isEvenWithin tt kb (nI li) = some (if evB ld li then 1 else 0) := by
  obtain ⟨s1, s2⟩ := even_sm hO hl
  unfold f_X2_isEvenWithin
  rw [C_whole hB hO, b1_eq, C_root hB hO, b1_eq, nI_wid (by omega), i64_4, lI_mul, lI_mul, lI_sub, above_ok s1 s2, b1_eq]
  unfold evB
  cases abvB (sqA ld - 4 * (li : Int) * (li : Int)) (sqB ld) <;> rfl
theorem csum_addL1 (ld : Nat → Int) (cc : Nat) (xx : Int) {kk : Nat} (h : cc < kk) : csum (addL ld cc xx) kk = csum ld kk + xx := by
  have h1 := csum_addL ld (fun _ => 1) cc xx kk
  rw [if_pos h] at h1
  have e1 : csum (fun jj => addL ld cc xx jj * 1) kk = csum (addL ld cc xx) kk := csum_cong kk (fun jj _ => Int.mul_one _)
  have e2 : csum (fun jj => ld jj * 1) kk = csum ld kk := csum_cong kk (fun jj _ => Int.mul_one _)
  rw [e1, e2] at h1
  omega
theorem csum_le {ff gg : Nat → Int} : ∀ kk, (∀ jj, jj < kk → ff jj ≤ gg jj) → csum ff kk ≤ csum gg kk
  | 0, _ => Int.le_refl _
  | kk + 1, h => by
    have h1 := csum_le kk (fun jj hj => h jj (by omega))
    have h2 := h kk (by omega)
    rw [csum, csum]
    omega
theorem csum_add (ff gg : Nat → Int) : ∀ kk, csum (fun jj => ff jj + gg jj) kk = csum ff kk + csum gg kk
  | 0 => rfl
  | kk + 1 => by rw [csum, csum, csum, csum_add ff gg kk]; omega
theorem csum_const {xx : Int} {ff : Nat → Int} : ∀ kk, (∀ jj, jj < kk → ff jj ≤ xx) → csum ff kk ≤ kk * xx
  | 0, _ => by simp [csum]
  | kk + 1, h => by
    have h1 := csum_const kk (fun jj hj => h jj (by omega))
    have h2 := h kk (by omega)
    rw [csum]
    have h3 : ((kk + 1 : Nat) : Int) * xx = kk * xx + xx := by rw [Int.natCast_add, Int.add_mul]; simp
    rw [h3]
    omega
/-- what all who are in the cars weigh together is what each weighs -/
theorem csum_lm (dd : WD) (mm : Nat) : ∀ kk, csum (fun cc => (nsum (lm dd mm cc) kk : Int)) 12 ≤ (nsum (dw dd) kk : Int)
  | 0 => by simp [csum, nsum]
  | kk + 1 => by
    have h1 := csum_lm dd mm kk
    have e1 : csum (fun cc => (nsum (lm dd mm cc) (kk + 1) : Int)) 12 = csum (fun cc => (nsum (lm dd mm cc) kk : Int)) 12 + csum (fun cc => (lm dd mm cc kk : Int)) 12 := by
      rw [← csum_add]
      exact csum_cong 12 (fun cc _ => by rw [nsum, Int.natCast_add])
    have e2 : csum (fun cc => (lm dd mm cc kk : Int)) 12 ≤ (dw dd kk : Int) := by
      by_cases h2 : mm.testBit kk = true ∧ dp dd kk < 12
      · have e3 : csum (fun cc => (lm dd mm cc kk : Int)) 12 = csum (addL (fun _ => 0) (dp dd kk) (dw dd kk : Int)) 12 := csum_cong 12 (fun cc _ => by
          unfold lm addL
          by_cases h3 : cc = dp dd kk
          · rw [if_pos ⟨h2.1, h3.symm⟩, if_pos h3]; simp
          · rw [if_neg (fun z => h3 z.2.symm), if_neg h3]; rfl)
        rw [e3, csum_addL1 _ _ _ h2.2]
        have e4 : csum (fun _ => (0 : Int)) 12 = 0 := by simp [csum]
        rw [e4]
        omega
      · have e3 : csum (fun cc => (lm dd mm cc kk : Int)) 12 = csum (fun _ => (0 : Int)) 12 := csum_cong 12 (fun cc hc => by
          unfold lm
          rw [if_neg (fun z => h2 ⟨z.1, by have := z.2; omega⟩)]; rfl)
        have e4 : csum (fun _ => (0 : Int)) 12 = 0 := by simp [csum]
        rw [e3, e4]
        omega
    rw [e1, nsum, Int.natCast_add]
    omega
theorem wtot {dd : WD} (hO : DOk dd) : nsum (dw dd) (dN dd) ≤ 990 := by
  have h1 := nsum_bd (ff := dw dd) (mm := 99) (dN dd) (fun ii hi => (hO.2.1 ii hi).2.2.1)
  have := hO.1
  omega
theorem ldm_ok {dd : WD} (hO : DOk dd) (mm : Nat) : (∀ cc, cc < 12 → 0 ≤ ldm dd mm cc) ∧ csum (ldm dd mm) 12 ≤ 2178 := by
  refine ⟨fun cc _ => by unfold ldm; omega, ?_⟩
  have h1 := csum_lm dd mm (dN dd)
  have h2 := wtot hO
  have h3 := csum_const (xx := 99) (ff := fun cc => (dsd dd cc : Int)) 12 (fun jj hj => by have := hO.2.2.1 jj hj; omega)
  unfold ldm
  rw [csum_add]
  omega
theorem ldm_Ok {dd : WD} (hO : DOk dd) (mm : Nat) : ldOk (ldm dd mm) := ⟨(ldm_ok hO mm).1, by have := (ldm_ok hO mm).2; omega⟩
