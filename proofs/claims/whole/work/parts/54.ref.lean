/-! the reference's wheel -/
theorem i32_bd (vv : Int32) : -2147483648 ≤ vv.toInt ∧ vv.toInt ≤ 2147483647 := by
  have h1 := Int32.le_toInt vv
  have h2 := Int32.toInt_lt vv
  omega
theorem w32 (vv : Int32) : vv.toInt64 = lI vv.toInt := by
  have h := i32_bd vv
  apply Int64.toInt_inj.mp
  rw [Int32.toInt_toInt64, lI_toInt (by omega) (by omega)]
theorem litL6 (kk : Nat) : (OfNat.ofNat kk : Int64) = lI (kk : Int) := Int64.ofInt_eq_ofNat.symm
theorem rg_of {zz : Int} (h1 : -4611686018427387904 ≤ zz) (h2 : zz ≤ 4611686018427387904) : rg zz := ⟨h1, h2⟩
theorem R_in {aa lo hi : Int} (h1 : rg aa) (h2 : rg lo) (h3 : rg hi) : f_X8_in (lI aa) (lI lo) (lI hi) = some (if lo ≤ aa ∧ aa ≤ hi then 1 else 0) := by
  unfold f_X8_in
  simp only [lg_lt h1 h2, lg_gt h1 h3]
  by_cases q1 : aa < lo
  · rw [if_pos q1, if_neg (by omega)]
  · rw [if_neg q1]
    by_cases q2 : hi < aa
    · rw [if_pos q2, if_neg (by omega)]
    · rw [if_neg q2, if_pos (by omega)]
theorem R_inI (vv : Int32) {lo hi : Int} (h2 : -3000000000 ≤ lo ∧ lo ≤ 3000000000) (h3 : -3000000000 ≤ hi ∧ hi ≤ 3000000000) : f_X8_in vv.toInt64 (lI lo) (lI hi) = some (if lo ≤ vv.toInt ∧ vv.toInt ≤ hi then 1 else 0) := by
  have h := i32_bd vv
  rw [w32]
  exact R_in (rg_of (by omega) (by omega)) (rg_of (by omega) (by omega)) (rg_of (by omega) (by omega))
theorem R_has {mm ii : Nat} (hm : mm < 2 ^ 31) (hi : ii < 31) : f_X8_has (nI mm) (nI ii) = some (if mm.testBit ii then 1 else 0) := by
  unfold f_X8_has
  simp only [bit_1 hm hi]
  split <;> rfl
theorem or_0 (vv : Int32) : vv ||| (0 : Int32) = vv := by simp
def RX (uu : SR) (dd : WD) : Prop := uu.1 39 4 = nI (dN dd) ∧ (∀ ii, ii < dN dd → uu.1 40 ii = nI (dk dd ii)) ∧ (∀ ii, ii < dN dd → uu.1 41 ii = nI (dw dd ii)) ∧ (∀ ii, ii < dN dd → uu.1 42 ii = nI (dp dd ii)) ∧ True ∧ (∀ cc, cc < 12 → uu.1 44 cc = nI (dsd dd cc)) ∧ uu.1 39 7 = nI (dmi dd) ∧ uu.1 39 6 = nI (dli dd) ∧ uu.1 39 8 = nI (dmi dd % 12)
theorem RW.x {uu : SR} {dd : WD} (h : RW uu dd) : RX uu dd := ⟨h.1, h.2.1, h.2.2.1, h.2.2.2.1, trivial, h.2.2.2.2.2⟩
theorem R_who {uu : SR} {dd : WD} {nn : Nat} (hC : RX uu dd) (hO : DOk dd) (hn : 11 < nn) {cc : Nat} (hc : cc < 1000) : f_X8_whoIn nn uu (nI cc) = some (nI (whoAt dd cc)) := by
  obtain ⟨c1, c2, c3, c4, c5, c6, c7, c8, c9⟩ := hC
  have h10 := hO.1
  obtain ⟨xx, h1, h2⟩ := it2_inv (bb := lb_X8_whoIn_4 nn uu (nI cc)) (fun ii v2 v3 => v2 = nI (setOf (fun ii => dp dd ii == cc) ii) ∧ v3 = nI ii) (dN dd) (fun xx => xx = nI (whoAt dd cc)) (by
    rintro ii v2 v3 hle ⟨rfl, rfl⟩
    by_cases h : ii < dN dd
    · refine Or.inl ⟨h, ?_⟩
      have hp := hO.2.1 ii h
      simp only [lb_X8_whoIn_4, c1, if_neg (nI_ge h (show dN dd < 2 ^ 31 by omega)), ix_nI (show ii < 10 by omega) (show 10 < 2 ^ 31 by omega), nI_clamp (show ii < 2 ^ 31 by omega), c4 ii h, nm_eq, bit_sh (show ii < 31 by omega), fa_or, nI_1, or_0, nI_eq (show dp dd ii < 2 ^ 31 by omega) (show cc < 2 ^ 31 by omega)]
      by_cases h3 : dp dd ii = cc
      · rw [if_pos h3]
        exact ⟨_, _, rfl, by rw [setOf, if_pos (by simpa using h3)], rfl⟩
      · rw [if_neg h3]
        exact ⟨_, _, rfl, by rw [setOf, if_neg (by simpa using h3)], rfl⟩
    · refine Or.inr ?_
      have e : ii = dN dd := by omega
      subst e
      simp only [lb_X8_whoIn_4, c1, if_pos (nI_le (Nat.le_refl (dN dd)) (show dN dd < 2 ^ 31 by omega))]
      exact ⟨_, rfl, rfl⟩) nn 0 0 (by omega) ⟨rfl, rfl⟩
  unfold f_X8_whoIn
  rw [h1, h2]
  rfl
theorem R_weight {uu : SR} {dd : WD} {nn : Nat} (hC : RX uu dd) (hO : DOk dd) (hn : 11 < nn) {mm : Nat} (hm : mm < 2 ^ 31) : f_X8_weightOf nn uu (nI mm) = some (nI (wsum dd mm)) := by
  obtain ⟨c1, c2, c3, c4, c5, c6, c7, c8, c9⟩ := hC
  have h10 := hO.1
  obtain ⟨xx, h1, h2⟩ := it2_inv (bb := lb_X8_weightOf_4 nn uu (nI mm)) (fun ii v2 v3 => v2 = nI (nsum (wf dd mm) ii) ∧ v3 = nI ii) (dN dd) (fun xx => xx = nI (wsum dd mm)) (by
    rintro ii v2 v3 hle ⟨rfl, rfl⟩
    by_cases h : ii < dN dd
    · refine Or.inl ⟨h, ?_⟩
      simp only [lb_X8_weightOf_4, c1, if_neg (nI_ge h (show dN dd < 2 ^ 31 by omega)), ix_nI (show ii < 10 by omega) (show 10 < 2 ^ 31 by omega), nI_clamp (show ii < 2 ^ 31 by omega), c3 ii h, nm_eq, nI_1, R_has hm (show ii < 31 by omega), nI_add, b1_eq]
      by_cases h3 : mm.testBit ii = true
      · rw [if_pos h3, if_neg (by decide)]
        exact ⟨_, _, rfl, by rw [nsum, wf, if_pos h3], rfl⟩
      · rw [if_neg h3, if_pos rfl]
        exact ⟨_, _, rfl, by rw [nsum, wf, if_neg h3, Nat.add_zero]; simp, rfl⟩
    · refine Or.inr ?_
      have e : ii = dN dd := by omega
      subst e
      simp only [lb_X8_weightOf_4, c1, if_pos (nI_le (Nat.le_refl (dN dd)) (show dN dd < 2 ^ 31 by omega))]
      exact ⟨_, rfl, rfl⟩) nn 0 0 (by omega) ⟨rfl, rfl⟩
  unfold f_X8_weightOf
  rw [h1, h2]
  rfl
theorem R_seats {uu : SR} {dd : WD} {nn : Nat} (hC : RX uu dd) (hO : DOk dd) (hn : 11 < nn) {mm : Nat} (hm : mm < 2 ^ 31) : f_X8_seatsOf nn uu (nI mm) = some (nI (ssum dd mm)) := by
  obtain ⟨c1, c2, c3, c4, c5, c6, c7, c8, c9⟩ := hC
  have h10 := hO.1
  obtain ⟨xx, h1, h2⟩ := it2_inv (bb := lb_X8_seatsOf_4 nn uu (nI mm)) (fun ii v2 v3 => v2 = nI (nsum (sf dd mm) ii) ∧ v3 = nI ii) (dN dd) (fun xx => xx = nI (ssum dd mm)) (by
    rintro ii v2 v3 hle ⟨rfl, rfl⟩
    by_cases h : ii < dN dd
    · refine Or.inl ⟨h, ?_⟩
      have hp := hO.2.1 ii h
      have g2 : (nI (dk dd ii) < (2 : Int32)) ↔ dk dd ii < 2 := nI_ltI (b := 2) (by omega) (by omega)
      simp only [lb_X8_seatsOf_4, c1, if_neg (nI_ge h (show dN dd < 2 ^ 31 by omega)), ix_nI (show ii < 10 by omega) (show 10 < 2 ^ 31 by omega), nI_clamp (show ii < 2 ^ 31 by omega), c2 ii h, nm_eq, nI_1, R_has hm (show ii < 31 by omega), b1_eq, g2]
      by_cases h3 : mm.testBit ii = true
      · rw [if_pos h3, if_neg (by decide)]
        by_cases h4 : dk dd ii < 2
        · rw [if_pos h4]
          exact ⟨_, _, rfl, by rw [nsum, sf, if_pos h3, if_pos h4], rfl⟩
        · rw [if_neg h4]
          exact ⟨_, _, rfl, by rw [nsum, sf, if_pos h3, if_neg h4]; exact nI_add _ 2, rfl⟩
      · rw [if_neg h3, if_pos rfl]
        exact ⟨_, _, rfl, by rw [nsum, sf, if_neg h3, Nat.add_zero]; simp, rfl⟩
    · refine Or.inr ?_
      have e : ii = dN dd := by omega
      subst e
      simp only [lb_X8_seatsOf_4, c1, if_pos (nI_le (Nat.le_refl (dN dd)) (show dN dd < 2 ^ 31 by omega))]
      exact ⟨_, rfl, rfl⟩) nn 0 0 (by omega) ⟨rfl, rfl⟩
  unfold f_X8_seatsOf
  rw [h1, h2]
  rfl
def b01 (cc : Prop) : Int32 → Prop := fun vv => (cc ∧ vv = 1) ∨ (¬ cc ∧ vv = 0)
theorem R_fit {uu : SR} {dd : WD} {nn : Nat} (hC : RX uu dd) (hO : DOk dd) (hn : 11 < nn) {mm : Nat} (hm : mm < 2 ^ 31) : f_X8_fits nn uu (nI mm) = some (if fitB dd mm then 1 else 0) := by
  have hS := R_seats hC hO hn hm
  obtain ⟨c1, c2, c3, c4, c5, c6, c7, c8, c9⟩ := hC
  have h10 := hO.1
  obtain ⟨xx, h1, h2⟩ := it4_inv (bb := lb_X8_fits_10 nn uu (nI mm)) (fun ii v2 v3 v4 v5 => b01 (0 < nsum (chf dd mm) ii) v2 ∧ b01 (0 < nsum (otf dd mm) ii + nsum (gof dd mm) ii) v3 ∧ b01 (0 < nsum (gof dd mm) ii) v4 ∧ v5 = nI ii) (dN dd) (fun xx => b01 (0 < nsum (chf dd mm) (dN dd)) xx.1 ∧ b01 (0 < nsum (otf dd mm) (dN dd) + nsum (gof dd mm) (dN dd)) xx.2.1 ∧ b01 (0 < nsum (gof dd mm) (dN dd)) xx.2.2) (by
    rintro ii v2 v3 v4 v5 hle ⟨hv2, hv3, hv4, rfl⟩
    by_cases h : ii < dN dd
    · refine Or.inl ⟨h, ?_⟩
      have hp := hO.2.1 ii h
      have e1 : (nI (dk dd ii) = (1 : Int32)) ↔ dk dd ii = 1 := nI_eq (b := 1) (by omega) (by omega)
      have e3 : (nI (dk dd ii) = (3 : Int32)) ↔ dk dd ii = 3 := nI_eq (b := 3) (by omega) (by omega)
      simp only [lb_X8_fits_10, f_X8_fits_48_in10, f_X8_fits_69_in10, c1, if_neg (nI_ge h (show dN dd < 2 ^ 31 by omega)), ix_nI (show ii < 10 by omega) (show 10 < 2 ^ 31 by omega), nI_clamp (show ii < 2 ^ 31 by omega), c2 ii h, nm_eq, nI_1, R_has hm (show ii < 31 by omega), b1_eq, e1, e3]
      by_cases h3 : mm.testBit ii = true
      · rw [if_pos h3, if_neg (by decide)]
        have n10 : ((1 : Int32) = 0) = False := by decide
        have n00 : ((0 : Int32) = 0) = True := by decide
        by_cases h4 : dk dd ii = 1
        · have h5 : ¬ dk dd ii = 3 := by omega
          have f1 : nsum (chf dd mm) (ii + 1) = nsum (chf dd mm) ii + 1 := by rw [nsum, chf, if_pos ⟨h3, h4⟩]
          have f2 : nsum (gof dd mm) (ii + 1) = nsum (gof dd mm) ii := by rw [nsum, gof, if_neg (by omega), Nat.add_zero]
          have f3 : nsum (otf dd mm) (ii + 1) = nsum (otf dd mm) ii := by rw [nsum, otf, if_neg (by omega), Nat.add_zero]
          rw [f1, f2, f3]
          simp only [eq_true h4, eq_false h5, n10, n00, if_true, if_false]
          generalize nsum (chf dd mm) ii = x1 at hv2 ⊢
          generalize nsum (gof dd mm) ii = x2 at hv3 hv4 ⊢
          generalize nsum (otf dd mm) ii = x3 at hv3 ⊢
          rcases hv2 with ⟨y1, rfl⟩ | ⟨y1, rfl⟩ <;> rcases hv3 with ⟨y2, rfl⟩ | ⟨y2, rfl⟩ <;> rcases hv4 with ⟨y3, rfl⟩ | ⟨y3, rfl⟩ <;> simp only [n10, n00, if_true, if_false] <;> (try omega) <;> refine ⟨_, _, _, _, rfl, ?_, ?_, ?_, rfl⟩ <;> (first | exact Or.inl ⟨by omega, rfl⟩ | exact Or.inr ⟨by omega, rfl⟩)
        · by_cases h5 : dk dd ii = 3
          · have f1 : nsum (chf dd mm) (ii + 1) = nsum (chf dd mm) ii := by rw [nsum, chf, if_neg (by omega), Nat.add_zero]
            have f2 : nsum (gof dd mm) (ii + 1) = nsum (gof dd mm) ii + 1 := by rw [nsum, gof, if_pos ⟨h3, h5⟩]
            have f3 : nsum (otf dd mm) (ii + 1) = nsum (otf dd mm) ii := by rw [nsum, otf, if_neg (by omega), Nat.add_zero]
            rw [f1, f2, f3]
            simp only [eq_false h4, eq_true h5, n10, n00, if_true, if_false]
            generalize nsum (chf dd mm) ii = x1 at hv2 ⊢
            generalize nsum (gof dd mm) ii = x2 at hv3 hv4 ⊢
            generalize nsum (otf dd mm) ii = x3 at hv3 ⊢
            rcases hv2 with ⟨y1, rfl⟩ | ⟨y1, rfl⟩ <;> rcases hv3 with ⟨y2, rfl⟩ | ⟨y2, rfl⟩ <;> rcases hv4 with ⟨y3, rfl⟩ | ⟨y3, rfl⟩ <;> simp only [n10, n00, if_true, if_false] <;> (try omega) <;> refine ⟨_, _, _, _, rfl, ?_, ?_, ?_, rfl⟩ <;> (first | exact Or.inl ⟨by omega, rfl⟩ | exact Or.inr ⟨by omega, rfl⟩)
          · have f1 : nsum (chf dd mm) (ii + 1) = nsum (chf dd mm) ii := by rw [nsum, chf, if_neg (by omega), Nat.add_zero]
            have f2 : nsum (gof dd mm) (ii + 1) = nsum (gof dd mm) ii := by rw [nsum, gof, if_neg (by omega), Nat.add_zero]
            have f3 : nsum (otf dd mm) (ii + 1) = nsum (otf dd mm) ii + 1 := by rw [nsum, otf, if_pos ⟨h3, h4, h5⟩]
            rw [f1, f2, f3]
            simp only [eq_false h4, eq_false h5, n10, n00, if_true, if_false]
            generalize nsum (chf dd mm) ii = x1 at hv2 ⊢
            generalize nsum (gof dd mm) ii = x2 at hv3 hv4 ⊢
            generalize nsum (otf dd mm) ii = x3 at hv3 ⊢
            rcases hv2 with ⟨y1, rfl⟩ | ⟨y1, rfl⟩ <;> rcases hv3 with ⟨y2, rfl⟩ | ⟨y2, rfl⟩ <;> rcases hv4 with ⟨y3, rfl⟩ | ⟨y3, rfl⟩ <;> simp only [n10, n00, if_true, if_false] <;> (try omega) <;> refine ⟨_, _, _, _, rfl, ?_, ?_, ?_, rfl⟩ <;> (first | exact Or.inl ⟨by omega, rfl⟩ | exact Or.inr ⟨by omega, rfl⟩)
      · rw [if_neg h3, if_pos rfl]
        have f1 : nsum (chf dd mm) (ii + 1) = nsum (chf dd mm) ii := by
          rw [nsum, chf, if_neg (fun z => h3 z.1), Nat.add_zero]
        have f2 : nsum (gof dd mm) (ii + 1) = nsum (gof dd mm) ii := by
          rw [nsum, gof, if_neg (fun z => h3 z.1), Nat.add_zero]
        have f3 : nsum (otf dd mm) (ii + 1) = nsum (otf dd mm) ii := by
          rw [nsum, otf, if_neg (fun z => h3 z.1), Nat.add_zero]
        exact ⟨_, _, _, _, rfl, by rw [f1]; exact hv2, by rw [f2, f3]; exact hv3, by rw [f2]; exact hv4, rfl⟩
    · refine Or.inr ?_
      have e : ii = dN dd := by omega
      subst e
      simp only [lb_X8_fits_10, c1, if_pos (nI_le (Nat.le_refl (dN dd)) (show dN dd < 2 ^ 31 by omega))]
      exact ⟨_, rfl, hv2, hv3, hv4⟩) nn 0 0 0 0 (by omega) ⟨Or.inr ⟨by simp [nsum], rfl⟩, Or.inr ⟨by simp [nsum], rfl⟩, Or.inr ⟨by simp [nsum], rfl⟩, rfl⟩
  obtain ⟨x1, x2, x3⟩ := xx
  have q4 : nsum (sf dd mm) (dN dd) ≤ 20 := ssum_le dd mm h10
  have z4 : ((3 : Int32) < nI (ssum dd mm)) ↔ 3 < ssum dd mm := nI_ltI (a := 3) (by omega) (by unfold ssum; omega)
  unfold f_X8_fits
  rw [h1, b3_eq, hS, b1_eq]
  simp only [f_X8_fits_116, z4]
  unfold fitB
  dsimp only at h2
  generalize nsum (chf dd mm) (dN dd) = y1 at h2 ⊢
  generalize nsum (gof dd mm) (dN dd) = y2 at h2 ⊢
  generalize nsum (otf dd mm) (dN dd) = y3 at h2 ⊢
  generalize ssum dd mm = y4
  unfold b01 at h2
  obtain ⟨k1, k2, k3⟩ := h2
  rcases k1 with ⟨w1, rfl⟩ | ⟨w1, rfl⟩ <;> rcases k2 with ⟨w2, rfl⟩ | ⟨w2, rfl⟩ <;> rcases k3 with ⟨w3, rfl⟩ | ⟨w3, rfl⟩ <;> by_cases w4 : 3 < y4 <;> (try omega) <;> simp [w4] <;> omega
/-! what the reference's reckoning of loads leaves as it was -/
def RFr (uu ww : SR) : Prop := (∀ kk, kk ≠ 39 → kk ≠ 45 → ww.1 kk = uu.1 kk) ∧ (∀ jj, ¬ (10 ≤ jj ∧ jj ≤ 13) → ww.1 39 jj = uu.1 39 jj) ∧ (∀ jj, jj ≠ 14 → jj ≠ 15 → ww.2 jj = uu.2 jj)
theorem RFr.rf {uu : SR} : RFr uu uu := ⟨fun _ _ _ => rfl, fun _ _ => rfl, fun _ _ _ => rfl⟩
theorem RFr.tr {uu vv ww : SR} (h1 : RFr uu vv) (h2 : RFr vv ww) : RFr uu ww := ⟨fun kk a1 a2 => (h2.1 kk a1 a2).trans (h1.1 kk a1 a2), fun jj a1 => (h2.2.1 jj a1).trans (h1.2.1 jj a1), fun jj a1 a2 => (h2.2.2 jj a1 a2).trans (h1.2.2 jj a1 a2)⟩
theorem sr1_ne {uu : SR} {kk jj xx : Nat} {vv : Int32} (h : xx ≠ kk) : (sr1 uu kk jj vv).1 xx = uu.1 xx := by simp [sr1, st1, stA, h]
theorem sr1_at {uu : SR} {kk jj yy : Nat} {vv : Int32} : (sr1 uu kk jj vv).1 kk yy = if yy = jj then vv else uu.1 kk yy := by simp [sr1, st1, stA, upd]
theorem sr1_l {uu : SR} {kk jj : Nat} {vv : Int32} : (sr1 uu kk jj vv).2 = uu.2 := rfl
theorem srL_1 {uu : SR} {jj : Nat} {vv : Int64} : (srL uu jj vv).1 = uu.1 := rfl
theorem srL_at {uu : SR} {jj yy : Nat} {vv : Int64} : (srL uu jj vv).2 yy = if yy = jj then vv else uu.2 yy := by simp [srL, vp_updL]
theorem RFr.w45 {uu ww : SR} (h : RFr uu ww) (jj : Nat) (vv : Int32) : RFr uu (sr1 ww 45 jj vv) := ⟨fun kk a1 a2 => by rw [sr1_ne a2]; exact h.1 kk a1 a2, fun jj a1 => by rw [sr1_ne (by omega)]; exact h.2.1 jj a1, fun jj a1 a2 => by rw [sr1_l]; exact h.2.2 jj a1 a2⟩
theorem RFr.w39 {uu ww : SR} (h : RFr uu ww) {jj : Nat} (hj : 10 ≤ jj ∧ jj ≤ 13) (vv : Int32) : RFr uu (sr1 ww 39 jj vv) := ⟨fun kk a1 a2 => by rw [sr1_ne a1]; exact h.1 kk a1 a2, fun xx a1 => by rw [sr1_at, if_neg (by omega)]; exact h.2.1 xx a1, fun xx a1 a2 => by rw [sr1_l]; exact h.2.2 xx a1 a2⟩
theorem RFr.wL {uu ww : SR} (h : RFr uu ww) {jj : Nat} (hj : jj = 14 ∨ jj = 15) (vv : Int64) : RFr uu (srL ww jj vv) := ⟨fun kk a1 a2 => by rw [srL_1]; exact h.1 kk a1 a2, fun xx a1 => by rw [srL_1]; exact h.2.1 xx a1, fun xx a1 a2 => by rw [srL_at, if_neg (by omega)]; exact h.2.2 xx a1 a2⟩
theorem RW.fr {uu ww : SR} {dd : WD} (h : RW uu dd) (hf : RFr uu ww) : RW ww dd := by
  unfold RW at h ⊢
  rw [hf.1 40 (by omega) (by omega), hf.1 41 (by omega) (by omega), hf.1 42 (by omega) (by omega), hf.1 43 (by omega) (by omega), hf.1 44 (by omega) (by omega), hf.2.1 4 (by omega), hf.2.1 6 (by omega), hf.2.1 7 (by omega), hf.2.1 8 (by omega)]
  exact h
theorem RX.fr {uu ww : SR} {dd : WD} (h : RX uu dd) (hf : RFr uu ww) : RX ww dd := by
  unfold RX at h ⊢
  rw [hf.1 40 (by omega) (by omega), hf.1 41 (by omega) (by omega), hf.1 42 (by omega) (by omega), hf.1 44 (by omega) (by omega), hf.2.1 4 (by omega), hf.2.1 6 (by omega), hf.2.1 7 (by omega), hf.2.1 8 (by omega)]
  exact h
theorem R_sandL {uu : SR} {sd : Nat → Nat} {nn : Nat} (c6 : ∀ cc, cc < 12 → uu.1 44 cc = nI (sd cc)) (hn : 13 < nn) : ∃ ww, it2 (lb_X8_findLoads_2 nn) nn (0 : Int32) uu = some ww ∧ RFr uu ww ∧ ∀ cc, cc < 12 → ww.1 45 cc = iI (sd cc : Int) := by
  obtain ⟨xx, h1, h2⟩ := it2_inv (bb := lb_X8_findLoads_2 nn) (fun ii v1 ww => v1 = nI ii ∧ RFr uu ww ∧ ∀ cc, cc < ii → ww.1 45 cc = iI (sd cc : Int)) 12 (fun ww => RFr uu ww ∧ ∀ cc, cc < 12 → ww.1 45 cc = iI (sd cc : Int)) (by
    rintro ii v1 ww hle ⟨rfl, hF, hL⟩
    by_cases h : ii < 12
    · refine Or.inl ⟨h, ?_⟩
      have g1 : ¬ (12 : Int32) ≤ nI ii := nI_ge (b := 12) h (by omega)
      simp only [lb_X8_findLoads_2, if_neg g1, ix_nI h (show 12 < 2 ^ 31 by omega), nI_clamp (show ii < 2 ^ 31 by omega), nm_eq, nI_1]
      refine ⟨_, _, rfl, rfl, hF.w45 _ _, fun cc hc => ?_⟩
      rw [sr1_at]
      by_cases h3 : cc = ii
      · subst h3
        rw [if_pos rfl, hF.1 44 (by omega) (by omega), c6 cc h, iI_nat]
      · rw [if_neg h3]
        exact hL cc (by omega)
    · refine Or.inr ?_
      have e : ii = 12 := by omega
      subst e
      have g1 : (12 : Int32) ≤ nI 12 := by decide
      simp only [lb_X8_findLoads_2, if_pos g1]
      exact ⟨_, rfl, hF, hL⟩) nn 0 uu (by omega) ⟨rfl, RFr.rf, fun cc hc => absurd hc (by omega)⟩
  exact ⟨xx, h1, h2.1, h2.2⟩
theorem lm_rid {dd : WD} {ii cc : Nat} (h : ii < dN dd) (hc : cc < 12) : lm dd (ridS dd) cc ii = if dp dd ii = cc then dw dd ii else 0 := by
  unfold lm ridS
  rw [setOf_bit]
  by_cases h1 : dp dd ii = cc
  · rw [if_pos h1, if_pos ⟨by simp [h]; omega, h1⟩]
  · rw [if_neg h1, if_neg (fun z => h1 z.2)]
theorem R_loads {uu : SR} {dd : WD} {nn : Nat} (hC : RX uu dd) (hO : DOk dd) (hn : 13 < nn) : ∃ ww, f_X8_findLoads nn uu = some ww ∧ RFr uu ww ∧ ∀ cc, cc < 12 → ww.1 45 cc = iI (ldA dd cc) := by
  obtain ⟨w0, e0, F0', L0⟩ := R_sandL hC.2.2.2.2.2.1 hn
  obtain ⟨c1, c2, c3, c4, c5, c6, c7, c8, c9⟩ := hC.fr F0'
  have h10 := hO.1
  obtain ⟨xx, h1, h2⟩ := it2_inv (bb := lb_X8_findLoads_28 nn) (fun ii v1 ww => v1 = nI ii ∧ RFr w0 ww ∧ ∀ cc, cc < 12 → ww.1 45 cc = iI ((dsd dd cc : Int) + (nsum (lm dd (ridS dd) cc) ii : Int))) (dN dd) (fun ww => RFr w0 ww ∧ ∀ cc, cc < 12 → ww.1 45 cc = iI (ldA dd cc)) (by
    rintro ii v1 ww hle ⟨rfl, hF, hL⟩
    have k1 : ww.1 39 4 = nI (dN dd) := (hF.2.1 4 (by omega)).trans c1
    by_cases h : ii < dN dd
    · refine Or.inl ⟨h, ?_⟩
      have hp := hO.2.1 ii h
      have k3 : ww.1 41 ii = nI (dw dd ii) := by rw [hF.1 41 (by omega) (by omega)]; exact c3 ii h
      have k4 : ww.1 42 ii = nI (dp dd ii) := by rw [hF.1 42 (by omega) (by omega)]; exact c4 ii h
      simp only [lb_X8_findLoads_28, k1, if_neg (nI_ge h (show dN dd < 2 ^ 31 by omega)), ix_nI (show ii < 10 by omega) (show 10 < 2 ^ 31 by omega), nI_clamp (show ii < 2 ^ 31 by omega), k3, k4, lit32 12, nI_leI (show 12 < 2 ^ 31 by omega) (show dp dd ii < 2 ^ 31 by omega), nm_eq, nI_1]
      by_cases h3 : 12 ≤ dp dd ii
      · rw [if_pos h3]
        refine ⟨_, _, rfl, rfl, hF, fun cc hc => ?_⟩
        rw [hL cc hc, nsum, lm_rid h hc, if_neg (by omega), Nat.add_zero]
      · rw [if_neg h3]
        have h4 : dp dd ii < 12 := by omega
        simp only [ix_nI h4 (show 12 < 2 ^ 31 by omega), nI_clamp (show dp dd ii < 2 ^ 31 by omega)]
        refine ⟨_, _, rfl, rfl, hF.w45 _ _, fun cc hc => ?_⟩
        rw [sr1_at, nsum, lm_rid h hc]
        by_cases h5 : cc = dp dd ii
        · subst h5
          rw [if_pos rfl, if_pos rfl, hL _ h4, ← iI_nat (dw dd ii), iI_add]
          congr 1
          rw [Int.natCast_add]
          omega
        · rw [if_neg h5, if_neg (fun z => h5 z.symm), Nat.add_zero]
          exact hL cc hc
    · refine Or.inr ?_
      have e : ii = dN dd := by omega
      subst e
      simp only [lb_X8_findLoads_28, k1, if_pos (nI_le (Nat.le_refl (dN dd)) (show dN dd < 2 ^ 31 by omega))]
      exact ⟨_, rfl, hF, hL⟩) nn 0 w0 (by omega) ⟨rfl, RFr.rf, fun cc hc => by rw [L0 cc hc]; simp [nsum]⟩
  refine ⟨xx, ?_, F0'.tr h2.1, h2.2⟩
  unfold f_X8_findLoads
  rw [e0, b1_eq]
  show b1 (it2 (lb_X8_findLoads_28 nn) nn (0 : Int32) w0) _ = _
  rw [h1]
  rfl
