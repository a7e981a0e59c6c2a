/-! the wheel as numbers: people, kinds, weights, places, since, sands, minute, limit -/
abbrev WD : Type := Nat × (Nat → Nat) × (Nat → Nat) × (Nat → Nat) × (Nat → Nat) × (Nat → Nat) × Nat × Nat
abbrev dN (dd : WD) : Nat := dd.1
abbrev dk (dd : WD) : Nat → Nat := dd.2.1
abbrev dw (dd : WD) : Nat → Nat := dd.2.2.1
abbrev dp (dd : WD) : Nat → Nat := dd.2.2.2.1
abbrev dsn (dd : WD) : Nat → Nat := dd.2.2.2.2.1
abbrev dsd (dd : WD) : Nat → Nat := dd.2.2.2.2.2.1
abbrev dmi (dd : WD) : Nat := dd.2.2.2.2.2.2.1
abbrev dli (dd : WD) : Nat := dd.2.2.2.2.2.2.2
def CW (tt : MM) (dd : WD) : Prop := tt 1 5 = nI (dN dd) ∧ (∀ ii, ii < dN dd → tt 2 ii = nI (dk dd ii)) ∧ (∀ ii, ii < dN dd → tt 3 ii = nI (dw dd ii)) ∧ (∀ ii, ii < dN dd → tt 4 ii = nI (dp dd ii)) ∧ (∀ ii, ii < dN dd → tt 5 ii = nI (dsn dd ii)) ∧ (∀ cc, cc < 12 → tt 6 cc = nI (dsd dd cc)) ∧ tt 1 6 = nI (dmi dd) ∧ tt 1 7 = nI (dli dd)
def RW (uu : SR) (dd : WD) : Prop := uu.1 39 4 = nI (dN dd) ∧ (∀ ii, ii < dN dd → uu.1 40 ii = nI (dk dd ii)) ∧ (∀ ii, ii < dN dd → uu.1 41 ii = nI (dw dd ii)) ∧ (∀ ii, ii < dN dd → uu.1 42 ii = nI (dp dd ii)) ∧ (∀ ii, ii < dN dd → uu.1 43 ii = if dp dd ii = 12 then -4 else nI (dsn dd ii)) ∧ (∀ cc, cc < 12 → uu.1 44 cc = nI (dsd dd cc)) ∧ uu.1 39 7 = nI (dmi dd) ∧ uu.1 39 6 = nI (dli dd) ∧ uu.1 39 8 = nI (dmi dd % 12)
def DOk (dd : WD) : Prop := dN dd ≤ 10 ∧ (∀ ii, ii < dN dd → dk dd ii < 4 ∧ 1 ≤ dw dd ii ∧ dw dd ii ≤ 99 ∧ dp dd ii ≤ 13 ∧ dsn dd ii ≤ 999) ∧ (∀ cc, cc < 12 → dsd dd cc ≤ 99) ∧ dmi dd ≤ 999 ∧ dli dd ≤ 999
def setOf (pp : Nat → Bool) : Nat → Nat
  | 0 => 0
  | kk + 1 => if pp kk then setOf pp kk ||| 2 ^ kk else setOf pp kk
theorem setOf_lt (pp : Nat → Bool) : ∀ kk, setOf pp kk < 2 ^ kk
  | 0 => by simp [setOf]
  | kk + 1 => by
    have h := setOf_lt pp kk
    have h2 : 2 ^ kk < 2 ^ (kk + 1) := Nat.pow_lt_pow_right (by decide) (by omega)
    rw [setOf]
    split
    · exact Nat.or_lt_two_pow (by omega) h2
    · omega
theorem setOf_bit (pp : Nat → Bool) (ii : Nat) : ∀ kk, (setOf pp kk).testBit ii = (decide (ii < kk) && pp ii)
  | 0 => by simp [setOf]
  | kk + 1 => by
    have h := setOf_bit pp ii kk
    rw [setOf]
    by_cases h1 : pp kk = true
    · rw [if_pos h1, Nat.testBit_or, h, Nat.testBit_two_pow]
      by_cases h2 : ii = kk
      · subst h2; simp [h1]
      · have h3 : decide (kk = ii) = false := by simp; omega
        have h4 : decide (ii < kk + 1) = decide (ii < kk) := by simp; omega
        rw [h3, h4]; simp
    · rw [if_neg h1, h]
      by_cases h2 : ii = kk
      · subst h2; simp [h1]
      · have h4 : decide (ii < kk + 1) = decide (ii < kk) := by simp; omega
        rw [h4]
theorem setOf_1024 (pp : Nat → Bool) {kk : Nat} (h : kk ≤ 10) : setOf pp kk < 1024 := Nat.lt_of_lt_of_le (setOf_lt pp kk) (by
  have : 2 ^ kk ≤ 2 ^ 10 := Nat.pow_le_pow_right (by decide) h
  simpa using this)
theorem setOf_cong {pp qq : Nat → Bool} : ∀ kk, (∀ ii, ii < kk → pp ii = qq ii) → setOf pp kk = setOf qq kk
  | 0, _ => rfl
  | kk + 1, h => by rw [setOf, setOf, setOf_cong kk (fun ii hi => h ii (by omega)), h kk (by omega)]
def nsum (ff : Nat → Nat) : Nat → Nat
  | 0 => 0
  | kk + 1 => nsum ff kk + ff kk
theorem nsum_cong {ff gg : Nat → Nat} : ∀ kk, (∀ ii, ii < kk → ff ii = gg ii) → nsum ff kk = nsum gg kk
  | 0, _ => rfl
  | kk + 1, h => by rw [nsum, nsum, nsum_cong kk (fun ii hi => h ii (by omega)), h kk (by omega)]
theorem nsum_bd {ff : Nat → Nat} {mm : Nat} : ∀ kk, (∀ ii, ii < kk → ff ii ≤ mm) → nsum ff kk ≤ kk * mm
  | 0, _ => by simp [nsum]
  | kk + 1, h => by
    have h1 := nsum_bd kk (fun ii hi => h ii (by omega))
    have h2 := h kk (by omega)
    rw [nsum, Nat.succ_mul]
    omega
def whoAt (dd : WD) (cc : Nat) : Nat := setOf (fun ii => dp dd ii == cc) (dN dd)
def ridS (dd : WD) : Nat := setOf (fun ii => decide (dp dd ii < 12)) (dN dd)
def wf (dd : WD) (mm : Nat) : Nat → Nat := fun ii => if mm.testBit ii then dw dd ii else 0
def wsum (dd : WD) (mm : Nat) : Nat := nsum (wf dd mm) (dN dd)
def sf (dd : WD) (mm : Nat) : Nat → Nat := fun ii => if mm.testBit ii then (if dk dd ii < 2 then 1 else 2) else 0
def ssum (dd : WD) (mm : Nat) : Nat := nsum (sf dd mm) (dN dd)
def chf (dd : WD) (mm : Nat) : Nat → Nat := fun ii => if mm.testBit ii ∧ dk dd ii = 1 then 1 else 0
def gof (dd : WD) (mm : Nat) : Nat → Nat := fun ii => if mm.testBit ii ∧ dk dd ii = 3 then 1 else 0
def otf (dd : WD) (mm : Nat) : Nat → Nat := fun ii => if mm.testBit ii ∧ dk dd ii ≠ 1 ∧ dk dd ii ≠ 3 then 1 else 0
def fitP (dd : WD) (mm : Nat) : Prop := (nsum (chf dd mm) (dN dd) = 0 ∨ (0 < nsum (otf dd mm) (dN dd) ∧ nsum (gof dd mm) (dN dd) = 0)) ∧ ssum dd mm ≤ 3
def fitB (dd : WD) (mm : Nat) : Bool := (nsum (chf dd mm) (dN dd) == 0 || (decide (0 < nsum (otf dd mm) (dN dd)) && nsum (gof dd mm) (dN dd) == 0)) && decide (ssum dd mm ≤ 3)
theorem whoAt_lt {dd : WD} (h : DOk dd) (cc : Nat) : whoAt dd cc < 1024 := setOf_1024 _ h.1
theorem ridS_lt {dd : WD} (h : DOk dd) : ridS dd < 1024 := setOf_1024 _ h.1
theorem C_who {tt : MM} {dd : WD} {nn : Nat} (hC : CW tt dd) (hO : DOk dd) (hn : 11 < nn) {cc : Nat} (hc : cc < 1000) : f_X6_whoIsAt nn tt (nI cc) = some (nI (whoAt dd cc)) := by
  obtain ⟨c1, c2, c3, c4, c5, c6, c7, c8⟩ := hC
  have h10 := hO.1
  obtain ⟨xx, h1, h2⟩ := it2_inv (bb := lb_X6_whoIsAt_4 nn tt (nI cc)) (fun ii v2 v3 => v2 = nI (setOf (fun ii => dp dd ii == cc) ii) ∧ v3 = nI ii) (dN dd) (fun xx => xx = nI (whoAt dd cc)) (by
    rintro ii v2 v3 hle ⟨rfl, rfl⟩
    by_cases h : ii < dN dd
    · refine Or.inl ⟨h, ?_⟩
      have hp := hO.2.1 ii h
      simp only [lb_X6_whoIsAt_4, c1, if_neg (nI_ge h (show dN dd < 2 ^ 31 by omega)), ix_nI (show ii < 10 by omega) (show 10 < 2 ^ 31 by omega), nI_clamp (show ii < 2 ^ 31 by omega), c4 ii h, nm_eq, bit_sh (show ii < 31 by omega), fa_or, nI_1, nI_eq (show dp dd ii < 2 ^ 31 by omega) (show cc < 2 ^ 31 by omega)]
      by_cases h3 : dp dd ii = cc
      · rw [if_pos h3]
        exact ⟨_, _, rfl, by rw [setOf, if_pos (by simpa using h3)], rfl⟩
      · rw [if_neg h3]
        exact ⟨_, _, rfl, by rw [setOf, if_neg (by simpa using h3)], rfl⟩
    · refine Or.inr ?_
      have e : ii = dN dd := by omega
      subst e
      simp only [lb_X6_whoIsAt_4, c1, if_pos (nI_le (Nat.le_refl (dN dd)) (show dN dd < 2 ^ 31 by omega))]
      exact ⟨_, rfl, rfl⟩) nn 0 0 (by omega) ⟨rfl, rfl⟩
  unfold f_X6_whoIsAt
  rw [h1, h2]
  rfl
theorem C_rides {tt : MM} {dd : WD} {nn : Nat} (hC : CW tt dd) (hO : DOk dd) (hn : 11 < nn) : f_X6_whoRides nn tt = some (nI (ridS dd)) := by
  obtain ⟨c1, c2, c3, c4, c5, c6, c7, c8⟩ := hC
  have h10 := hO.1
  obtain ⟨xx, h1, h2⟩ := it2_inv (bb := lb_X6_whoRides_4 nn tt) (fun ii v2 v3 => v2 = nI (setOf (fun ii => decide (dp dd ii < 12)) ii) ∧ v3 = nI ii) (dN dd) (fun xx => xx = nI (ridS dd)) (by
    rintro ii v2 v3 hle ⟨rfl, rfl⟩
    by_cases h : ii < dN dd
    · refine Or.inl ⟨h, ?_⟩
      have hp := hO.2.1 ii h
      simp only [lb_X6_whoRides_4, c1, if_neg (nI_ge h (show dN dd < 2 ^ 31 by omega)), ix_nI (show ii < 10 by omega) (show 10 < 2 ^ 31 by omega), nI_clamp (show ii < 2 ^ 31 by omega), c4 ii h, nm_eq, bit_sh (show ii < 31 by omega), fa_or, nI_1, lit32 12, nI_leI (show 12 < 2 ^ 31 by omega) (show dp dd ii < 2 ^ 31 by omega)]
      by_cases h3 : 12 ≤ dp dd ii
      · rw [if_pos h3]
        exact ⟨_, _, rfl, by rw [setOf, if_neg (by simp; omega)], rfl⟩
      · rw [if_neg h3]
        exact ⟨_, _, rfl, by rw [setOf, if_pos (by simp; omega)], rfl⟩
    · refine Or.inr ?_
      have e : ii = dN dd := by omega
      subst e
      simp only [lb_X6_whoRides_4, c1, if_pos (nI_le (Nat.le_refl (dN dd)) (show dN dd < 2 ^ 31 by omega))]
      exact ⟨_, rfl, rfl⟩) nn 0 0 (by omega) ⟨rfl, rfl⟩
  unfold f_X6_whoRides
  rw [h1, h2]
  rfl
theorem C_weight {tt : MM} {dd : WD} {nn : Nat} (hC : CW tt dd) (hO : DOk dd) (hn : 11 < nn) {mm : Nat} (hm : mm < 2 ^ 31) : f_X6_weightOf nn tt (nI mm) = some (nI (wsum dd mm)) := by
  obtain ⟨c1, c2, c3, c4, c5, c6, c7, c8⟩ := hC
  have h10 := hO.1
  obtain ⟨xx, h1, h2⟩ := it2_inv (bb := lb_X6_weightOf_4 nn tt (nI mm)) (fun ii v2 v3 => v2 = nI (nsum (wf dd mm) ii) ∧ v3 = nI ii) (dN dd) (fun xx => xx = nI (wsum dd mm)) (by
    rintro ii v2 v3 hle ⟨rfl, rfl⟩
    by_cases h : ii < dN dd
    · refine Or.inl ⟨h, ?_⟩
      simp only [lb_X6_weightOf_4, c1, if_neg (nI_ge h (show dN dd < 2 ^ 31 by omega)), ix_nI (show ii < 10 by omega) (show 10 < 2 ^ 31 by omega), nI_clamp (show ii < 2 ^ 31 by omega), c3 ii h, nm_eq, nI_1, bit_z hm (show ii < 31 by omega), nI_add]
      by_cases h3 : mm.testBit ii = false
      · rw [if_pos h3]
        exact ⟨_, _, rfl, by rw [nsum, wf, if_neg (by simp [h3]), Nat.add_zero], rfl⟩
      · rw [if_neg h3]
        exact ⟨_, _, rfl, by rw [nsum, wf, if_pos (by simpa using h3)], rfl⟩
    · refine Or.inr ?_
      have e : ii = dN dd := by omega
      subst e
      simp only [lb_X6_weightOf_4, c1, if_pos (nI_le (Nat.le_refl (dN dd)) (show dN dd < 2 ^ 31 by omega))]
      exact ⟨_, rfl, rfl⟩) nn 0 0 (by omega) ⟨rfl, rfl⟩
  unfold f_X6_weightOf
  rw [h1, h2]
  rfl
theorem tab0 : ∀ kk, kk < 4 → tabv 0 kk = nI (if kk < 2 then 1 else 2) := by decide +kernel
theorem C_seats {tt : MM} {dd : WD} {nn : Nat} (hC : CW tt dd) (hO : DOk dd) (hn : 11 < nn) {mm : Nat} (hm : mm < 2 ^ 31) : f_X6_seatsOf nn tt (nI mm) = some (nI (ssum dd mm)) := by
  obtain ⟨c1, c2, c3, c4, c5, c6, c7, c8⟩ := hC
  have h10 := hO.1
  obtain ⟨xx, h1, h2⟩ := it2_inv (bb := lb_X6_seatsOf_4 nn tt (nI mm)) (fun ii v2 v3 => v2 = nI (nsum (sf dd mm) ii) ∧ v3 = nI ii) (dN dd) (fun xx => xx = nI (ssum dd mm)) (by
    rintro ii v2 v3 hle ⟨rfl, rfl⟩
    by_cases h : ii < dN dd
    · refine Or.inl ⟨h, ?_⟩
      have hp := hO.2.1 ii h
      simp only [lb_X6_seatsOf_4, c1, if_neg (nI_ge h (show dN dd < 2 ^ 31 by omega)), ix_nI (show ii < 10 by omega) (show 10 < 2 ^ 31 by omega), nI_clamp (show ii < 2 ^ 31 by omega), c2 ii h, nm_eq, nI_1, bit_z hm (show ii < 31 by omega), ix_nI hp.1 (show 4 < 2 ^ 31 by omega), nI_clamp (show dk dd ii < 2 ^ 31 by omega), tab0 _ hp.1, nI_add]
      by_cases h3 : mm.testBit ii = false
      · rw [if_pos h3]
        exact ⟨_, _, rfl, by rw [nsum, sf, if_neg (by simp [h3]), Nat.add_zero], rfl⟩
      · rw [if_neg h3]
        have h3 : mm.testBit ii = true := by simpa using h3
        exact ⟨_, _, rfl, by rw [nsum, sf, if_pos h3], rfl⟩
    · refine Or.inr ?_
      have e : ii = dN dd := by omega
      subst e
      simp only [lb_X6_seatsOf_4, c1, if_pos (nI_le (Nat.le_refl (dN dd)) (show dN dd < 2 ^ 31 by omega))]
      exact ⟨_, rfl, rfl⟩) nn 0 0 (by omega) ⟨rfl, rfl⟩
  unfold f_X6_seatsOf
  rw [h1, h2]
  rfl
theorem cnt_le {ff : Nat → Nat} (h : ∀ ii, ff ii ≤ 1) {kk : Nat} (hk : kk ≤ 10) : nsum ff kk ≤ 10 := by
  have := nsum_bd (ff := ff) (mm := 1) kk (fun ii _ => h ii)
  omega
theorem ssum_le (dd : WD) (mm : Nat) {kk : Nat} (hk : kk ≤ 10) : nsum (sf dd mm) kk ≤ 20 := by
  have := nsum_bd (ff := sf dd mm) (mm := 2) kk (fun ii _ => by unfold sf; split <;> (try split) <;> omega)
  omega
theorem C_fit {tt : MM} {dd : WD} {nn : Nat} (hC : CW tt dd) (hO : DOk dd) (hn : 11 < nn) {mm : Nat} (hm : mm < 2 ^ 31) : f_X6_fitTogether nn tt (nI mm) = some (if fitB dd mm then 1 else 0) := by
  obtain ⟨c1, c2, c3, c4, c5, c6, c7, c8⟩ := hC
  have h10 := hO.1
  obtain ⟨xx, h1, h2⟩ := it5_inv (bb := lb_X6_fitTogether_13 nn tt (nI mm)) (fun ii v2 v3 v4 v5 v6 => v2 = nI (nsum (sf dd mm) ii) ∧ v3 = nI (nsum (chf dd mm) ii) ∧ v4 = nI (nsum (gof dd mm) ii) ∧ v5 = nI (nsum (otf dd mm) ii) ∧ v6 = nI ii) (dN dd) (fun xx => xx = (nI (nsum (sf dd mm) (dN dd)), nI (nsum (chf dd mm) (dN dd)), nI (nsum (gof dd mm) (dN dd)), nI (nsum (otf dd mm) (dN dd)))) (by
    rintro ii v2 v3 v4 v5 v6 hle ⟨rfl, rfl, rfl, rfl, rfl⟩
    by_cases h : ii < dN dd
    · refine Or.inl ⟨h, ?_⟩
      have hp := hO.2.1 ii h
      simp only [lb_X6_fitTogether_13, c1, if_neg (nI_ge h (show dN dd < 2 ^ 31 by omega)), ix_nI (show ii < 10 by omega) (show 10 < 2 ^ 31 by omega), nI_clamp (show ii < 2 ^ 31 by omega), c2 ii h, nm_eq, nI_1, bit_z hm (show ii < 31 by omega), ix_nI hp.1 (show 4 < 2 ^ 31 by omega), nI_clamp (show dk dd ii < 2 ^ 31 by omega), tab0 _ hp.1, nI_add, lit32 3, nI_eq (show dk dd ii < 2 ^ 31 by omega) (show 3 < 2 ^ 31 by omega)]
      by_cases h3 : mm.testBit ii = false
      · rw [if_pos h3]
        exact ⟨_, _, _, _, _, rfl, by rw [nsum, sf, if_neg (by simp [h3]), Nat.add_zero], by rw [nsum, chf, if_neg (by simp [h3]), Nat.add_zero], by rw [nsum, gof, if_neg (by simp [h3]), Nat.add_zero], by rw [nsum, otf, if_neg (by simp [h3]), Nat.add_zero], rfl⟩
      · rw [if_neg h3]
        have h3 : mm.testBit ii = true := by simpa using h3
        have e1 : (nI (dk dd ii) = (1 : Int32)) ↔ dk dd ii = 1 := nI_eq (b := 1) (by omega) (by omega)
        by_cases h4 : dk dd ii = 1
        · rw [if_pos (e1.mpr h4)]
          exact ⟨_, _, _, _, _, rfl, by rw [nsum, sf, if_pos h3], by rw [nsum, chf, if_pos ⟨h3, h4⟩], by rw [nsum, gof, if_neg (by omega), Nat.add_zero], by rw [nsum, otf, if_neg (by omega), Nat.add_zero], rfl⟩
        · rw [if_neg (fun z => h4 (e1.mp z))]
          by_cases h5 : dk dd ii = 3
          · rw [if_pos h5]
            exact ⟨_, _, _, _, _, rfl, by rw [nsum, sf, if_pos h3], by rw [nsum, chf, if_neg (by omega), Nat.add_zero], by rw [nsum, gof, if_pos ⟨h3, h5⟩], by rw [nsum, otf, if_neg (by omega), Nat.add_zero], rfl⟩
          · rw [if_neg h5]
            exact ⟨_, _, _, _, _, rfl, by rw [nsum, sf, if_pos h3], by rw [nsum, chf, if_neg (by omega), Nat.add_zero], by rw [nsum, gof, if_neg (by omega), Nat.add_zero], by rw [nsum, otf, if_pos ⟨h3, h4, h5⟩], rfl⟩
    · refine Or.inr ?_
      have e : ii = dN dd := by omega
      subst e
      simp only [lb_X6_fitTogether_13, c1, if_pos (nI_le (Nat.le_refl (dN dd)) (show dN dd < 2 ^ 31 by omega))]
      exact ⟨_, rfl, rfl⟩) nn 0 0 0 0 0 (by omega) ⟨rfl, rfl, rfl, rfl, rfl⟩
  have q1 : nsum (chf dd mm) (dN dd) ≤ 10 := cnt_le (fun ii => by unfold chf; split <;> omega) h10
  have q2 : nsum (gof dd mm) (dN dd) ≤ 10 := cnt_le (fun ii => by unfold gof; split <;> omega) h10
  have q3 : nsum (otf dd mm) (dN dd) ≤ 10 := cnt_le (fun ii => by unfold otf; split <;> omega) h10
  have q4 : nsum (sf dd mm) (dN dd) ≤ 20 := ssum_le dd mm h10
  have z1 : (nI (nsum (chf dd mm) (dN dd)) = 0) ↔ nsum (chf dd mm) (dN dd) = 0 := nI_eq (b := 0) (by omega) (by omega)
  have z2 : (nI (nsum (gof dd mm) (dN dd)) = 0) ↔ nsum (gof dd mm) (dN dd) = 0 := nI_eq (b := 0) (by omega) (by omega)
  have z3 : (nI (nsum (otf dd mm) (dN dd)) ≤ 0) ↔ nsum (otf dd mm) (dN dd) ≤ 0 := nI_leI (b := 0) (by omega) (by omega)
  have z4 : ((3 : Int32) < nI (nsum (sf dd mm) (dN dd))) ↔ 3 < nsum (sf dd mm) (dN dd) := nI_ltI (a := 3) (by omega) (by omega)
  unfold f_X6_fitTogether
  rw [h1, h2, b4_eq]
  simp only [f_X6_fitTogether_110, z1, z2, z3, z4]
  unfold fitB ssum
  generalize nsum (chf dd mm) (dN dd) = x1
  generalize nsum (gof dd mm) (dN dd) = x2
  generalize nsum (otf dd mm) (dN dd) = x3
  generalize nsum (sf dd mm) (dN dd) = x4
  have w1 : ((1 : Int32) = 0) = False := by decide
  by_cases y1 : x1 = 0 <;> by_cases y2 : x2 = 0 <;> by_cases y3 : x3 ≤ 0 <;> by_cases y4 : 3 < x4 <;> simp [y1, y2, y3, y4, w1] <;> omega
theorem C_foot {tt : MM} {dd : WD} (hC : CW tt dd) (hO : DOk dd) : f_X6_foot tt = some (nI (dmi dd % 12)) := by
  obtain ⟨c1, c2, c3, c4, c5, c6, c7, c8⟩ := hC
  have h := hO.2.2.2.1
  unfold f_X6_foot
  rw [c7]
  exact congrArg some (pk_rem (d := 12) (by omega) (by omega) (by omega))
theorem C_sandT {tt : MM} {dd : WD} {nn : Nat} (hC : CW tt dd) (hn : 13 < nn) : f_X6_sandTogether nn tt = some (nI (nsum (dsd dd) 12)) := by
  obtain ⟨c1, c2, c3, c4, c5, c6, c7, c8⟩ := hC
  obtain ⟨xx, h1, h2⟩ := it2_inv (bb := lb_X6_sandTogether_4 nn tt) (fun ii v2 v3 => v2 = nI (nsum (dsd dd) ii) ∧ v3 = nI ii) 12 (fun xx => xx = nI (nsum (dsd dd) 12)) (by
    rintro ii v2 v3 hle ⟨rfl, rfl⟩
    by_cases h : ii < 12
    · refine Or.inl ⟨h, ?_⟩
      have g1 : ¬ (12 : Int32) ≤ nI ii := nI_ge (b := 12) h (by omega)
      simp only [lb_X6_sandTogether_4, if_neg g1, ix_nI h (show 12 < 2 ^ 31 by omega), nI_clamp (show ii < 2 ^ 31 by omega), c6 ii h, nm_eq, nI_1, nI_add]
      exact ⟨_, _, rfl, rfl, rfl⟩
    · refine Or.inr ?_
      have e : ii = 12 := by omega
      subst e
      have g1 : (12 : Int32) ≤ nI 12 := by decide
      simp only [lb_X6_sandTogether_4, if_pos g1]
      exact ⟨_, rfl, rfl⟩) nn 0 0 (by omega) ⟨rfl, rfl⟩
  unfold f_X6_sandTogether
  rw [h1, h2]
  rfl
theorem C_load {tt : MM} {dd : WD} {nn : Nat} (hC : CW tt dd) (hO : DOk dd) (hn : 11 < nn) {cc : Nat} (hc : cc < 12) : f_X6_loadOf nn tt (nI cc) = some (nI (dsd dd cc + wsum dd (whoAt dd cc))) := by
  have h1 := whoAt_lt hO cc
  unfold f_X6_loadOf
  rw [ix_nI hc (by omega), C_who hC hO hn (by omega), b1_eq, C_weight hC hO hn (by omega), b1_eq, nI_clamp (by omega), hC.2.2.2.2.2.1 cc hc, nI_add]
