/-! one who moves, one sand that changes; whether they may -/
theorem if01 {B : Type} (bb : Bool) (xx yy : B) : (if (if bb = true then (1 : Int32) else 0) = 0 then xx else yy) = if bb = true then yy else xx := by cases bb <;> rfl
theorem ifp01 {B : Type} {pp : Prop} [Decidable pp] (xx yy : B) : (if (if pp then (1 : Int32) else 0) = 0 then xx else yy) = if pp then yy else xx := by
  by_cases h : pp
  · rw [if_pos h, if_pos h]; rfl
  · rw [if_neg h, if_neg h]; rfl
theorem cases32 (vv : Int32) : (vv < 0 ∧ vv.toInt < 0) ∨ ∃ kk : Nat, kk < 2 ^ 31 ∧ vv = nI kk := by
  by_cases h : vv < 0
  · left
    refine ⟨h, ?_⟩
    rw [fa_lt] at h
    simpa using h
  · right
    exact nI_of h
theorem R_inM {vv : Int32} (h : vv.toInt < 0) (lo hi : Nat) (h1 : lo < 3000) (h2 : hi < 3000) : f_X8_in vv.toInt64 (OfNat.ofNat lo : Int64) (OfNat.ofNat hi : Int64) = some 0 := by
  rw [litL6, litL6, R_inI vv (by omega) (by omega), if_neg (by omega)]
theorem R_inN {kk : Nat} (h : kk < 2 ^ 31) (lo hi : Nat) (h1 : lo < 3000) (h2 : hi < 3000) : f_X8_in (nI kk).toInt64 (OfNat.ofNat lo : Int64) (OfNat.ofNat hi : Int64) = some (if lo ≤ kk ∧ kk ≤ hi then 1 else 0) := by
  rw [litL6, litL6, R_inI (nI kk) (by omega) (by omega), nI_toInt h]
  by_cases q : lo ≤ kk ∧ kk ≤ hi
  · rw [if_pos q, if_pos (by omega)]
  · rw [if_neg q, if_neg (by omega)]
theorem nI_less (kk : Nat) : nI kk - (1 : Int32) = iI ((kk : Int) - 1) := by
  rw [← iI_nat kk, show (1 : Int32) = iI 1 by decide, iI_sub]
theorem bz_p {B : Type} {pp : Prop} [Decidable pp] {aa : Option B} : bz (if pp then 1 else 0) aa = aa := by
  by_cases h : pp
  · rw [if_pos h]; rfl
  · rw [if_neg h]; rfl
theorem R_one {uu : SR} {nn kk : Nat} (h : uu.1 39 4 = nI nn) (hn : nn ≤ 10) (hk : kk < 2 ^ 31) : f_X8_isOne uu (nI kk) = some (if kk < nn then 1 else 0) := by
  unfold f_X8_isOne
  rw [h, nI_less, wid (by omega) (by omega), i64_0, R_inI (nI kk) (by omega) (by omega), b1_eq, bz_p, nI_toInt hk]
  by_cases q : kk < nn
  · rw [if_pos q, if_pos (by omega)]
  · rw [if_neg q, if_neg (by omega)]
theorem R_oneM {uu : SR} {nn : Nat} {vv : Int32} (h : uu.1 39 4 = nI nn) (hn : nn ≤ 10) (hk : vv.toInt < 0) : f_X8_isOne uu vv = some 0 := by
  unfold f_X8_isOne
  rw [h, nI_less, wid (by omega) (by omega), i64_0, R_inI vv (by omega) (by omega), b1_eq, bz_p, if_neg (by omega)]
theorem C_has {tt : MM} {nn kk : Nat} (h : tt 1 5 = nI nn) (hn : nn ≤ 10) (hk : kk < 2 ^ 31) : f_X6_has tt (nI kk) = some (if kk < nn then 1 else 0) := by
  unfold f_X6_has
  rw [h, if_neg (nI_pos hk)]
  by_cases q : kk < nn
  · rw [if_pos q, if_neg (nI_ge q (by omega))]
  · rw [if_neg q, if_pos (nI_le (by omega) hk)]
theorem C_hasM {tt : MM} {vv : Int32} (h : vv < 0) : f_X6_has tt vv = some 0 := by
  unfold f_X6_has
  rw [if_pos h]
def mvP (dd : WD) (ii cc : Nat) : WD := (dN dd, dk dd, dw dd, (fun jj => if jj = ii then cc else dp dd jj), dsn dd, dsd dd, dmi dd, dli dd)
def sdD (dd : WD) (cc vv : Nat) : WD := (dN dd, dk dd, dw dd, dp dd, dsn dd, (fun jj => if jj = cc then vv else dsd dd jj), dmi dd, dli dd)
abbrev ft (dd : WD) : Nat := dmi dd % 12
theorem ft_lt (dd : WD) : ft dd < 12 := Nat.mod_lt _ (by decide)
theorem mvP_p (dd : WD) (ii cc jj : Nat) : dp (mvP dd ii cc) jj = if jj = ii then cc else dp dd jj := rfl
theorem mvP_Ok {dd : WD} {ii cc : Nat} (hO : DOk dd) (hc : cc ≤ 13) : DOk (mvP dd ii cc) := by
  refine ⟨hO.1, fun jj hj => ?_, hO.2.2.1, hO.2.2.2.1, hO.2.2.2.2⟩
  obtain ⟨q1, q2, q3, q4, q5⟩ := hO.2.1 jj hj
  refine ⟨q1, q2, q3, ?_, q5⟩
  rw [mvP_p]
  split
  · exact hc
  · exact q4
theorem sdD_Ok {dd : WD} {cc vv : Nat} (hO : DOk dd) (hc : vv ≤ 99) : DOk (sdD dd cc vv) := by
  refine ⟨hO.1, hO.2.1, fun jj hj => ?_, hO.2.2.2.1, hO.2.2.2.2⟩
  show (if jj = cc then vv else dsd dd jj) ≤ 99
  split
  · exact hc
  · exact hO.2.2.1 jj hj
theorem mvP_RX {uu : SR} {dd : WD} {ii cc : Nat} (h : RX uu dd) : RX (sr1 uu 42 ii (nI cc)) (mvP dd ii cc) := by
  obtain ⟨c1, c2, c3, c4, c5, c6, c7, c8, c9⟩ := h
  unfold RX
  rw [sr1_ne (show 39 ≠ 42 by omega), sr1_ne (show 40 ≠ 42 by omega), sr1_ne (show 41 ≠ 42 by omega), sr1_ne (show 44 ≠ 42 by omega)]
  refine ⟨c1, c2, c3, fun jj hj => ?_, trivial, c6, c7, c8, c9⟩
  rw [sr1_at, mvP_p]
  by_cases q : jj = ii
  · rw [if_pos q, if_pos q]
  · rw [if_neg q, if_neg q]; exact c4 jj hj
theorem sdD_RX {uu : SR} {dd : WD} {cc vv : Nat} (h : RX uu dd) : RX (sr1 uu 44 cc (nI vv)) (sdD dd cc vv) := by
  obtain ⟨c1, c2, c3, c4, c5, c6, c7, c8, c9⟩ := h
  unfold RX
  rw [sr1_ne (show 39 ≠ 44 by omega), sr1_ne (show 40 ≠ 44 by omega), sr1_ne (show 41 ≠ 44 by omega), sr1_ne (show 42 ≠ 44 by omega)]
  refine ⟨c1, c2, c3, c4, trivial, fun jj hj => ?_, c7, c8, c9⟩
  rw [sr1_at]
  show _ = nI (if jj = cc then vv else dsd dd jj)
  by_cases q : jj = cc
  · rw [if_pos q, if_pos q]
  · rw [if_neg q, if_neg q]; exact c6 jj hj
theorem nsum_one {ff gg : Nat → Nat} {ii : Nat} : ∀ kk, (∀ jj, jj < kk → jj ≠ ii → ff jj = gg jj) → (nsum ff kk : Int) = (nsum gg kk : Int) + (if ii < kk then (ff ii : Int) - (gg ii : Int) else 0)
  | 0, _ => by simp [nsum]
  | kk + 1, h => by
    have h1 := nsum_one kk (fun jj hj => h jj (by omega))
    rw [nsum, nsum, Int.natCast_add, Int.natCast_add, h1]
    by_cases q : kk = ii
    · subst q
      rw [if_neg (by omega), if_pos (by omega)]
      omega
    · rw [h kk (by omega) q]
      by_cases q2 : ii < kk
      · rw [if_pos q2, if_pos (by omega)]; omega
      · rw [if_neg q2, if_neg (by omega)]; omega
def pf (dd : WD) (cc : Nat) : Nat → Nat := fun ii => if dp dd ii = cc then dw dd ii else 0
theorem ldA_pf (dd : WD) {cc : Nat} (hc : cc < 12) : ldA dd cc = (dsd dd cc : Int) + (nsum (pf dd cc) (dN dd) : Int) := by
  unfold ldA ldm
  rw [nsum_cong (ff := lm dd (ridS dd) cc) (gg := pf dd cc) (dN dd) (fun ii hi => lm_rid hi hc)]
theorem ldA_mv {dd : WD} {ii cc jj : Nat} (hi : ii < dN dd) (hj : jj < 12) : ldA (mvP dd ii cc) jj = ldA dd jj + (if cc = jj then (dw dd ii : Int) else 0) - (if dp dd ii = jj then (dw dd ii : Int) else 0) := by
  rw [ldA_pf _ hj, ldA_pf _ hj]
  have h1 := nsum_one (ff := pf (mvP dd ii cc) jj) (gg := pf dd jj) (ii := ii) (dN dd) (fun kk hk hne => by
    unfold pf
    rw [mvP_p, if_neg hne]
    rfl)
  rw [if_pos hi] at h1
  have h2 : pf (mvP dd ii cc) jj ii = if cc = jj then dw dd ii else 0 := by
    unfold pf
    rw [mvP_p, if_pos rfl]
    rfl
  have h3 : pf dd jj ii = if dp dd ii = jj then dw dd ii else 0 := rfl
  rw [h2, h3] at h1
  show (dsd dd jj : Int) + (nsum (pf (mvP dd ii cc) jj) (dN dd) : Int) = _
  rw [h1]
  split <;> split <;> omega
theorem ldA_in {dd : WD} {ii cc : Nat} (hi : ii < dN dd) (hp : 12 ≤ dp dd ii) : ∀ jj, jj < 12 → addL (ldA dd) cc (dw dd ii : Int) jj = ldA (mvP dd ii cc) jj := by
  intro jj hj
  rw [ldA_mv hi hj, if_neg (show ¬ dp dd ii = jj by omega)]
  unfold addL
  by_cases q : jj = cc
  · rw [if_pos q, if_pos q.symm]; omega
  · rw [if_neg q, if_neg (fun z => q z.symm)]; omega
theorem ldA_out {dd : WD} {ii cc : Nat} (hi : ii < dN dd) (hp : 12 ≤ cc) : ∀ jj, jj < 12 → addL (ldA dd) (dp dd ii) (-(dw dd ii : Int)) jj = ldA (mvP dd ii cc) jj := by
  intro jj hj
  rw [ldA_mv hi hj, if_neg (show ¬ cc = jj by omega)]
  unfold addL
  by_cases q : jj = dp dd ii
  · rw [if_pos q, if_pos q.symm]; omega
  · rw [if_neg q, if_neg (fun z => q z.symm)]; omega
theorem ldA_sd {dd : WD} {cc vv : Nat} : ∀ jj, jj < 12 → addL (ldA dd) cc ((vv : Int) - (dsd dd cc : Int)) jj = ldA (sdD dd cc vv) jj := by
  intro jj hj
  rw [ldA_pf (sdD dd cc vv) hj]
  unfold addL
  rw [ldA_pf dd hj]
  show _ = ((if jj = cc then vv else dsd dd jj : Nat) : Int) + (nsum (pf dd jj) (dN dd) : Int)
  by_cases q : jj = cc
  · subst q
    rw [if_pos rfl, if_pos rfl]; omega
  · rw [if_neg q, if_neg q]
theorem who_in {dd : WD} {ii cc : Nat} (hi : ii < dN dd) : whoAt dd cc ||| 2 ^ ii = whoAt (mvP dd ii cc) cc := by
  apply Nat.eq_of_testBit_eq
  intro jj
  unfold whoAt
  rw [Nat.testBit_or, setOf_bit, setOf_bit, Nat.testBit_two_pow]
  show (decide (jj < dN dd) && dp dd jj == cc || decide (ii = jj)) = (decide (jj < dN dd) && dp (mvP dd ii cc) jj == cc)
  rw [mvP_p]
  by_cases q : jj = ii
  · subst q
    simp [hi]
  · have q2 : ¬ ii = jj := fun z => q z.symm
    simp [q, q2]
theorem nI_andn {aa bb cc : Nat} (h : ∀ jj, cc.testBit jj = (aa.testBit jj && !bb.testBit jj)) : nI aa &&& (nI bb ^^^ (-1 : Int32)) = nI cc := by
  apply Int32.toBitVec_inj.1
  show BitVec.ofNat 32 aa &&& (BitVec.ofNat 32 bb ^^^ (-1 : Int32).toBitVec) = BitVec.ofNat 32 cc
  have e1 : (-1 : Int32).toBitVec = BitVec.allOnes 32 := by decide
  rw [e1]
  apply BitVec.eq_of_getLsbD_eq
  intro jj hj
  simp only [BitVec.getLsbD_and, BitVec.getLsbD_xor, BitVec.getLsbD_ofNat, BitVec.getLsbD_allOnes, h]
  simp [hj]
theorem who_out {dd : WD} {ii cc oo : Nat} (ho : oo ≠ cc) : nI (whoAt dd cc) &&& (nI (2 ^ ii) ^^^ (-1 : Int32)) = nI (whoAt (mvP dd ii oo) cc) := by
  apply nI_andn
  intro jj
  unfold whoAt
  rw [setOf_bit, setOf_bit, Nat.testBit_two_pow]
  show (decide (jj < dN dd) && dp (mvP dd ii oo) jj == cc) = (decide (jj < dN dd) && dp dd jj == cc && !decide (ii = jj))
  rw [mvP_p]
  by_cases q : jj = ii
  · subst q
    simp [ho]
  · have q2 : ¬ ii = jj := fun z => q z.symm
    simp [q, q2]
noncomputable def mayI (dd : WD) (ii : Nat) : Bool := fitB dd (whoAt (mvP dd ii (ft dd)) (ft dd)) && evB (ldA (mvP dd ii (ft dd))) (dli dd)
noncomputable def mayO (dd : WD) (ii : Nat) : Bool := fitB dd (whoAt (mvP dd ii 13) (ft dd)) && evB (ldA (mvP dd ii 13)) (dli dd)
noncomputable def mayS (dd : WD) (vv : Nat) : Bool := evB (ldA (sdD dd (ft dd) vv)) (dli dd)
theorem C_trial {tt : MM} {dd : WD} {nn kb cc : Nat} {xx : Int} {ld : Nat → Int} (hC : CW tt dd) (hO : DOk dd) (hn : 13 < nn) (hk : 7 ≤ kb) (hc : cc < 12) (hl : ∀ jj, jj < 12 → addL (ldA dd) cc xx jj = ld jj) (hld : ldOk ld) : ∃ g1 g2, f_X6_weighAll nn tt kb = some (stA tt kb g1) ∧ f_X2_hang (stA tt kb g1) kb (nI cc) (iI xx) = some (stA tt kb g2) ∧ f_X2_isEvenWithin (stA tt kb g2) kb (nI (dli dd)) = some (if evB ld (dli dd) then 1 else 0) := by
  obtain ⟨g1, e1, B1⟩ := C_wAll hC hO hn hk
  obtain ⟨g2, e2, B2⟩ := C_hang (tt := tt) (kb := kb) (xx := xx) B1 hc
  refine ⟨g1, g2, e1, e2, C_even ?_ hld hO.2.2.2.2⟩
  rw [stA_same]
  exact B2.cong hl
theorem C_mayI {tt : MM} {dd : WD} {nn kb ii : Nat} (hC : CW tt dd) (hO : DOk dd) (hn : 13 < nn) (hk : 7 ≤ kb) (hi : ii < dN dd) (hp : 12 ≤ dp dd ii) : ∃ gg, f_X6_mayGetIn nn tt (nI ii) kb = some (if mayI dd ii then 1 else 0, stA tt kb gg) := by
  have h10 := hO.1
  have hw := whoAt_lt hO (ft dd)
  have hO2 : DOk (mvP dd ii (ft dd)) := mvP_Ok hO (by have := ft_lt dd; omega)
  have hw2 : whoAt (mvP dd ii (dmi dd % 12)) (dmi dd % 12) < 1024 := whoAt_lt hO2 (ft dd)
  unfold f_X6_mayGetIn mayI
  rw [C_foot hC hO, b1_eq, C_who hC hO (by omega) (by have := ft_lt dd; omega), b1_eq, bit_sh (show ii < 31 by omega), fa_or, who_in hi, C_fit hC hO (by omega) (by omega), b1_eq, if01]
  by_cases hf : fitB dd (whoAt (mvP dd ii (ft dd)) (ft dd)) = true
  · rw [if_pos hf, hf, Bool.true_and]
    obtain ⟨g1, g2, e1, e2, e3⟩ := C_trial (xx := (dw dd ii : Int)) hC hO hn hk (ft_lt dd) (ldA_in hi hp) (ldm_Ok hO2 _)
    have k7 : stA tt kb g2 1 7 = nI (dli dd) := by rw [stA_ne tt g2 (by omega)]; exact hC.2.2.2.2.2.2.2
    have k3 : stA tt kb g1 3 ii = iI (dw dd ii : Int) := by rw [stA_ne tt g1 (by omega), iI_nat]; exact hC.2.2.1 ii hi
    rw [e1, b1_eq, C_foot (CW_stA hC hk) hO, b1_eq, ix_nI (show ii < 10 by omega) (by omega), nI_clamp (show ii < 2 ^ 31 by omega), k3, e2, b1_eq, k7, e3, b1_eq, bz_01]
    exact ⟨g2, rfl⟩
  · have hf : fitB dd (whoAt (mvP dd ii (ft dd)) (ft dd)) = false := by simpa using hf
    rw [hf]
    exact ⟨tt kb, by rw [stA_self]; rfl⟩
theorem C_mayO {tt : MM} {dd : WD} {nn kb ii : Nat} (hC : CW tt dd) (hO : DOk dd) (hn : 13 < nn) (hk : 7 ≤ kb) (hi : ii < dN dd) (hp : dp dd ii = ft dd) : ∃ gg, f_X6_mayGetOut nn tt (nI ii) kb = some (if mayO dd ii then 1 else 0, stA tt kb gg) := by
  have h10 := hO.1
  have hw := whoAt_lt hO (ft dd)
  have hO2 : DOk (mvP dd ii 13) := mvP_Ok hO (by omega)
  have hw2 := whoAt_lt hO2 (ft dd)
  have hft := ft_lt dd
  unfold f_X6_mayGetOut mayO
  rw [C_foot hC hO, b1_eq, C_who hC hO (by omega) (by omega), b1_eq, bit_sh (show ii < 31 by omega), who_out (show 13 ≠ ft dd by omega), C_fit hC hO (by omega) (by omega), b1_eq, if01]
  by_cases hf : fitB dd (whoAt (mvP dd ii 13) (ft dd)) = true
  · rw [if_pos hf, hf, Bool.true_and]
    have hl := ldA_out (cc := 13) hi (by omega)
    rw [hp] at hl
    obtain ⟨g1, g2, e1, e2, e3⟩ := C_trial (xx := -(dw dd ii : Int)) hC hO hn hk hft hl (ldm_Ok hO2 _)
    have k7 : stA tt kb g2 1 7 = nI (dli dd) := by rw [stA_ne tt g2 (by omega)]; exact hC.2.2.2.2.2.2.2
    have k3 : -(stA tt kb g1 3 ii) = iI (-(dw dd ii : Int)) := by rw [stA_ne tt g1 (by omega), ← iI_neg, iI_nat, hC.2.2.1 ii hi]
    rw [e1, b1_eq, C_foot (CW_stA hC hk) hO, b1_eq, ix_nI (show ii < 10 by omega) (by omega), nI_clamp (show ii < 2 ^ 31 by omega), k3, e2, b1_eq, k7, e3, b1_eq, bz_01]
    exact ⟨g2, rfl⟩
  · have hf : fitB dd (whoAt (mvP dd ii 13) (ft dd)) = false := by simpa using hf
    rw [hf]
    exact ⟨tt kb, by rw [stA_self]; rfl⟩
theorem C_mayS {tt : MM} {dd : WD} {nn kb vv : Nat} (hC : CW tt dd) (hO : DOk dd) (hn : 13 < nn) (hk : 7 ≤ kb) (hv : vv ≤ 99) : ∃ gg, f_X6_mayHaveSand nn tt (nI vv) kb = some (if mayS dd vv then 1 else 0, stA tt kb gg) := by
  have hft := ft_lt dd
  have hO2 : DOk (sdD dd (ft dd) vv) := sdD_Ok hO hv
  unfold f_X6_mayHaveSand mayS
  obtain ⟨g1, g2, e1, e2, e3⟩ := C_trial (xx := (vv : Int) - (dsd dd (ft dd) : Int)) hC hO hn hk hft ldA_sd (ldm_Ok hO2 _)
  have k7 : stA tt kb g2 1 7 = nI (dli dd) := by rw [stA_ne tt g2 (by omega)]; exact hC.2.2.2.2.2.2.2
  have k6 : nI vv - (stA tt kb g1 6 (ft dd)) = iI ((vv : Int) - (dsd dd (ft dd) : Int)) := by rw [stA_ne tt g1 (by omega), ← iI_sub, iI_nat, iI_nat, hC.2.2.2.2.2.1 _ hft]
  rw [e1, b1_eq, C_foot (CW_stA hC hk) hO, b1_eq, b1_eq, ix_nI hft (by omega), nI_clamp (show ft dd < 2 ^ 31 by omega), k6, e2, b1_eq, k7, e3, b1_eq, bz_01]
  exact ⟨g2, rfl⟩
theorem RFr.back {uu ww : SR} {ii : Nat} {xx yy : Int32} (h : RFr (sr1 uu 42 ii xx) ww) (hy : yy = uu.1 42 ii) : RFr uu (sr1 ww 42 ii yy) := by
  refine ⟨fun kk a1 a2 => ?_, fun jj a1 => ?_, fun jj a1 a2 => ?_⟩
  · by_cases q : kk = 42
    · subst q
      funext jj
      rw [sr1_at]
      by_cases q2 : jj = ii
      · rw [if_pos q2, hy, q2]
      · rw [if_neg q2, h.1 42 a1 a2, sr1_at, if_neg q2]
    · rw [sr1_ne q, h.1 kk a1 a2, sr1_ne q]
  · rw [sr1_ne (by omega), h.2.1 jj a1, sr1_ne (by omega)]
  · rw [sr1_l, h.2.2 jj a1 a2, sr1_l]
theorem R_mayB {uu : SR} {dd : WD} {nn ii : Nat} (hC : RX uu dd) (hO : DOk dd) (hn : 13 < nn) (hi : ii < dN dd) : ∃ ww, f_X8_mayBoard nn uu (nI ii) = some (if mayI dd ii then 1 else 0, ww) ∧ RFr uu ww := by
  have h10 := hO.1
  have hft := ft_lt dd
  have hO2 : DOk (mvP dd ii (ft dd)) := mvP_Ok hO (by omega)
  have hw2 := whoAt_lt hO2 (ft dd)
  have hC2 : RX (sr1 uu 42 ii (nI (ft dd))) (mvP dd ii (ft dd)) := mvP_RX hC
  have k8 : (sr1 uu 42 ii (nI (ft dd))).1 39 8 = nI (ft dd) := hC2.2.2.2.2.2.2.2.2
  obtain ⟨ww, e1, hF⟩ := R_even hC2 hO2 hn
  have e1 : f_X8_isEven nn (sr1 uu 42 ii (nI (ft dd))) = some (if evB (ldA (mvP dd ii (ft dd))) (dli dd) then 1 else 0, ww) := e1
  unfold f_X8_mayBoard mayI
  simp only [ix_nI (show ii < 10 by omega) (show 10 < 2 ^ 31 by omega), nI_clamp (show ii < 2 ^ 31 by omega), nm_eq, hC.2.2.2.2.2.2.2.2]
  rw [k8, R_who hC2 hO2 (by omega) (by omega), b1_eq, R_fit hC2 hO2 (by omega) (by omega), b1_eq, if01, e1, b1_eq]
  show ∃ ww, (if fitB dd (whoAt (mvP dd ii (ft dd)) (ft dd)) = true then _ else _) = _ ∧ _
  cases fitB dd (whoAt (mvP dd ii (ft dd)) (ft dd)) with
  | false => exact ⟨_, rfl, RFr.back RFr.rf rfl⟩
  | true =>
    cases evB (ldA (mvP dd ii (ft dd))) (dli dd) with
    | false => exact ⟨_, rfl, hF.back rfl⟩
    | true => exact ⟨_, rfl, hF.back rfl⟩
theorem R_mayL {uu : SR} {dd : WD} {nn ii : Nat} (hC : RX uu dd) (hO : DOk dd) (hn : 13 < nn) (hi : ii < dN dd) (hp : dp dd ii = ft dd) : ∃ ww, f_X8_mayLeave nn uu (nI ii) = some (if mayO dd ii then 1 else 0, ww) ∧ RFr uu ww := by
  have h10 := hO.1
  have hft := ft_lt dd
  have hO2 : DOk (mvP dd ii 13) := mvP_Ok hO (by omega)
  have hw2 := whoAt_lt hO2 (ft dd)
  have hC2 : RX (sr1 uu 42 ii (nI 13)) (mvP dd ii 13) := mvP_RX hC
  have k8 : (sr1 uu 42 ii (nI 13)).1 39 8 = nI (ft dd) := hC2.2.2.2.2.2.2.2.2
  have k42 : uu.1 42 ii = nI (ft dd) := by rw [hC.2.2.2.1 ii hi, hp]
  obtain ⟨ww, e1, hF⟩ := R_even hC2 hO2 hn
  have e1 : f_X8_isEven nn (sr1 uu 42 ii (nI 13)) = some (if evB (ldA (mvP dd ii 13)) (dli dd) then 1 else 0, ww) := e1
  have k9 : ww.1 39 8 = nI (ft dd) := (hF.2.1 8 (by omega)).trans k8
  unfold f_X8_mayLeave mayO
  simp only [ix_nI (show ii < 10 by omega) (show 10 < 2 ^ 31 by omega), nI_clamp (show ii < 2 ^ 31 by omega), nm_eq, lit32 13]
  rw [k8, R_who hC2 hO2 (by omega) (by omega), b1_eq, R_fit hC2 hO2 (by omega) (by omega), b1_eq, if01, e1, b1_eq]
  show ∃ ww, (if fitB dd (whoAt (mvP dd ii 13) (ft dd)) = true then _ else _) = _ ∧ _
  dsimp only
  rw [k9]
  cases fitB dd (whoAt (mvP dd ii 13) (ft dd)) with
  | false => exact ⟨_, rfl, RFr.back RFr.rf k42.symm⟩
  | true =>
    cases evB (ldA (mvP dd ii 13)) (dli dd) with
    | false => exact ⟨_, rfl, hF.back k42.symm⟩
    | true => exact ⟨_, rfl, hF.back k42.symm⟩
