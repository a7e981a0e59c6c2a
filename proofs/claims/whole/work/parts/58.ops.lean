/-! out, count, person, board, leave, sand, turn, may -/
theorem sel5 {vv : Int32} (e2 : vv < 0 ∨ ∃ kk : Nat, kk < 2 ^ 31 ∧ vv = nI kk ∧ (kk < 0 ∨ 5 < kk)) : vv ≠ 0 ∧ vv ≠ 1 ∧ vv ≠ 2 ∧ vv ≠ 3 ∧ vv ≠ 4 ∧ vv ≠ 5 := by
  rcases e2 with e2 | ⟨jj, e3, rfl, e4⟩
  · exact ⟨neg_ne e2 (kk := 0) (by omega), neg_ne e2 (kk := 1) (by omega), neg_ne e2 (kk := 2) (by omega), neg_ne e2 (kk := 3) (by omega), neg_ne e2 (kk := 4) (by omega), neg_ne e2 (kk := 5) (by omega)⟩
  · exact ⟨fun z => by have := (nI_eq (b := 0) e3 (by omega)).mp z; omega, fun z => by have := (nI_eq (b := 1) e3 (by omega)).mp z; omega, fun z => by have := (nI_eq (b := 2) e3 (by omega)).mp z; omega, fun z => by have := (nI_eq (b := 3) e3 (by omega)).mp z; omega, fun z => by have := (nI_eq (b := 4) e3 (by omega)).mp z; omega, fun z => by have := (nI_eq (b := 5) e3 (by omega)).mp z; omega⟩
theorem m_out {tt : MM} {uu : SR} {dd : WD} {nn : Nat} (h : WR tt uu dd) (hn : 13 < nn) (v1 : Int32) : Good tt uu (f_X7_out nn tt v1) (f_X8_out nn uu v1) := by
  have h0 := h
  obtain ⟨hC, hR, hO, hft⟩ := h
  obtain ⟨g1, c1, B1⟩ := C_wAll (kb := 28) hC hO hn (by omega)
  have hok : ldOk (ldA dd) := ldm_Ok hO _
  have hB : BalF (stA tt 28 g1 28) (ldA dd) := by rw [stA_same]; exact B1
  have c2 := C_whole (tt := stA tt 28 g1) (kb := 28) hB hok
  have c3 := C_root (tt := stA tt 28 g1) (kb := 28) hB hok
  obtain ⟨w1, d1, F1', L1⟩ := R_loads hR.x hO hn
  obtain ⟨w2, d2, F2', -, hV, hA, hBB⟩ := R_square L1 hok hn
  have hW : WR (stA tt 28 g1) w2 dd := (h0.stA (by omega) g1).fr (F1'.tr F2')
  have hc : CRest tt (stA tt 28 g1) := CRest.rf.sA ck28 (by omega)
  have hr : RRest uu w2 := (F1'.tr F2').rest
  unfold f_X7_out f_X8_out
  rw [c1, b1_eq]
  simp only [c2, c3, b1_eq, lI_32, hB 0 (by omega), hB 1 (by omega), hB 2 (by omega), hB 3 (by omega)]
  rcases R_inC v1 0 5 (by omega) (by omega) with ⟨e1, kk, -, hk, rfl⟩ | ⟨e1, e2⟩
  · rw [show f_X8_in (nI kk).toInt64 (0 : Int64) (5 : Int64) = some 1 from e1, b1_eq, if_neg n10', d1, b1_eq, d2, b1_eq, hA, hBB, show w2.1 39 10 = _ from hV 0 (by omega), show w2.1 39 11 = _ from hV 1 (by omega), show w2.1 39 12 = _ from hV 2 (by omega), show w2.1 39 13 = _ from hV 3 (by omega)]
    simp only [lI_32]
    rcases (show kk = 0 ∨ kk = 1 ∨ kk = 2 ∨ kk = 3 ∨ kk = 4 ∨ kk = 5 by omega) with rfl | rfl | rfl | rfl | rfl | rfl <;> exact ⟨_, _, _, dd, rfl, rfl, hW, hc, hr⟩
  · rw [show f_X8_in v1.toInt64 (0 : Int64) (5 : Int64) = some 0 from e1, b1_eq, if_pos rfl]
    obtain ⟨z0, z1, z2, z3, z4, z5⟩ := sel5 e2
    rw [if_neg z0, if_neg z1, if_neg z2, if_neg z3, if_neg z4, if_neg z5]
    exact ⟨_, _, _, dd, rfl, rfl, h0.stA (by omega) g1, hc, RRest.rf⟩
theorem R_sum {uu : SR} {dd : WD} {nn : Nat} {v1 : Int32} (hC : RX uu dd) (hn : 13 < nn) : it2 (lb_X8_count_4 nn uu v1) nn (0 : Int32) (0 : Int32) = some (nI (nsum (dsd dd) 12)) := by
  obtain ⟨c1, c2, c3, c4, c5, c6, c7, c8⟩ := hC
  obtain ⟨xx, h1, h2⟩ := it2_inv (bb := lb_X8_count_4 nn uu v1) (fun ii v2 v3 => v2 = nI (nsum (dsd dd) ii) ∧ v3 = nI ii) 12 (fun xx => xx = nI (nsum (dsd dd) 12)) (by
    rintro ii v2 v3 hle ⟨rfl, rfl⟩
    by_cases h : ii < 12
    · refine Or.inl ⟨h, ?_⟩
      have g1 : ¬ (12 : Int32) ≤ nI ii := nI_ge (b := 12) h (by omega)
      simp only [lb_X8_count_4, if_neg g1, ix_nI h (show 12 < 2 ^ 31 by omega), nI_clamp (show ii < 2 ^ 31 by omega), c6 ii h, nm_eq, nI_1, nI_add]
      exact ⟨_, _, rfl, rfl, rfl⟩
    · refine Or.inr ?_
      have e : ii = 12 := by omega
      subst e
      have g1 : (12 : Int32) ≤ nI 12 := by decide
      simp only [lb_X8_count_4, if_pos g1]
      exact ⟨_, rfl, rfl⟩) nn 0 0 (by omega) ⟨rfl, rfl⟩
  rw [h1, h2]
theorem R_rid {uu : SR} {dd : WD} {nn : Nat} {v1 v2 : Int32} (hC : RX uu dd) (hO : DOk dd) (hn : 11 < nn) : it2 (lb_X8_count_30 nn uu v1 v2) nn (0 : Int32) (0 : Int32) = some (nI (ridS dd)) := by
  obtain ⟨c1, c2, c3, c4, c5, c6, c7, c8⟩ := hC
  have h10 := hO.1
  obtain ⟨xx, h1, h2⟩ := it2_inv (bb := lb_X8_count_30 nn uu v1 v2) (fun ii v2 v3 => v2 = nI (setOf (fun ii => decide (dp dd ii < 12)) ii) ∧ v3 = nI ii) (dN dd) (fun xx => xx = nI (ridS dd)) (by
    rintro ii v2 v3 hle ⟨rfl, rfl⟩
    by_cases h : ii < dN dd
    · refine Or.inl ⟨h, ?_⟩
      have hp := hO.2.1 ii h
      simp only [lb_X8_count_30, c1, if_neg (nI_ge h (show dN dd < 2 ^ 31 by omega)), ix_nI (show ii < 10 by omega) (show 10 < 2 ^ 31 by omega), nI_clamp (show ii < 2 ^ 31 by omega), c4 ii h, nm_eq, bit_sh (show ii < 31 by omega), fa_or, nI_1, or_0, lit32 12, nI_leI (show 12 < 2 ^ 31 by omega) (show dp dd ii < 2 ^ 31 by omega)]
      by_cases h3 : 12 ≤ dp dd ii
      · rw [if_pos h3]
        exact ⟨_, _, rfl, by rw [setOf, if_neg (by simp; omega)], rfl⟩
      · rw [if_neg h3]
        exact ⟨_, _, rfl, by rw [setOf, if_pos (by simp; omega)], rfl⟩
    · refine Or.inr ?_
      have e : ii = dN dd := by omega
      subst e
      simp only [lb_X8_count_30, c1, if_pos (nI_le (Nat.le_refl (dN dd)) (show dN dd < 2 ^ 31 by omega))]
      exact ⟨_, rfl, rfl⟩) nn 0 0 (by omega) ⟨rfl, rfl⟩
  rw [h1, h2]
theorem m_count {tt : MM} {uu : SR} {dd : WD} {nn : Nat} (h : WR tt uu dd) (hn : 13 < nn) (v1 : Int32) : ∃ vv, f_X7_count nn tt v1 = some vv ∧ f_X8_count nn uu v1 = some vv := by
  obtain ⟨hC, hR, hO, -⟩ := h
  unfold f_X7_count f_X8_count
  rw [R_sum hR.x hn, b1_eq, R_rid hR.x hO (by omega), b1_eq]
  simp only [C_foot hC hO, C_who hC hO (show 11 < nn by omega) (show 12 < 1000 by omega), C_who hC hO (show 11 < nn by omega) (show 13 < 1000 by omega), R_who hR.x hO (show 11 < nn by omega) (show 12 < 1000 by omega), R_who hR.x hO (show 11 < nn by omega) (show 13 < 1000 by omega), C_rides hC hO (show 11 < nn by omega), C_sandT hC hn, b1_eq, hC.1, hR.1, hC.2.2.2.2.2.2.1, hR.2.2.2.2.2.2.1, hR.2.2.2.2.2.2.2.2, lit32 12, lit32 13]
  by_cases q0 : v1 = 0
  · simp only [if_pos q0]
    exact ⟨_, rfl, rfl⟩
  simp only [if_neg q0]
  by_cases q1 : v1 = 1
  · simp only [if_pos q1]
    exact ⟨_, rfl, rfl⟩
  simp only [if_neg q1]
  by_cases q2 : v1 = 2
  · simp only [if_pos q2]
    exact ⟨_, rfl, rfl⟩
  simp only [if_neg q2]
  by_cases q3 : v1 = 3
  · simp only [if_pos q3]
    exact ⟨_, rfl, rfl⟩
  simp only [if_neg q3]
  by_cases q4 : v1 = 4
  · simp only [if_pos q4]
    exact ⟨_, rfl, rfl⟩
  simp only [if_neg q4]
  by_cases q5 : v1 = 5
  · simp only [if_pos q5]
    exact ⟨_, rfl, rfl⟩
  simp only [if_neg q5]
  by_cases q6 : v1 = 6
  · simp only [if_pos q6]
    exact ⟨_, rfl, rfl⟩
  simp only [if_neg q6]
  exact ⟨_, rfl, rfl⟩
def addD (dd : WD) (kd wt : Nat) : WD := (dN dd + 1, (fun jj => if jj = dN dd then kd else dk dd jj), (fun jj => if jj = dN dd then wt else dw dd jj), (fun jj => if jj = dN dd then 12 else dp dd jj), (fun jj => if jj = dN dd then 0 else dsn dd jj), dsd dd, dmi dd, dli dd)
theorem who_add (dd : WD) (kd wt : Nat) {cc : Nat} (hc : cc < 12) : whoAt (addD dd kd wt) cc = whoAt dd cc := by
  unfold whoAt
  show setOf (fun ii => (if ii = dN dd then 12 else dp dd ii) == cc) (dN dd + 1) = _
  rw [setOf, if_neg (by simp; omega)]
  refine setOf_cong _ (fun ii hi => ?_)
  rw [if_neg (by omega)]
theorem bit_out {mm kk : Nat} (h : mm < 2 ^ kk) : mm.testBit kk = false := Nat.testBit_lt_two_pow h
theorem fit_add (dd : WD) (kd wt : Nat) {mm : Nat} (hm : mm < 2 ^ (dN dd)) : fitB (addD dd kd wt) mm = fitB dd mm := by
  have hb := bit_out hm
  have a1 : nsum (chf (addD dd kd wt) mm) (dN dd + 1) = nsum (chf dd mm) (dN dd) := by
    rw [nsum]
    have z : chf (addD dd kd wt) mm (dN dd) = 0 := by unfold chf; rw [hb]; simp
    rw [z, Nat.add_zero]
    refine nsum_cong _ (fun ii hi => ?_)
    show (if mm.testBit ii ∧ (if ii = dN dd then kd else dk dd ii) = 1 then 1 else 0) = _
    rw [if_neg (show ¬ ii = dN dd by omega)]; rfl
  have a2 : nsum (gof (addD dd kd wt) mm) (dN dd + 1) = nsum (gof dd mm) (dN dd) := by
    rw [nsum]
    have z : gof (addD dd kd wt) mm (dN dd) = 0 := by unfold gof; rw [hb]; simp
    rw [z, Nat.add_zero]
    refine nsum_cong _ (fun ii hi => ?_)
    show (if mm.testBit ii ∧ (if ii = dN dd then kd else dk dd ii) = 3 then 1 else 0) = _
    rw [if_neg (show ¬ ii = dN dd by omega)]; rfl
  have a3 : nsum (otf (addD dd kd wt) mm) (dN dd + 1) = nsum (otf dd mm) (dN dd) := by
    rw [nsum]
    have z : otf (addD dd kd wt) mm (dN dd) = 0 := by unfold otf; rw [hb]; simp
    rw [z, Nat.add_zero]
    refine nsum_cong _ (fun ii hi => ?_)
    show (if mm.testBit ii ∧ (if ii = dN dd then kd else dk dd ii) ≠ 1 ∧ (if ii = dN dd then kd else dk dd ii) ≠ 3 then 1 else 0) = _
    rw [if_neg (show ¬ ii = dN dd by omega)]; rfl
  have a4 : nsum (sf (addD dd kd wt) mm) (dN dd + 1) = nsum (sf dd mm) (dN dd) := by
    rw [nsum]
    have z : sf (addD dd kd wt) mm (dN dd) = 0 := by unfold sf; rw [hb]; simp
    rw [z, Nat.add_zero]
    refine nsum_cong _ (fun ii hi => ?_)
    show (if mm.testBit ii then (if (if ii = dN dd then kd else dk dd ii) < 2 then 1 else 2) else 0) = _
    rw [if_neg (show ¬ ii = dN dd by omega)]; rfl
  unfold fitB ssum
  rw [show dN (addD dd kd wt) = dN dd + 1 from rfl, a1, a2, a3, a4]
theorem addD_Ok {dd : WD} {kd wt : Nat} (hO : DOk dd) (hN : dN dd < 10) (h1 : kd < 4) (h2 : 1 ≤ wt ∧ wt ≤ 99) : DOk (addD dd kd wt) := by
  refine ⟨?_, fun jj hj => ?_, hO.2.2.1, hO.2.2.2.1, hO.2.2.2.2⟩
  · show dN dd + 1 ≤ 10
    omega
  · have hj : jj < dN dd + 1 := hj
    show (if jj = dN dd then kd else dk dd jj) < 4 ∧ 1 ≤ (if jj = dN dd then wt else dw dd jj) ∧ (if jj = dN dd then wt else dw dd jj) ≤ 99 ∧ (if jj = dN dd then 12 else dp dd jj) ≤ 13 ∧ (if jj = dN dd then 0 else dsn dd jj) ≤ 999
    by_cases q : jj = dN dd
    · simp only [if_pos q]; omega
    · simp only [if_neg q]; exact hO.2.1 jj (by omega)
theorem C_add {tt : MM} {dd : WD} {kd wt : Nat} (hC : CW tt dd) (hN : dN dd < 10) : ∃ t2, f_X6_addOne tt (nI kd) (nI wt) = some (nI (dN dd), t2) ∧ CW t2 (addD dd kd wt) ∧ (∀ kk, ¬ (1 ≤ kk ∧ kk ≤ 5) → t2 kk = tt kk) := by
  obtain ⟨c1, c2, c3, c4, c5, c6, c7, c8⟩ := hC
  refine ⟨st1 (st1 (st1 (st1 (st1 tt 2 (dN dd) (nI kd)) 3 (dN dd) (nI wt)) 4 (dN dd) 12) 5 (dN dd) 0) 1 5 (nI (dN dd) + 1), ?_, ?_, ?_⟩
  · unfold f_X6_addOne
    simp only [c1, if_neg (nI_pos (show dN dd < 2 ^ 31 by omega)), if_pos (show nI (dN dd) < (10 : Int32) from nI_lt (b := 10) hN (by omega)), ix_nI hN (show 10 < 2 ^ 31 by omega), nm_eq, nI_clamp (show dN dd < 2 ^ 31 by omega), st1_ne (show 1 ≠ 2 by omega), st1_ne (show 1 ≠ 3 by omega), st1_ne (show 1 ≠ 4 by omega), st1_ne (show 1 ≠ 5 by omega), st1_s]
    rw [nI_1, nI_pred]
  · unfold CW
    refine ⟨by rw [st1_s, nI_1]; rfl, fun jj hj => ?_, fun jj hj => ?_, fun jj hj => ?_, fun jj hj => ?_, ?_, ?_, ?_⟩
    · have hj : jj < dN dd + 1 := hj
      rw [st1_ne (by omega), st1_ne (by omega), st1_ne (by omega), st1_ne (by omega), st1_at]
      show _ = nI (if jj = dN dd then kd else dk dd jj)
      by_cases q : jj = dN dd
      · rw [if_pos q, if_pos q]
      · rw [if_neg q, if_neg q]; exact c2 jj (by omega)
    · have hj : jj < dN dd + 1 := hj
      rw [st1_ne (by omega), st1_ne (by omega), st1_ne (by omega), st1_at]
      show _ = nI (if jj = dN dd then wt else dw dd jj)
      by_cases q : jj = dN dd
      · rw [if_pos q, if_pos q]
      · rw [if_neg q, if_neg q, st1_ne (by omega)]; exact c3 jj (by omega)
    · have hj : jj < dN dd + 1 := hj
      rw [st1_ne (by omega), st1_ne (by omega), st1_at]
      show _ = nI (if jj = dN dd then 12 else dp dd jj)
      by_cases q : jj = dN dd
      · rw [if_pos q, if_pos q]; rfl
      · rw [if_neg q, if_neg q, st1_ne (by omega), st1_ne (by omega)]; exact c4 jj (by omega)
    · have hj : jj < dN dd + 1 := hj
      rw [st1_ne (by omega), st1_at]
      show _ = nI (if jj = dN dd then 0 else dsn dd jj)
      by_cases q : jj = dN dd
      · rw [if_pos q, if_pos q]; rfl
      · rw [if_neg q, if_neg q, st1_ne (by omega), st1_ne (by omega), st1_ne (by omega)]; exact c5 jj (by omega)
    · rw [st1_ne (show 6 ≠ 1 by omega), st1_ne (show 6 ≠ 5 by omega), st1_ne (show 6 ≠ 4 by omega), st1_ne (show 6 ≠ 3 by omega), st1_ne (show 6 ≠ 2 by omega)]; exact c6
    · rw [st1_o (show 6 ≠ 5 by omega), st1_ne (by omega), st1_ne (by omega), st1_ne (by omega), st1_ne (by omega)]; exact c7
    · rw [st1_o (show 7 ≠ 5 by omega), st1_ne (by omega), st1_ne (by omega), st1_ne (by omega), st1_ne (by omega)]; exact c8
  · intro kk hk
    rw [st1_ne (by omega), st1_ne (by omega), st1_ne (by omega), st1_ne (by omega), st1_ne (by omega)]
theorem R_add {uu : SR} {dd : WD} {kd wt : Nat} (hR : RW uu dd) (hN : dN dd < 10) : ∃ u2, f_X8_add uu (nI kd) (nI wt) = some u2 ∧ RW u2 (addD dd kd wt) ∧ (∀ kk, ¬ (39 ≤ kk ∧ kk ≤ 43) → u2.1 kk = uu.1 kk) ∧ (∀ jj, jj ≠ 4 → u2.1 39 jj = uu.1 39 jj) ∧ u2.2 = uu.2 := by
  obtain ⟨c1, c2, c3, c4, c5, c6, c7, c8, c9⟩ := hR
  refine ⟨sr1 (sr1 (sr1 (sr1 (sr1 uu 40 (dN dd) (nI kd)) 41 (dN dd) (nI wt)) 42 (dN dd) 12) 43 (dN dd) (-4)) 39 4 (nI (dN dd) + 1), ?_, ?_, ?_, ?_, rfl⟩
  · unfold f_X8_add
    simp only [c1, ix_nI hN (show 10 < 2 ^ 31 by omega), nm_eq, nI_clamp (show dN dd < 2 ^ 31 by omega), sr1_ne (show 39 ≠ 40 by omega), sr1_ne (show 39 ≠ 41 by omega), sr1_ne (show 39 ≠ 42 by omega), sr1_ne (show 39 ≠ 43 by omega)]
  · unfold RW
    refine ⟨by rw [sr1_s, nI_1]; rfl, fun jj hj => ?_, fun jj hj => ?_, fun jj hj => ?_, fun jj hj => ?_, ?_, ?_, ?_, ?_⟩
    · have hj : jj < dN dd + 1 := hj
      rw [sr1_ne (by omega), sr1_ne (by omega), sr1_ne (by omega), sr1_ne (by omega), sr1_at]
      show _ = nI (if jj = dN dd then kd else dk dd jj)
      by_cases q : jj = dN dd
      · rw [if_pos q, if_pos q]
      · rw [if_neg q, if_neg q]; exact c2 jj (by omega)
    · have hj : jj < dN dd + 1 := hj
      rw [sr1_ne (by omega), sr1_ne (by omega), sr1_ne (by omega), sr1_at]
      show _ = nI (if jj = dN dd then wt else dw dd jj)
      by_cases q : jj = dN dd
      · rw [if_pos q, if_pos q]
      · rw [if_neg q, if_neg q, sr1_ne (by omega)]; exact c3 jj (by omega)
    · have hj : jj < dN dd + 1 := hj
      rw [sr1_ne (by omega), sr1_ne (by omega), sr1_at]
      show _ = nI (if jj = dN dd then 12 else dp dd jj)
      by_cases q : jj = dN dd
      · rw [if_pos q, if_pos q]; rfl
      · rw [if_neg q, if_neg q, sr1_ne (by omega), sr1_ne (by omega)]; exact c4 jj (by omega)
    · have hj : jj < dN dd + 1 := hj
      rw [sr1_ne (by omega), sr1_at]
      show _ = if (if jj = dN dd then 12 else dp dd jj) = 12 then -4 else nI (if jj = dN dd then 0 else dsn dd jj)
      by_cases q : jj = dN dd
      · simp only [if_pos q]; rfl
      · simp only [if_neg q]
        rw [sr1_ne (by omega), sr1_ne (by omega), sr1_ne (by omega)]; exact c5 jj (by omega)
    · rw [sr1_ne (show 44 ≠ 39 by omega), sr1_ne (show 44 ≠ 43 by omega), sr1_ne (show 44 ≠ 42 by omega), sr1_ne (show 44 ≠ 41 by omega), sr1_ne (show 44 ≠ 40 by omega)]; exact c6
    · rw [sr1_o (show 7 ≠ 4 by omega), sr1_ne (by omega), sr1_ne (by omega), sr1_ne (by omega), sr1_ne (by omega)]; exact c7
    · rw [sr1_o (show 6 ≠ 4 by omega), sr1_ne (by omega), sr1_ne (by omega), sr1_ne (by omega), sr1_ne (by omega)]; exact c8
    · rw [sr1_o (show 8 ≠ 4 by omega), sr1_ne (by omega), sr1_ne (by omega), sr1_ne (by omega), sr1_ne (by omega)]; exact c9
  · intro kk hk
    rw [sr1_ne (by omega), sr1_ne (by omega), sr1_ne (by omega), sr1_ne (by omega), sr1_ne (by omega)]
  · intro jj hj
    rw [sr1_o hj, sr1_ne (by omega), sr1_ne (by omega), sr1_ne (by omega), sr1_ne (by omega)]
theorem fits_add {dd : WD} (kd wt : Nat) (h : ∀ cc, cc < 12 → fitB dd (whoAt dd cc) = true) : ∀ cc, cc < 12 → fitB (addD dd kd wt) (whoAt (addD dd kd wt) cc) = true := by
  intro cc hc
  rw [who_add dd kd wt hc, fit_add dd kd wt (mm := whoAt dd cc) (setOf_lt _ _)]
  exact h cc hc
theorem m_person {tt : MM} {uu : SR} {dd : WD} (h : WR tt uu dd) (v1 v2 : Int32) : Good tt uu (f_X7_person tt v1 v2) (f_X8_person uu v1 v2) := by
  have h0 := h
  obtain ⟨hC, hR, hO, hft⟩ := h
  have h10 := hO.1
  unfold f_X7_person f_X8_person
  rcases R_inC v1 0 3 (by omega) (by omega) with ⟨e1, kd, -, hk, rfl⟩ | ⟨e1, e2⟩
  · rw [show f_X8_in (nI kd).toInt64 (0 : Int64) (3 : Int64) = some 1 from e1, b1_eq, if_neg n10', if_neg (nI_pos (show kd < 2 ^ 31 by omega)), if_neg (show ¬ (4 : Int32) ≤ nI kd from nI_ge (b := 4) (by omega) (by omega))]
    rcases R_inC v2 1 99 (by omega) (by omega) with ⟨e3, wt, hw1, hw2, rfl⟩ | ⟨e3, e4⟩
    · rw [show f_X8_in (nI wt).toInt64 (1 : Int64) (99 : Int64) = some 1 from e3, b1_eq, if_neg n10', if_neg (show ¬ nI wt < (1 : Int32) from nI_nlt (b := 1) hw1 (by omega)), if_pos (show nI wt ≤ (99 : Int32) from nI_le (b := 99) hw2 (by omega)), hC.1, hR.1]
      by_cases q : dN dd < 10
      · rw [if_pos (show nI (dN dd) < (10 : Int32) from nI_lt (b := 10) q (by omega)), if_neg (show ¬ nI (dN dd) = (10 : Int32) from fun z => by have := (nI_eq (b := 10) (show dN dd < 2 ^ 31 by omega) (by omega)).mp z; omega)]
        obtain ⟨t2, a1, a2, a3⟩ := C_add (kd := kd) (wt := wt) hC q
        obtain ⟨u2, d1, d2, d3, d4, d5⟩ := R_add (kd := kd) (wt := wt) hR q
        rw [a1, d1, b1_eq, b1_eq, d2.1]
        refine ⟨nI (dN dd), t2, u2, addD dd kd wt, rfl, ?_, ⟨a2, d2, addD_Ok hO q (by omega) ⟨hw1, hw2⟩, fits_add kd wt hft⟩, ⟨fun kk hk => a3 kk (by unfold CK at hk; omega), by rw [a3 13 (by omega)]⟩, ⟨fun kk hk => d3 kk (by omega), d4 17 (by omega), d4 29 (by omega)⟩⟩
        show some (nI (dN dd + 1) - 1, u2) = _
        rw [nI_pred]
      · have q2 : dN dd = 10 := by omega
        rw [q2]
        exact ⟨_, _, _, dd, rfl, rfl, h0, CRest.rf, RRest.rf⟩
    · rw [show f_X8_in v2.toInt64 (1 : Int64) (99 : Int64) = some 0 from e3, b1_eq, if_pos rfl]
      rcases e4 with e4 | ⟨jj, e5, rfl, e6⟩
      · rw [if_pos (show v2 < (1 : Int32) from neg_lt e4 (kk := 1) (by omega))]
        exact ⟨_, _, _, dd, rfl, rfl, h0, CRest.rf, RRest.rf⟩
      · by_cases q : jj < 1
        · rw [if_pos (show nI jj < (1 : Int32) from nI_lt (b := 1) q (by omega))]
          exact ⟨_, _, _, dd, rfl, rfl, h0, CRest.rf, RRest.rf⟩
        · rw [if_neg (show ¬ nI jj < (1 : Int32) from nI_nlt (b := 1) (by omega) e5), if_neg (show ¬ nI jj ≤ (99 : Int32) from nI_ge (a := 99) (by omega) e5)]
          exact ⟨_, _, _, dd, rfl, rfl, h0, CRest.rf, RRest.rf⟩
  · rw [show f_X8_in v1.toInt64 (0 : Int64) (3 : Int64) = some 0 from e1, b1_eq, if_pos rfl]
    rcases e2 with e2 | ⟨jj, e3, rfl, e4⟩
    · rw [if_pos e2]
      exact ⟨_, _, _, dd, rfl, rfl, h0, CRest.rf, RRest.rf⟩
    · rw [if_neg (nI_pos e3), if_pos (show (4 : Int32) ≤ nI jj from nI_le (a := 4) (by omega) e3)]
      exact ⟨_, _, _, dd, rfl, rfl, h0, CRest.rf, RRest.rf⟩
