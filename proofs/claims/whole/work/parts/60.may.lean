/-! may -/
theorem m_may {tt : MM} {uu : SR} {dd : WD} {nn : Nat} (h : WR tt uu dd) (hn : 13 < nn) (v1 : Int32) : Good tt uu (f_X7_may nn tt v1) (f_X8_may nn uu v1) := by
  have h0 := h
  obtain ⟨hC, hR, hO, hfit⟩ := h
  have h10 := hO.1
  have hft := ft_lt dd
  have hm := hO.2.2.2.1
  have done : ∀ (pp : Nat → Bool) (vv : Int32), (∀ ii gg, ii < dN dd → ∃ g2, ∀ v2, lb_X7_may_15 nn vv v2 (nI ii) (stA tt 28 gg) = some (.inr (if pp ii then v2 ||| nI (2 ^ ii) else v2, nI (ii + 1), stA tt 28 g2))) → (∀ ii ww, ii < dN dd → RFr uu ww → ∃ w2, RFr uu w2 ∧ ∀ v2, lb_X8_may_16 nn vv v2 (nI ii) ww = some (.inr (if pp ii then v2 ||| nI (2 ^ ii) else v2, nI (ii + 1), w2))) → Good tt uu (b2 (it3 (lb_X7_may_15 nn vv) nn (0 : Int32) (0 : Int32) tt) (fun v2_8 t_9 => some (v2_8, t_9))) (b2 (it3 (lb_X8_may_16 nn vv) nn (0 : Int32) (0 : Int32) uu) (fun v2_8 t_9 => some (v2_8, t_9))) := by
    intro pp vv hc hr
    obtain ⟨x1, h1, h2⟩ := it3_inv (bb := lb_X7_may_15 nn vv) (fun ii v2 v3 t2 => v2 = nI (setOf pp ii) ∧ v3 = nI ii ∧ ∃ gg, t2 = stA tt 28 gg) (dN dd) (fun xx => ∃ gg, xx = (nI (setOf pp (dN dd)), stA tt 28 gg)) (by
      rintro ii v2 v3 t2 hle ⟨rfl, rfl, gg, rfl⟩
      by_cases q : ii < dN dd
      · refine Or.inl ⟨q, ?_⟩
        obtain ⟨g2, e1⟩ := hc ii gg q
        refine ⟨_, _, _, e1 _, ?_, rfl, g2, rfl⟩
        rw [setOf]
        by_cases q2 : pp ii = true
        · rw [if_pos q2, if_pos q2, fa_or]
        · rw [if_neg q2, if_neg q2]
      · refine Or.inr ?_
        have e : ii = dN dd := by omega
        subst e
        have k1 : stA tt 28 gg 1 5 = nI (dN dd) := by rw [stA_ne tt gg (by omega)]; exact hC.1
        refine ⟨_, ?_, gg, rfl⟩
        unfold lb_X7_may_15
        rw [k1, if_pos (nI_le (Nat.le_refl (dN dd)) (by omega))]) nn 0 0 tt (by omega) ⟨rfl, rfl, tt 28, (stA_self tt 28).symm⟩
    obtain ⟨y1, h3, h4⟩ := it3_inv (bb := lb_X8_may_16 nn vv) (fun ii v2 v3 w2 => v2 = nI (setOf pp ii) ∧ v3 = nI ii ∧ RFr uu w2) (dN dd) (fun xx => ∃ ww, xx = (nI (setOf pp (dN dd)), ww) ∧ RFr uu ww) (by
      rintro ii v2 v3 w2 hle ⟨rfl, rfl, hF⟩
      by_cases q : ii < dN dd
      · refine Or.inl ⟨q, ?_⟩
        obtain ⟨w3, hF3, e1⟩ := hr ii w2 q hF
        refine ⟨_, _, _, e1 _, ?_, rfl, hF3⟩
        rw [setOf]
        by_cases q2 : pp ii = true
        · rw [if_pos q2, if_pos q2, fa_or]
        · rw [if_neg q2, if_neg q2]
      · refine Or.inr ?_
        have e : ii = dN dd := by omega
        subst e
        have k1 : w2.1 39 4 = nI (dN dd) := (hR.fr hF).1
        refine ⟨_, ?_, w2, rfl, hF⟩
        unfold lb_X8_may_16
        rw [k1, if_pos (nI_le (Nat.le_refl (dN dd)) (by omega))]) nn 0 0 uu (by omega) ⟨rfl, rfl, RFr.rf⟩
    obtain ⟨gg, rfl⟩ := h2
    obtain ⟨ww, rfl, hF⟩ := h4
    rw [h1, h3]
    exact ⟨_, _, _, dd, rfl, rfl, (h0.stA (by omega) gg).fr hF, CRest.rf.sA ck28 (by omega), hF.rest⟩
  unfold f_X7_may f_X8_may
  rcases R_inC v1 0 1 (by omega) (by omega) with ⟨e1, kk, -, hk, rfl⟩ | ⟨e1, e2⟩
  · rw [show f_X8_in (nI kk).toInt64 (0 : Int64) (1 : Int64) = some 1 from e1, b1_eq, if_neg n10']
    rcases (show kk = 0 ∨ kk = 1 by omega) with rfl | rfl
    · rw [if_pos (show nI 0 = (0 : Int32) from rfl)]
      refine done (fun ii => dp dd ii == 12 && mayI dd ii) (nI 0) (fun ii gg hi => ?_) (fun ii ww hi hF => ?_)
      · have hC2 : CW (stA tt 28 gg) dd := CW_stA hC (by omega)
        by_cases q : dp dd ii = 12
        · obtain ⟨g2, a1⟩ := C_mayI (kb := 28) hC2 hO hn (by omega) hi (by omega)
          refine ⟨g2, fun v2 => ?_⟩
          unfold lb_X7_may_15 f_X7_may_95_in15
          rw [hC2.1, if_neg (nI_ge hi (by omega)), if_pos (show nI 0 = (0 : Int32) from rfl), C_waits hC2 hO (by omega), b1_eq, ifp01, if_pos (show ii < dN dd ∧ dp dd ii = 12 from ⟨hi, q⟩), a1, b1_eq, stA_stA]
          simp only [if01, nm_eq, nI_1, bit_sh (show ii < 31 by omega), if_neg n10', if_true]
          cases hq : mayI dd ii with
          | true => simp [q]
          | false => simp
        · refine ⟨gg, fun v2 => ?_⟩
          unfold lb_X7_may_15 f_X7_may_95_in15
          rw [hC2.1, if_neg (nI_ge hi (by omega)), if_pos (show nI 0 = (0 : Int32) from rfl), C_waits hC2 hO (by omega), b1_eq, ifp01, if_neg (show ¬ (ii < dN dd ∧ dp dd ii = 12) from fun z => q z.2)]
          simp only [nm_eq, nI_1, if_true, beq_false_of_ne q, Bool.false_and]
          rfl
      · have hR2 := hR.fr hF
        have hp4 := (hO.2.1 ii hi).2.2.2.1
        by_cases q : dp dd ii = 12
        · obtain ⟨w2, a1, hF2⟩ := R_mayB hR2.x hO hn hi 
          refine ⟨w2, hF.tr hF2, fun v2 => ?_⟩
          unfold lb_X8_may_16 f_X8_may_81_in16
          rw [hR2.1, if_neg (nI_ge hi (by omega)), if_pos (show nI 0 = (0 : Int32) from rfl), ix_nI (show ii < 10 by omega) (by omega), nI_clamp (show ii < 2 ^ 31 by omega), hR2.2.2.2.1 ii hi, lit32 12, if_pos (show nI (dp dd ii) = nI (12) by rw [q]), a1, b1_eq]
          simp only [if01, nm_eq, nI_1, bit_sh (show ii < 31 by omega), if_neg n10', if_true, or_0]
          cases hq : mayI dd ii with
          | true => simp [q]
          | false => simp
        · refine ⟨ww, hF, fun v2 => ?_⟩
          unfold lb_X8_may_16 f_X8_may_81_in16
          rw [hR2.1, if_neg (nI_ge hi (by omega)), if_pos (show nI 0 = (0 : Int32) from rfl), ix_nI (show ii < 10 by omega) (by omega), nI_clamp (show ii < 2 ^ 31 by omega), hR2.2.2.2.1 ii hi, lit32 12, if_neg (show ¬ nI (dp dd ii) = nI (12) from fun z => q ((nI_eq (b := 12) (by omega) (by omega)).mp z))]
          simp only [nm_eq, nI_1, if_true, or_0, beq_false_of_ne q, Bool.false_and]
          rfl
    · rw [if_neg (show ¬ nI 1 = (0 : Int32) by decide), if_pos (show nI 1 = (1 : Int32) from rfl)]
      refine done (fun ii => dp dd ii == ft dd && mayO dd ii) (nI 1) (fun ii gg hi => ?_) (fun ii ww hi hF => ?_)
      · have hC2 : CW (stA tt 28 gg) dd := CW_stA hC (by omega)
        by_cases q : dp dd ii = ft dd
        · obtain ⟨g2, a1⟩ := C_mayO (kb := 28) hC2 hO hn (by omega) hi q
          refine ⟨g2, fun v2 => ?_⟩
          unfold lb_X7_may_15 f_X7_may_95_in15
          rw [hC2.1, if_neg (nI_ge hi (by omega)), if_neg (show ¬ nI 1 = (0 : Int32) by decide), C_foots hC2 hO (by omega), b1_eq, ifp01, if_pos (show ii < dN dd ∧ dp dd ii = ft dd from ⟨hi, q⟩), a1, b1_eq, stA_stA]
          simp only [if01, nm_eq, nI_1, bit_sh (show ii < 31 by omega), if_neg n10', if_true]
          cases hq : mayO dd ii with
          | true => simp [q]
          | false => simp
        · refine ⟨gg, fun v2 => ?_⟩
          unfold lb_X7_may_15 f_X7_may_95_in15
          rw [hC2.1, if_neg (nI_ge hi (by omega)), if_neg (show ¬ nI 1 = (0 : Int32) by decide), C_foots hC2 hO (by omega), b1_eq, ifp01, if_neg (show ¬ (ii < dN dd ∧ dp dd ii = ft dd) from fun z => q z.2)]
          simp only [nm_eq, nI_1, if_true, beq_false_of_ne q, Bool.false_and]
          rfl
      · have hR2 := hR.fr hF
        have hp4 := (hO.2.1 ii hi).2.2.2.1
        by_cases q : dp dd ii = ft dd
        · obtain ⟨w2, a1, hF2⟩ := R_mayL hR2.x hO hn hi q
          refine ⟨w2, hF.tr hF2, fun v2 => ?_⟩
          unfold lb_X8_may_16 f_X8_may_81_in16
          rw [hR2.1, if_neg (nI_ge hi (by omega)), if_neg (show ¬ nI 1 = (0 : Int32) by decide), ix_nI (show ii < 10 by omega) (by omega), nI_clamp (show ii < 2 ^ 31 by omega), hR2.2.2.2.1 ii hi, hR2.2.2.2.2.2.2.2.2, if_pos (show nI (dp dd ii) = nI (dmi dd % 12) by rw [q]), a1, b1_eq]
          simp only [if01, nm_eq, nI_1, bit_sh (show ii < 31 by omega), if_neg n10', if_true, or_0]
          cases hq : mayO dd ii with
          | true => simp [q]
          | false => simp
        · refine ⟨ww, hF, fun v2 => ?_⟩
          unfold lb_X8_may_16 f_X8_may_81_in16
          rw [hR2.1, if_neg (nI_ge hi (by omega)), if_neg (show ¬ nI 1 = (0 : Int32) by decide), ix_nI (show ii < 10 by omega) (by omega), nI_clamp (show ii < 2 ^ 31 by omega), hR2.2.2.2.1 ii hi, hR2.2.2.2.2.2.2.2.2, if_neg (show ¬ nI (dp dd ii) = nI (dmi dd % 12) from fun z => q ((nI_eq (b := ft dd) (by omega) (by omega)).mp z))]
          simp only [nm_eq, nI_1, if_true, or_0, beq_false_of_ne q, Bool.false_and]
          rfl
  · rw [show f_X8_in v1.toInt64 (0 : Int64) (1 : Int64) = some 0 from e1, b1_eq, if_pos rfl]
    have z : v1 ≠ 0 ∧ v1 ≠ 1 := by
      rcases e2 with e2 | ⟨jj, e3, rfl, e4⟩
      · exact ⟨neg_ne e2 (kk := 0) (by omega), neg_ne e2 (kk := 1) (by omega)⟩
      · exact ⟨fun z => by have := (nI_eq (b := 0) e3 (by omega)).mp z; omega, fun z => by have := (nI_eq (b := 1) e3 (by omega)).mp z; omega⟩
    rw [if_neg z.1, if_neg z.2]
    exact ⟨_, _, _, dd, rfl, rfl, h0, CRest.rf, RRest.rf⟩
