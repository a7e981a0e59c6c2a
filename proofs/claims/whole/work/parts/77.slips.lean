/-! sure, worst: the reference -/
def RFz (uu ww : SR) : Prop := (∀ kk, kk ≠ 39 → kk ≠ 45 → ww.1 kk = uu.1 kk) ∧ (∀ jj, ¬ (10 ≤ jj ∧ jj ≤ 13) → ww.1 39 jj = uu.1 39 jj)
theorem RFz.rf {uu : SR} : RFz uu uu := ⟨fun _ _ _ => rfl, fun _ _ => rfl⟩
theorem RFz.tr {uu vv ww : SR} (h1 : RFz uu vv) (h2 : RFz vv ww) : RFz uu ww := ⟨fun kk a1 a2 => (h2.1 kk a1 a2).trans (h1.1 kk a1 a2), fun jj a1 => (h2.2 jj a1).trans (h1.2 jj a1)⟩
theorem RFr.fz {uu ww : SR} (h : RFr uu ww) : RFz uu ww := ⟨h.1, h.2.1⟩
theorem RFz.L {uu ww : SR} (h : RFz uu ww) {jj : Nat} {vv : Int64} : RFz uu (srL ww jj vv) := ⟨fun kk a1 a2 => by rw [srL_1]; exact h.1 kk a1 a2, fun xx a1 => by rw [srL_1]; exact h.2 xx a1⟩
theorem RW.fz {uu ww : SR} {dd : WD} (h : RW uu dd) (hf : RFz uu ww) : RW ww dd := by
  unfold RW at h ⊢
  rw [hf.1 40 (by omega) (by omega), hf.1 41 (by omega) (by omega), hf.1 42 (by omega) (by omega), hf.1 43 (by omega) (by omega), hf.1 44 (by omega) (by omega), hf.2 4 (by omega), hf.2 6 (by omega), hf.2 7 (by omega), hf.2 8 (by omega)]
  exact h
theorem RX.fz {uu ww : SR} {dd : WD} (h : RX uu dd) (hf : RFz uu ww) : RX ww dd := by
  unfold RX at h ⊢
  rw [hf.1 40 (by omega) (by omega), hf.1 41 (by omega) (by omega), hf.1 42 (by omega) (by omega), hf.1 44 (by omega) (by omega), hf.2 4 (by omega), hf.2 6 (by omega), hf.2 7 (by omega), hf.2 8 (by omega)]
  exact h
theorem RFz.rest {uu ww : SR} (h : RFz uu ww) : RRest uu ww := ⟨fun kk hk => h.1 kk (by omega) (by omega), h.2 17 (by omega), h.2 29 (by omega)⟩
theorem R_count4 {uu : SR} {dd : WD} {nn : Nat} (hX : RX uu dd) (hO : DOk dd) (hn : 13 < nn) : f_X8_count nn uu (4 : Int32) = some (nI (ridS dd)) := by
  unfold f_X8_count
  rw [R_sum hX hn, b1_eq, R_rid hX hO (by omega), b1_eq]
  rfl
theorem R_sandW {uu : SR} {sd : Nat → Nat} {nn : Nat} {v1 v2 v3 v4 : Int32} (c6 : ∀ cc, cc < 12 → uu.1 44 cc = nI (sd cc)) (hn : 13 < nn) : ∃ ww, it2 (lb_X8_findWorst_37 nn v1 v2 v3 v4) nn (0 : Int32) uu = some ww ∧ RFr uu ww ∧ ∀ cc, cc < 12 → ww.1 45 cc = iI (sd cc : Int) := by
  obtain ⟨xx, h1, h2⟩ := it2_inv (bb := lb_X8_findWorst_37 nn v1 v2 v3 v4) (fun ii v1 ww => v1 = nI ii ∧ RFr uu ww ∧ ∀ cc, cc < ii → ww.1 45 cc = iI (sd cc : Int)) 12 (fun ww => RFr uu ww ∧ ∀ cc, cc < 12 → ww.1 45 cc = iI (sd cc : Int)) (by
    rintro ii v1 ww hle ⟨rfl, hF, hL⟩
    by_cases h : ii < 12
    · refine Or.inl ⟨h, ?_⟩
      have g1 : ¬ (12 : Int32) ≤ nI ii := nI_ge (b := 12) h (by omega)
      simp only [lb_X8_findWorst_37, if_neg g1, ix_nI h (show 12 < 2 ^ 31 by omega), nI_clamp (show ii < 2 ^ 31 by omega), nm_eq, nI_1]
      refine ⟨_, _, rfl, rfl, hF.w45 _ _, fun cc hc => ?_⟩
      rw [sr1_at]
      by_cases h3 : cc = ii
      · subst h3
        rw [if_pos rfl, hF.1 44 (by omega) (by omega), c6 cc h, iI_nat]
      · rw [if_neg h3]
        exact hL cc (by omega)
    · refine Or.inr ?_
      have e : ii = 12 := by omega
      subst e
      have g1 : (12 : Int32) ≤ nI 12 := by decide
      simp only [lb_X8_findWorst_37, if_pos g1]
      exact ⟨_, rfl, hF, hL⟩) nn 0 uu (by omega) ⟨rfl, RFr.rf, fun cc hc => absurd hc (by omega)⟩
  exact ⟨xx, h1, h2.1, h2.2⟩
theorem R_slip1 {u0 : SR} {dd : WD} {nn sl ee : Nat} {v3 : Int32} (hX : RX u0 dd) (hO : DOk dd) (hs : sl ≤ 9) (he : ee < 2 ^ 31) (hL : ∀ cc, cc < 12 → u0.1 45 cc = iI (dsd dd cc : Int)) (hn : 12 < nn) : ∃ u2, it3 (lb_X8_findWorst_70 nn (nI sl) (nI (ridS dd)) v3 (nI ee)) nn (0 : Int32) (0 : Int32) u0 = some u2 ∧ RFr u0 u2 ∧ ∀ cc, cc < 12 → u2.1 45 cc = iI (vx dd sl ee cc) := by
  have h10 := hO.1
  have hr := ridS_lt hO
  obtain ⟨c1, c2, c3, c4, c5, c6, c7, c8, c9⟩ := hX
  obtain ⟨xx, h1, h2, h3⟩ := it3_inv (bb := lb_X8_findWorst_70 nn (nI sl) (nI (ridS dd)) v3 (nI ee)) (fun kx v5 v6 ww => v5 = nI (rk dd kx) ∧ v6 = nI kx ∧ RFr u0 ww ∧ ∀ cc, cc < 12 → ww.1 45 cc = iI ((dsd dd cc : Int) + (nsum (fun kk => if dp dd kk = cc then endW dd sl ee kk else 0) kx : Int))) (dN dd) (fun ww => RFr u0 ww ∧ ∀ cc, cc < 12 → ww.1 45 cc = iI ((dsd dd cc : Int) + (nsum (fun kk => if dp dd kk = cc then endW dd sl ee kk else 0) (dN dd) : Int))) (by
    rintro kx v5 v6 ww hle ⟨rfl, rfl, hF, hL2⟩
    have k1 : ww.1 39 4 = nI (dN dd) := (hF.2.1 4 (by omega)).trans c1
    unfold lb_X8_findWorst_70
    by_cases q : kx < dN dd
    · have k3 : ww.1 41 kx = nI (dw dd kx) := by rw [hF.1 41 (by omega) (by omega)]; exact c3 kx q
      have k4 : ww.1 42 kx = nI (dp dd kx) := by rw [hF.1 42 (by omega) (by omega)]; exact c4 kx q
      have hw := (hO.2.1 kx q).2.2.1
      have hrk : rk dd kx ≤ kx := fa_cnt_le _ _
      rw [k1, if_neg (nI_ge q (by omega)), R_has (by omega) (show kx < 31 by omega), b1_eq, if01]
      by_cases q2 : rb dd kx = true
      · have hp := (rb_t q2).2
        have er : rk dd (kx + 1) = rk dd kx + 1 := fa_cnt_yes q2
        have key : f_X8_findWorst_112_in70 nn ww (nI sl) (nI (ridS dd)) v3 (nI ee) (nI (rk dd kx)) (nI kx) (nI (dw dd kx - sl)) = some (.inr (nI (rk dd kx + 1), nI (kx + 1), sr1 ww 45 (dp dd kx) (ww.1 45 (dp dd kx) + nI (endW dd sl ee kx)))) := by
          unfold f_X8_findWorst_112_in70
          simp only [ix_nI (show kx < 10 by omega) (show 10 < 2 ^ 31 by omega), nI_clamp (show kx < 2 ^ 31 by omega), k4, k3, ix_nI hp (show 12 < 2 ^ 31 by omega), nI_clamp (show dp dd kx < 2 ^ 31 by omega), R_has he (show rk dd kx < 31 by omega), b1_eq, if01, nm_eq, nI_1, nI_add]
          unfold endW
          by_cases q3 : ee.testBit (rk dd kx) = true
          · rw [if_pos q3, if_pos q3]
          · rw [if_neg q3, if_neg q3]
        rw [if_pos (show (ridS dd).testBit kx = true from q2), ix_nI (show kx < 10 by omega) (by omega), ix_nI (show kx < 10 by omega) (by omega), nI_clamp (show kx < 2 ^ 31 by omega), k3]
        have both : (if nI (dw dd kx) ≤ nI sl then f_X8_findWorst_112_in70 nn ww (nI sl) (nI (ridS dd)) v3 (nI ee) (nI (rk dd kx)) (nI kx) (0 : Int32) else f_X8_findWorst_112_in70 nn ww (nI sl) (nI (ridS dd)) v3 (nI ee) (nI (rk dd kx)) (nI kx) (nI (dw dd kx) - nI sl)) = f_X8_findWorst_112_in70 nn ww (nI sl) (nI (ridS dd)) v3 (nI ee) (nI (rk dd kx)) (nI kx) (nI (dw dd kx - sl)) := by
          by_cases q3 : dw dd kx ≤ sl
          · rw [if_pos (nI_le q3 (by omega)), show dw dd kx - sl = 0 by omega]
            rfl
          · rw [if_neg (nI_ge (by omega) (by omega)), sh_sub (by omega)]
        rw [both, key]
        refine Or.inl ⟨q, _, _, _, rfl, by rw [er], rfl, hF.w45 _ _, fun cc hc => ?_⟩
        rw [sr1_at, nsum]
        by_cases q3 : cc = dp dd kx
        · subst q3
          rw [if_pos rfl, if_pos rfl, hL2 _ hp, ← iI_nat (endW dd sl ee kx), iI_add]
          congr 1
          rw [Int.natCast_add]
          omega
        · rw [if_neg q3, if_neg (fun z => q3 z.symm), Nat.add_zero]
          exact hL2 cc hc
      · have q2' : rb dd kx = false := by simpa using q2
        have er : rk dd (kx + 1) = rk dd kx := fa_cnt_no q2'
        have hp := rb_f q2' q
        rw [if_neg (show ¬ (ridS dd).testBit kx = true from q2), nm_eq, nI_1]
        refine Or.inl ⟨q, _, _, _, rfl, by rw [er], rfl, hF, fun cc hc => ?_⟩
        rw [nsum, if_neg (by omega), Nat.add_zero]
        exact hL2 cc hc
    · have e : kx = dN dd := by omega
      subst e
      rw [k1, if_pos (nI_le (Nat.le_refl _) (by omega))]
      exact Or.inr ⟨_, rfl, hF, hL2⟩) nn 0 0 u0 (by omega) ⟨rfl, rfl, RFr.rf, fun cc hc => by rw [hL cc hc]; simp [nsum]⟩
  refine ⟨xx, h1, h2, fun cc hc => ?_⟩
  unfold vx
  rw [ldA_wt hc]
  exact h3 cc hc
theorem im1 : (-1 : Int64) = lI (-1) := by decide
theorem srL_s {uu : SR} {jj : Nat} {vv : Int64} : (srL uu jj vv).2 jj = vv := by rw [srL_at, if_pos rfl]
theorem srL_o {uu : SR} {jj yy : Nat} {vv : Int64} (h : yy ≠ jj) : (srL uu jj vv).2 yy = uu.2 yy := by rw [srL_at, if_neg h]
theorem R_slip2 {u0 : SR} {dd : WD} {nn sl : Nat} (hX : RX u0 dd) (hO : DOk dd) (hs : sl ≤ 9) (h8 : rk dd 10 ≤ 8) (h27 : u0.2 27 = lI (-1)) (hn : 300 < nn) : ∃ u2, it2 (lb_X8_findWorst_26 nn (nI sl) (nI (ridS dd)) (nI (rk dd 10))) nn (0 : Int32) u0 = some u2 ∧ RFz u0 u2 ∧ ∃ ee, ee < 2 ^ rk dd 10 ∧ u2.2 27 = lI (sqA (vx dd sl ee)) ∧ u2.2 28 = lI (sqB (vx dd sl ee)) ∧ ∀ ef, ef < 2 ^ rk dd 10 → phL (vx dd sl ef) ≤ phL (vx dd sl ee) := by
  have hpow : 2 ^ rk dd 10 ≤ 2 ^ 8 := Nat.pow_le_pow_right (by decide) h8
  have hpow2 : (2 : Nat) ^ 8 = 256 := by decide
  have hpos := Nat.two_pow_pos (rk dd 10)
  exact it2_inv (bb := lb_X8_findWorst_26 nn (nI sl) (nI (ridS dd)) (nI (rk dd 10))) (fun kx v4 u2 => v4 = nI kx ∧ RFz u0 u2 ∧ ((kx = 0 ∧ u2.2 27 = lI (-1)) ∨ ∃ ee, ee < kx ∧ u2.2 27 = lI (sqA (vx dd sl ee)) ∧ u2.2 28 = lI (sqB (vx dd sl ee)) ∧ ∀ ef, ef < kx → phL (vx dd sl ef) ≤ phL (vx dd sl ee))) (2 ^ rk dd 10) (fun u2 => RFz u0 u2 ∧ ∃ ee, ee < 2 ^ rk dd 10 ∧ u2.2 27 = lI (sqA (vx dd sl ee)) ∧ u2.2 28 = lI (sqB (vx dd sl ee)) ∧ ∀ ef, ef < 2 ^ rk dd 10 → phL (vx dd sl ef) ≤ phL (vx dd sl ee)) (by
    rintro kx v4 u2 hle ⟨rfl, hF, hcase⟩
    unfold lb_X8_findWorst_26
    rw [bit_sh (show rk dd 10 < 31 by omega)]
    by_cases q : kx < 2 ^ rk dd 10
    · have hX2 := hX.fz hF
      obtain ⟨w1, e1, F1', L1⟩ := R_sandW (nn := nn) (v1 := nI sl) (v2 := nI (ridS dd)) (v3 := nI (rk dd 10)) (v4 := nI kx) hX2.2.2.2.2.2.1 (by omega)
      obtain ⟨w2, e2, F2', L2⟩ := R_slip1 (nn := nn) (sl := sl) (ee := kx) (v3 := nI (rk dd 10)) (hX2.fr F1') hO hs (by omega) L1 (by omega)
      have ov : ldOk (vx dd sl kx) := vx_ok hO hs
      obtain ⟨w3, e3, F3', -, -, hA, hB⟩ := R_square (nn := nn) L2 ov (by omega)
      have hFr := (F1'.tr F2').tr F3'
      have hFz : RFz u0 w3 := hF.tr hFr.fz
      have k27 : w3.2 27 = u2.2 27 := hFr.2.2 27 (by omega) (by omega)
      have k28 : w3.2 28 = u2.2 28 := hFr.2.2 28 (by omega) (by omega)
      have a1 := sqA_bd ov
      rw [if_neg (nI_ge q (by omega)), e1, b1_eq, e2, b1_eq, e3, b1_eq, hA, hB, k27, k28, i64_0]
      rcases hcase with ⟨rfl, h7⟩ | ⟨ee, hee, h7, h8', hmx⟩
      · rw [h7, if_pos ((lg_lt (rg_of (by omega) (by omega)) (rg_of (by omega) (by omega))).mpr (by omega)), nm_eq, nm_eq, nm_eq, nI_1, srL_o (by omega), hB]
        refine Or.inl ⟨q, _, _, rfl, rfl, (hFz.L).L, Or.inr ⟨0, by omega, by rw [srL_o (by omega), srL_s], by rw [srL_s], fun ef hef => ?_⟩⟩
        rw [show ef = 0 by omega]
        exact Int.le_refl _
      · have oe : ldOk (vx dd sl ee) := vx_ok hO hs
        have a2 := sqA_bd oe
        obtain ⟨s1, s2⟩ := sq_sm ov oe
        rw [h7, h8', if_neg (fun z => by have := (lg_lt (rg_of (by omega) (by omega)) (rg_of (by omega) (by omega))).mp z; omega), lI_sub, lI_sub, noMore_ok s1 s2, b1_eq]
        by_cases q2 : abvB (sqA (vx dd sl kx) - sqA (vx dd sl ee)) (sqB (vx dd sl kx) - sqB (vx dd sl ee)) = true
        · have hgt := (gt_ph ov oe).mp (abvB_t.mp q2)
          rw [if_pos q2, if_pos rfl, nm_eq, nm_eq, nm_eq, nI_1, srL_o (by omega), hB]
          refine Or.inl ⟨q, _, _, rfl, rfl, (hFz.L).L, Or.inr ⟨kx, by omega, by rw [srL_o (by omega), srL_s], by rw [srL_s], fun ef hef => ?_⟩⟩
          by_cases q3 : ef = kx
          · rw [q3]; exact Int.le_refl _
          · have := hmx ef (by omega)
            omega
        · have hgt : ¬ phL (vx dd sl ee) < phL (vx dd sl kx) := fun z => q2 (abvB_t.mpr ((gt_ph ov oe).mpr z))
          rw [if_neg q2, if_neg n10', nm_eq, nI_1]
          refine Or.inl ⟨q, _, _, rfl, rfl, hFz, Or.inr ⟨ee, by omega, by rw [k27]; exact h7, by rw [k28]; exact h8', fun ef hef => ?_⟩⟩
          by_cases q3 : ef = kx
          · rw [q3]; omega
          · exact hmx ef (by omega)
    · have e : kx = 2 ^ rk dd 10 := by omega
      subst e
      rw [if_pos (nI_le (Nat.le_refl _) (by omega))]
      rcases hcase with ⟨z, _⟩ | hcase
      · omega
      · exact Or.inr ⟨_, rfl, hF, hcase⟩) nn 0 u0 (by omega) ⟨rfl, RFz.rf, Or.inl ⟨rfl, h27⟩⟩
theorem R_worst {uu : SR} {dd : WD} {nn sl : Nat} (hX : RX uu dd) (hO : DOk dd) (hs : sl ≤ 9) (h8 : rk dd 10 ≤ 8) (hn : 300 < nn) : ∃ u2, f_X8_findWorst nn uu (nI sl) = some u2 ∧ RFz uu u2 ∧ ∃ ee, ee < 2 ^ rk dd 10 ∧ u2.2 27 = lI (sqA (vx dd sl ee)) ∧ u2.2 28 = lI (sqB (vx dd sl ee)) ∧ ∀ ef, ef < 2 ^ rk dd 10 → phL (vx dd sl ef) ≤ phL (vx dd sl ee) := by
  have hr := ridS_lt hO
  have hF0 : RFz uu (srL (srL uu 27 (-1 : Int64)) 28 (0 : Int64)) := (RFz.rf.L).L
  have hX0 := hX.fz hF0
  obtain ⟨u2, e1, hF, hh⟩ := R_slip2 (nn := nn) hX0 hO hs h8 (by rw [srL_o (by omega), srL_s, im1]) hn
  refine ⟨u2, ?_, hF0.tr hF, hh⟩
  unfold f_X8_findWorst
  rw [nm_eq, nm_eq, R_count4 hX0 hO (by omega), b1_eq, R_ones hr (by omega), b1_eq, show it2 (lb_X8_findWorst_26 nn (nI sl) (nI (ridS dd)) (nI (fa_cnt (fun jj => (ridS dd).testBit jj) 10))) nn (0 : Int32) (srL (srL uu 27 (-1 : Int64)) 28 (0 : Int64)) = some u2 from e1]
  rfl
theorem m_find {tt : MM} {uu : SR} {dd : WD} {nn sl : Nat} (h : WR tt uu dd) (hs : sl ≤ 9) (h8 : rk dd 10 ≤ 8) (hn : 300 < nn) : ∃ t2 u2 lw, f_X4_findWorst nn tt (nI sl) = some t2 ∧ f_X8_findWorst nn uu (nI sl) = some u2 ∧ WR t2 u2 dd ∧ CRest tt t2 ∧ RRest uu u2 ∧ ldOk lw ∧ BalF (t2 27) lw ∧ u2.2 27 = lI (sqA lw) ∧ u2.2 28 = lI (sqB lw) := by
  obtain ⟨hC, hR, hO, hfit⟩ := h
  obtain ⟨t2, e1, f1, lw, ee, ow, B1, he, hA, hB, hm⟩ := C_worst hC hO hs h8 hn
  obtain ⟨u2, e2, hF, ef, hef, gA, gB, gm⟩ := R_worst hR.x hO hs h8 hn
  have h1 := hm ef hef
  have h2 := gm ee he
  have h3 := eq_ph (vx_ok (ee := ef) hO hs) (vx_ok (ee := ee) hO hs) (by omega)
  have hC2 : CW t2 dd := by
    unfold CW
    rw [f1 1 (by omega), f1 2 (by omega), f1 3 (by omega), f1 4 (by omega), f1 5 (by omega), f1 6 (by omega)]
    exact hC
  exact ⟨t2, u2, lw, e1, e2, ⟨hC2, hR.fz hF, hO, hfit⟩, ⟨fun kk hk => f1 kk (by unfold CK at hk; omega), by rw [f1 13 (by omega)]⟩, hF.rest, ow, B1, by rw [gA, h3.1, hA], by rw [gB, h3.2, hB]⟩
theorem m_sure {tt : MM} {uu : SR} {dd : WD} {nn : Nat} (h : WR tt uu dd) (hn : 300 < nn) (v1 : Int32) : Good tt uu (f_X7_sure nn tt v1) (f_X8_sure nn uu v1) := by
  have h0 := h
  obtain ⟨hC, hR, hO, hfit⟩ := h
  have hr := ridS_lt hO
  have stay : ∀ vv : Int32, Good tt uu (some (vv, tt)) (some (vv, uu)) := fun vv => ⟨_, _, _, dd, rfl, rfl, h0, CRest.rf, RRest.rf⟩
  have hrk : rk dd 10 ≤ 10 := fa_cnt_le _ _
  have ec : fa_cnt (fun jj => (ridS dd).testBit jj) 10 = rk dd 10 := rfl
  unfold f_X7_sure f_X8_sure
  rcases R_inC v1 0 9 (by omega) (by omega) with ⟨e1, sl, -, hs, rfl⟩ | ⟨e1, e2⟩
  rotate_left
  · rw [show f_X8_in v1.toInt64 (0 : Int64) (9 : Int64) = some 0 from e1, b1_eq, if_pos rfl]
    rcases e2 with e2 | ⟨jj, e3, rfl, e4⟩
    · rw [if_pos e2]
      exact stay _
    · rw [if_neg (nI_pos e3), if_neg (show ¬ nI jj ≤ (9 : Int32) from nI_ge (a := 9) (by omega) e3)]
      exact stay _
  rw [show f_X8_in (nI sl).toInt64 (0 : Int64) (9 : Int64) = some 1 from e1, b1_eq, if_neg n10', if_neg (nI_pos (show sl < 2 ^ 31 by omega)), if_pos (show nI sl ≤ (9 : Int32) from nI_le (b := 9) hs (by omega)), C_rides hC hO (by omega), b1_eq, bc_ok _ hr, b1_eq, R_count4 hR.x hO (by omega), b1_eq, R_ones hr (by omega), b1_eq, ec]
  by_cases q : rk dd 10 ≤ 8
  · have g8 : nI (rk dd 10) ≤ (8 : Int32) := nI_le (b := 8) q (by omega)
    rw [if_pos g8, if_pos g8]
    obtain ⟨t2, u2, lw, a1, a2, hW, hc, hrr, ow, B1, gA, gB⟩ := m_find h0 hs q hn
    have hli := hO.2.2.2.2
    obtain ⟨s1, s2⟩ := even_sm ow hli
    rw [a1, a2, b1_eq, b1_eq, hW.1.2.2.2.2.2.2.2, C_even B1 ow hli, b1_eq, if01, hW.2.1.2.2.2.2.2.2.2.1, gA, gB, nI_wid (by omega), i64_4, lI_mul, lI_mul, lI_sub, noMore_ok s1 s2, b1_eq]
    unfold evB
    cases abvB (sqA lw - 4 * (dli dd : Int) * (dli dd : Int)) (sqB lw) with
    | true => exact ⟨_, _, _, dd, rfl, rfl, hW, hc, hrr⟩
    | false => exact ⟨_, _, _, dd, rfl, rfl, hW, hc, hrr⟩
  · have g8 : ¬ nI (rk dd 10) ≤ (8 : Int32) := nI_ge (a := 8) (by omega) (by omega)
    rw [if_neg g8, if_neg g8]
    exact stay _
theorem m_worst {tt : MM} {uu : SR} {dd : WD} {nn : Nat} (h : WR tt uu dd) (hn : 300 < nn) (v1 v2 : Int32) : Good tt uu (f_X7_worst nn tt v1 v2) (f_X8_worst nn uu v1 v2) := by
  have h0 := h
  obtain ⟨hC, hR, hO, hfit⟩ := h
  have hr := ridS_lt hO
  have stay : ∀ vv : Int32, Good tt uu (some (vv, tt)) (some (vv, uu)) := fun vv => ⟨_, _, _, dd, rfl, rfl, h0, CRest.rf, RRest.rf⟩
  have hrk : rk dd 10 ≤ 10 := fa_cnt_le _ _
  have ec : fa_cnt (fun jj => (ridS dd).testBit jj) 10 = rk dd 10 := rfl
  unfold f_X7_worst f_X8_worst
  rcases R_inC v1 0 9 (by omega) (by omega) with ⟨e1, sl, -, hs, rfl⟩ | ⟨e1, e2⟩
  rotate_left
  · rw [show f_X8_in v1.toInt64 (0 : Int64) (9 : Int64) = some 0 from e1, b1_eq, if_pos rfl]
    rcases e2 with e2 | ⟨jj, e3, rfl, e4⟩
    · rw [if_pos e2]
      exact stay _
    · rw [if_neg (nI_pos e3), if_pos (show (9 : Int32) < nI jj from nI_lt (a := 9) (by omega) e3)]
      exact stay _
  rw [show f_X8_in (nI sl).toInt64 (0 : Int64) (9 : Int64) = some 1 from e1, b1_eq, if_neg n10', if_neg (nI_pos (show sl < 2 ^ 31 by omega)), if_neg (show ¬ (9 : Int32) < nI sl from nI_nlt (a := 9) hs (by omega))]
  rcases R_inC v2 0 1 (by omega) (by omega) with ⟨e1, wh, -, hwh, rfl⟩ | ⟨e1, e2⟩
  rotate_left
  · rw [show f_X8_in v2.toInt64 (0 : Int64) (1 : Int64) = some 0 from e1, b1_eq, if_pos rfl]
    rcases e2 with e2 | ⟨jj, e3, rfl, e4⟩
    · rw [if_pos e2]
      exact stay _
    · rw [if_neg (nI_pos e3), if_neg (show ¬ nI jj ≤ (1 : Int32) from nI_ge (a := 1) (by omega) e3)]
      exact stay _
  rw [show f_X8_in (nI wh).toInt64 (0 : Int64) (1 : Int64) = some 1 from e1, b1_eq, if_neg n10', if_neg (nI_pos (show wh < 2 ^ 31 by omega)), if_pos (show nI wh ≤ (1 : Int32) from nI_le (b := 1) hwh (by omega)), C_rides hC hO (by omega), b1_eq, bc_ok _ hr, b1_eq, R_count4 hR.x hO (by omega), b1_eq, R_ones hr (by omega), b1_eq, ec]
  by_cases q : rk dd 10 ≤ 8
  · have g8 : nI (rk dd 10) ≤ (8 : Int32) := nI_le (b := 8) q (by omega)
    rw [if_pos g8, if_pos g8]
    obtain ⟨t2, u2, lw, a1, a2, hW, hc, hrr, ow, B1, gA, gB⟩ := m_find h0 hs q hn
    rw [a1, a2, b1_eq, b1_eq, C_whole B1 ow, C_root B1 ow, b1_eq, b1_eq, gA, gB]
    rcases (show wh = 0 ∨ wh = 1 by omega) with rfl | rfl
    · rw [if_pos (show nI 0 = (0 : Int32) from rfl), if_pos (show nI 0 = (0 : Int32) from rfl)]
      exact ⟨_, _, _, dd, rfl, rfl, hW, hc, hrr⟩
    · rw [if_neg (show ¬ nI 1 = (0 : Int32) by decide), if_neg (show ¬ nI 1 = (0 : Int32) by decide)]
      exact ⟨_, _, _, dd, rfl, rfl, hW, hc, hrr⟩
  · have g8 : ¬ nI (rk dd 10) ≤ (8 : Int32) := nI_ge (a := 8) (by omega) (by omega)
    rw [if_neg g8, if_neg g8]
    exact stay _
