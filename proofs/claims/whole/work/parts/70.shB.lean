/-! sheets: a new one, film, copy -/
theorem C_renew {tt : MM} {k0 nn : Nat} (hn : 24 < nn) (v1 v2 : Int32) : ∃ t2, f_X3_renew nn tt k0 v1 v2 = some t2 ∧ (∀ kk, kk ≠ k0 → kk ≠ k0 + 1 → t2 kk = tt kk) ∧ (∀ jj, jj < 24 → t2 (k0 + 1) jj = 0) ∧ t2 k0 1 = 1 ∧ t2 k0 2 = v1 ∧ t2 k0 3 = v2 := by
  obtain ⟨xx, h1, h2⟩ := it2_inv (bb := lb_X3_renew_2 nn k0 v1 v2) (fun ii v3 t2 => v3 = nI ii ∧ (∀ kk, kk ≠ k0 + 1 → t2 kk = tt kk) ∧ (∀ jj, jj < ii → t2 (k0 + 1) jj = 0)) 24 (fun t2 => (∀ kk, kk ≠ k0 + 1 → t2 kk = tt kk) ∧ (∀ jj, jj < 24 → t2 (k0 + 1) jj = 0)) (by
    rintro ii v3 t2 hle ⟨rfl, f1, f2⟩
    unfold lb_X3_renew_2
    by_cases q : ii < 24
    · rw [if_neg (show ¬ (24 : Int32) ≤ nI ii from nI_ge (b := 24) q (by omega)), ix_nI q (by omega), nI_clamp (show ii < 2 ^ 31 by omega), nm_eq, nm_eq, nI_1]
      refine Or.inl ⟨q, _, _, rfl, rfl, fun kk hk => by rw [st1_ne hk]; exact f1 kk hk, fun jj hj => ?_⟩
      rw [st1_at]
      by_cases q2 : jj = ii
      · rw [if_pos q2]
      · rw [if_neg q2]; exact f2 jj (by omega)
    · have e : ii = 24 := by omega
      subst e
      rw [if_pos (show (24 : Int32) ≤ nI 24 by decide)]
      exact Or.inr ⟨_, rfl, f1, f2⟩) nn 0 tt (by omega) ⟨rfl, fun _ _ => rfl, fun jj hj => absurd hj (by omega)⟩
  obtain ⟨f1, f2⟩ := h2
  refine ⟨st1 (st1 (st1 xx k0 1 (1 : Int32)) k0 2 v1) k0 3 v2, ?_, fun kk h3 h4 => ?_, fun jj hj => ?_, ?_, ?_, ?_⟩
  · unfold f_X3_renew
    rw [h1]
    rfl
  · rw [st1_ne h3, st1_ne h3, st1_ne h3]; exact f1 kk h4
  · rw [st1_ne (by omega), st1_ne (by omega), st1_ne (by omega)]; exact f2 jj hj
  · rw [st1_o (by omega), st1_o (by omega), st1_s]
  · rw [st1_o (by omega), st1_s]
  · rw [st1_s]
theorem R_renew {uu : SR} {ii nn : Nat} {v3 : Int32} (hi : ii < 4) (hn : 24 < nn) : ∃ w2, it2 (lb_X8_sheet_40 nn (nI ii) v3) nn (0 : Int32) uu = some w2 ∧ (∀ kk, kk ≠ 56 → w2.1 kk = uu.1 kk) ∧ (∀ jj, jj < 24 → w2.1 56 (24 * ii + jj) = 0) ∧ (∀ xx, xx < 24 * ii ∨ 24 * ii + 24 ≤ xx → w2.1 56 xx = uu.1 56 xx) :=
  it2_inv (bb := lb_X8_sheet_40 nn (nI ii) v3) (fun kx v4 w2 => v4 = nI kx ∧ (∀ kk, kk ≠ 56 → w2.1 kk = uu.1 kk) ∧ (∀ jj, jj < kx → w2.1 56 (24 * ii + jj) = 0) ∧ (∀ xx, xx < 24 * ii ∨ 24 * ii + 24 ≤ xx → w2.1 56 xx = uu.1 56 xx)) 24 (fun w2 => (∀ kk, kk ≠ 56 → w2.1 kk = uu.1 kk) ∧ (∀ jj, jj < 24 → w2.1 56 (24 * ii + jj) = 0) ∧ (∀ xx, xx < 24 * ii ∨ 24 * ii + 24 ≤ xx → w2.1 56 xx = uu.1 56 xx)) (by
    rintro kx v4 w2 hle ⟨rfl, f1, f2, f3⟩
    unfold lb_X8_sheet_40
    by_cases q : kx < 24
    · rw [if_neg (show ¬ (24 : Int32) ≤ nI kx from nI_ge (b := 24) q (by omega)), it_ix, ix_nI (show 24 * ii + kx < 96 by omega) (by omega), nI_clamp (show 24 * ii + kx < 2 ^ 31 by omega), nm_eq, nm_eq, nI_1]
      refine Or.inl ⟨q, _, _, rfl, rfl, fun kk hk => by rw [sr1_ne hk]; exact f1 kk hk, fun jj hj => ?_, fun xx hx => ?_⟩
      · rw [sr1_at]
        by_cases q2 : jj = kx
        · rw [if_pos (by omega)]
        · rw [if_neg (by omega)]; exact f2 jj (by omega)
      · rw [sr1_at, if_neg (by omega)]; exact f3 xx hx
    · have e : kx = 24 := by omega
      subst e
      rw [if_pos (show (24 : Int32) ≤ nI 24 by decide)]
      exact Or.inr ⟨_, rfl, f1, f2, f3⟩) nn 0 uu (by omega) ⟨rfl, fun _ _ => rfl, fun jj hj => absurd hj (by omega), fun _ _ => rfl⟩
theorem m_sheet {tt : MM} {uu : SR} {nn : Nat} (h : SH tt uu) (hn : 24 < nn) (v1 v2 v3 : Int32) : GoodS tt uu (f_X7_sheet nn tt v1 v2 v3) (f_X8_sheet nn uu v1 v2 v3) := by
  have stay : ∀ vv : Int32, GoodS tt uu (some (vv, tt)) (some (vv, uu)) := fun vv => ⟨_, _, _, rfl, rfl, h, CS0.rf, RS0.rf⟩
  unfold f_X7_sheet f_X8_sheet f_X8_isSheet
  rcases sh_is v1 with ⟨ii, hi, rfl, a1, a2⟩ | ⟨a1, a2⟩
  · rcases ln_is v2 with ⟨la, hla, rfl, d1, d2, d3⟩ | ⟨d1, d3⟩
    · rw [a1, a2, d3]
      simp only [b1_eq, if_neg n10', if_neg d1, if_neg (fa_of_lt d2).2.1, ix_nI hi (show 4 < 2 ^ 31 by omega), nI_clamp (show ii < 2 ^ 31 by omega), nm_eq]
      by_cases q1 : v3 ≤ (24 : Int32)
      · rw [if_pos q1, if_pos q1]
        by_cases q2 : 0 ≤ v3
        · rw [if_pos q2, if_pos q2]
          obtain ⟨ln, hl, rfl⟩ : ∃ ln : Nat, ln ≤ 24 ∧ v3 = nI ln := by
            rcases cases32 v3 with ⟨z1, z2⟩ | ⟨kk, hk, rfl⟩
            · exact absurd q2 (fa_of_lt z1).2.1
            · exact ⟨kk, (nI_leI (b := 24) hk (by omega)).mp q1, rfl⟩
          obtain ⟨t2, e1, f1, f2, f3, f4, f5⟩ := C_renew (tt := tt) (k0 := 30 + 2 * ii) hn (nI la) (nI ln)
          obtain ⟨w2, e2, g1, g2, g3⟩ := R_renew (uu := sr1 (sr1 uu 54 ii (nI la)) 55 ii (nI ln)) (v3 := nI ln) hi hn
          rw [e1, e2, b1_eq, b1_eq]
          refine ⟨_, _, _, rfl, rfl, fun xx hx => ?_, fun kk hk => f1 kk (by omega) (by omega), ⟨fun kk hk => by rw [g1 kk (by omega), sr1_ne (by omega), sr1_ne (by omega)], fun jj hj => by rw [g1 39 (by omega), sr1_ne (by omega), sr1_ne (by omega)]⟩⟩
          obtain ⟨l2, hl2, m3, m55, mh, mit⟩ := h xx hx
          unfold SHi
          rw [g1 54 (by omega), g1 55 (by omega), sr1_ne (show 54 ≠ 55 by omega)]
          by_cases q : xx = ii
          · subst q
            exact ⟨ln, hl, f5, by rw [sr1_s], Or.inr ⟨f3, la, hla, f4, by rw [sr1_s]⟩, fun jj hj => by rw [f2 jj hj, g2 jj hj]⟩
          · refine ⟨l2, hl2, by rw [f1 _ (by omega) (by omega)]; exact m3, by rw [sr1_o q, sr1_ne (by omega)]; exact m55, by rw [f1 _ (by omega) (by omega), sr1_o q]; exact mh, fun jj hj => ?_⟩
            rw [f1 _ (by omega) (by omega), g3 _ (by omega), sr1_ne (by omega), sr1_ne (by omega)]
            exact mit jj hj
        · rw [if_neg q2, if_neg q2]
          exact stay _
      · rw [if_neg q1, if_neg q1]
        exact stay _
    · rw [a1, a2, d3]
      simp only [b1_eq, if_neg n10', if_true]
      rcases d1 with d1 | ⟨d1, d2⟩
      · rw [if_pos d1]
        exact stay _
      · rw [if_neg d1, if_pos (fa_of_nlt d2)]
        exact stay _
  · rw [a1, a2]
    exact stay _
theorem CW.s0 {tt ww : MM} {dd : WD} (h : CW tt dd) (hf : CS0 tt ww) : CW ww dd := by
  unfold CW at h ⊢
  rw [hf 1 (by omega), hf 2 (by omega), hf 3 (by omega), hf 4 (by omega), hf 5 (by omega), hf 6 (by omega)]
  exact h
theorem RW.s0 {uu ww : SR} {dd : WD} (h : RW uu dd) (hf : RS0 uu ww) : RW ww dd := by
  unfold RW at h ⊢
  rw [hf.1 40 (by omega), hf.1 41 (by omega), hf.1 42 (by omega), hf.1 43 (by omega), hf.1 44 (by omega), hf.2 4 (by omega), hf.2 6 (by omega), hf.2 7 (by omega), hf.2 8 (by omega)]
  exact h
theorem ld_nat {dd : WD} {cc : Nat} (hc : cc < 12) : nI (dsd dd cc + wsum dd (whoAt dd cc)) = iI (ldA dd cc) := by
  rw [ldA_pf dd hc, ← iI_nat]
  unfold wsum
  rw [nsum_cong (ff := wf dd (whoAt dd cc)) (gg := pf dd cc) (dN dd) (fun ii hi => by
    unfold wf pf whoAt
    rw [setOf_bit]
    simp [hi]), Int.natCast_add]
theorem m_film {tt : MM} {uu : SR} {dd : WD} {nn : Nat} (hW : WR tt uu dd) (h : SH tt uu) (hn : 24 < nn) (v1 v2 v3 : Int32) : GoodS tt uu (f_X7_film nn tt v1 v2 v3) (f_X8_film nn uu v1 v2 v3) := by
  obtain ⟨hC, hR, hO, hfit⟩ := hW
  unfold f_X7_film f_X8_film
  rcases m_row h (ww := 12) (w32 := 12) (by omega) rfl v1 v2 v3 with ⟨ii, la, fr, ln, hi, hla, hl, hfr, rfl, rfl, rfl, k2, k3, a1, a2, a3⟩ | ⟨no, hno, a1, a2⟩
  · obtain ⟨w1, e1, F1', L1⟩ := R_loads hR.x hO (show 13 < nn by omega)
    rw [a1, a2, b1_eq, b1_eq, if_pos rfl, if_neg n10', a3, b1_eq, if_pos (show (0 : Int32) ≤ 0 by decide), e1, b1_eq]
    have hS1 : SH tt w1 := h.cong (fun _ _ _ => rfl) (fun kk h1 h2 => F1'.1 kk (by omega) (by omega))
    obtain ⟨t2, u2, l1, l2, hS, hcs, hrs⟩ := lock22 (bb := lb_X7_film_22 nn (nI ii) (nI fr)) (cc := lb_X8_film_36 nn (nI ii) (nI la) (nI fr)) (fun kx v5 t2 w5 u2 => v5 = nI kx ∧ w5 = nI kx ∧ SH t2 u2 ∧ CS0 tt t2 ∧ RS0 uu u2 ∧ u2.1 45 = w1.1 45 ∧ t2 (30 + 2 * ii) = tt (30 + 2 * ii)) 12 (fun t2 u2 => SH t2 u2 ∧ CS0 tt t2 ∧ RS0 uu u2) (by
      rintro kx v5 t2 w5 u2 hle ⟨rfl, rfl, hS, hcs, hrs, h45, h30⟩
      by_cases q : kx < 12
      · left
        have g1 : ¬ (12 : Int32) ≤ nI kx := nI_ge (b := 12) q (by omega)
        refine ⟨q, nI (kx + 1), st1 t2 (30 + 2 * ii + 1) (fr + kx) (asL la (iI (ldA dd kx))), nI (kx + 1), sr1 u2 56 (24 * ii + (fr + kx)) (asL la (iI (ldA dd kx))), ?_, ?_, rfl, rfl, hS.wr hi (by omega), hcs.s1 (by omega), hrs.s1 (by omega), ?_, ?_⟩
        · unfold lb_X7_film_22
          rw [if_neg g1, ix_nI hi (by omega), C_load (hC.s0 hcs) hO (by omega) q, b1_eq, ld_nat q, nI_clamp (show ii < 2 ^ 31 by omega), nI_add, C_write (ln := ln) (la := la) (by rw [h30]; exact k2) (by rw [h30]; exact k3) hla (by omega) hl, b1_eq, nm_eq, nI_1]
        · unfold lb_X8_film_36
          rw [if_neg g1, ix_nI q (by omega), nI_clamp (show kx < 2 ^ 31 by omega), h45, L1 kx q, R_asL hla, b1_eq, it_ix, nI_add, ix_nI (show 24 * ii + fr + kx < 96 by omega) (by omega), nI_clamp (show 24 * ii + fr + kx < 2 ^ 31 by omega), nm_eq, nm_eq, nI_1, Nat.add_assoc]
        · rw [sr1_ne (by omega)]; exact h45
        · rw [st1_ne (by omega)]; exact h30
      · right
        have e : kx = 12 := by omega
        subst e
        have g1 : (12 : Int32) ≤ nI 12 := by decide
        refine ⟨t2, u2, fun kk hk => it2_out ?_ kk (by omega), fun kk hk => it2_out ?_ kk (by omega), hS, hcs, hrs⟩
        · unfold lb_X7_film_22
          rw [if_pos g1]
        · unfold lb_X8_film_36
          rw [if_pos g1]) nn 0 tt 0 w1 (by omega) ⟨rfl, rfl, hS1, CS0.rf, F1'.s0, rfl, rfl⟩
    rw [l1, l2, b1_eq, b1_eq]
    exact ⟨_, _, _, rfl, rfl, hS, hcs, hrs⟩
  · rw [a1, b1_eq, if_neg (fun z => by rw [z] at hno; exact absurd hno (by decide))]
    rcases a2 with ⟨a2, rfl⟩ | ⟨a2, a3⟩
    · rw [a2, b1_eq, if_pos rfl]
      exact ⟨_, _, _, rfl, rfl, h, CS0.rf, RS0.rf⟩
    · rw [a2, b1_eq, if_neg n10', a3, b1_eq, if_neg (fun z => (fa_of_lt hno).2.1 z)]
      exact ⟨_, _, _, rfl, rfl, h, CS0.rf, RS0.rf⟩
theorem R_cp1 {uu : SR} {sf ps mm nn : Nat} {v3 v4 : Int32} (hs : sf < 4) (hp : ps + mm ≤ 24) (hn : 26 < nn) : ∃ w2, it2 (lb_X8_copy_117 nn (nI sf) (nI ps) v3 v4 (nI mm)) nn (0 : Int32) uu = some w2 ∧ (∀ kk, kk ≠ 57 → w2.1 kk = uu.1 kk) ∧ (∀ jj, jj < mm → w2.1 57 jj = uu.1 56 (24 * sf + ps + jj)) :=
  it2_inv (bb := lb_X8_copy_117 nn (nI sf) (nI ps) v3 v4 (nI mm)) (fun kx v6 w2 => v6 = nI kx ∧ (∀ kk, kk ≠ 57 → w2.1 kk = uu.1 kk) ∧ (∀ jj, jj < kx → w2.1 57 jj = uu.1 56 (24 * sf + ps + jj))) mm (fun w2 => (∀ kk, kk ≠ 57 → w2.1 kk = uu.1 kk) ∧ (∀ jj, jj < mm → w2.1 57 jj = uu.1 56 (24 * sf + ps + jj))) (by
    rintro kx v6 w2 hle ⟨rfl, f1, f2⟩
    unfold lb_X8_copy_117
    by_cases q : kx < mm
    · rw [if_neg (nI_ge q (by omega)), it_ix, nI_add, ix_nI (show 24 * sf + ps + kx < 96 by omega) (by omega), ix_nI (show kx < 24 by omega) (by omega), nI_clamp (show 24 * sf + ps + kx < 2 ^ 31 by omega), nI_clamp (show kx < 2 ^ 31 by omega), nm_eq, nm_eq, nI_1]
      refine Or.inl ⟨q, _, _, rfl, rfl, fun kk hk => by rw [sr1_ne hk]; exact f1 kk hk, fun jj hj => ?_⟩
      rw [sr1_at]
      by_cases q2 : jj = kx
      · rw [if_pos q2, f1 56 (by omega), q2]
      · rw [if_neg q2]; exact f2 jj (by omega)
    · rw [if_pos (nI_le (by omega) (by omega))]
      exact Or.inr ⟨_, rfl, f1, fun jj hj => f2 jj (by omega)⟩) nn 0 uu (by omega) ⟨rfl, fun _ _ => rfl, fun jj hj => absurd hj (by omega)⟩
theorem R_cp2 {uu : SR} {sf ps mm nn : Nat} (hs : sf < 4) (hp : ps + mm ≤ 24) (hn : 26 < nn) : ∃ w2, it2 (lb_X8_copy_154 nn (nI sf) (nI ps) (nI mm)) nn (0 : Int32) uu = some w2 ∧ (∀ kk, kk ≠ 56 → w2.1 kk = uu.1 kk) ∧ (∀ xx, w2.1 56 xx = if 24 * sf + ps ≤ xx ∧ xx < 24 * sf + ps + mm then uu.1 57 (xx - (24 * sf + ps)) else uu.1 56 xx) :=
  it2_inv (bb := lb_X8_copy_154 nn (nI sf) (nI ps) (nI mm)) (fun kx v6 w2 => v6 = nI kx ∧ (∀ kk, kk ≠ 56 → w2.1 kk = uu.1 kk) ∧ (∀ xx, w2.1 56 xx = if 24 * sf + ps ≤ xx ∧ xx < 24 * sf + ps + kx then uu.1 57 (xx - (24 * sf + ps)) else uu.1 56 xx)) mm (fun w2 => (∀ kk, kk ≠ 56 → w2.1 kk = uu.1 kk) ∧ (∀ xx, w2.1 56 xx = if 24 * sf + ps ≤ xx ∧ xx < 24 * sf + ps + mm then uu.1 57 (xx - (24 * sf + ps)) else uu.1 56 xx)) (by
    rintro kx v6 w2 hle ⟨rfl, f1, f2⟩
    unfold lb_X8_copy_154
    by_cases q : kx < mm
    · rw [if_neg (nI_ge q (by omega)), it_ix, nI_add, ix_nI (show kx < 24 by omega) (by omega), ix_nI (show 24 * sf + ps + kx < 96 by omega) (by omega), nI_clamp (show 24 * sf + ps + kx < 2 ^ 31 by omega), nI_clamp (show kx < 2 ^ 31 by omega), nm_eq, nm_eq, nI_1]
      refine Or.inl ⟨q, _, _, rfl, rfl, fun kk hk => by rw [sr1_ne hk]; exact f1 kk hk, fun xx => ?_⟩
      rw [sr1_at]
      by_cases q2 : xx = 24 * sf + ps + kx
      · rw [if_pos q2, if_pos (by omega), f1 57 (by omega), show xx - (24 * sf + ps) = kx by omega]
      · rw [if_neg q2, f2 xx]
        by_cases q3 : 24 * sf + ps ≤ xx ∧ xx < 24 * sf + ps + kx
        · rw [if_pos q3, if_pos (by omega)]
        · rw [if_neg q3, if_neg (by omega)]
    · have e : kx = mm := by omega
      subst e
      rw [if_pos (nI_le (by omega) (by omega))]
      exact Or.inr ⟨_, rfl, f1, f2⟩) nn 0 uu (by omega) ⟨rfl, fun _ _ => rfl, fun xx => by rw [if_neg (by omega)]⟩
theorem R_partL {vv : Int32} {ln ww : Nat} (hl : ln ≤ 24) (hw : ww < 2 ^ 31) : f_X8_in vv.toInt64 (0 : Int64) ((nI ln).toInt64 - (nI ww).toInt64) = some (if 0 ≤ vv.toInt ∧ vv.toInt ≤ (ln : Int) - (ww : Int) then 1 else 0) := by
  rw [nI_wid (kk := ln) (by omega), nI_wid (kk := ww) hw, lI_sub, i64_0, R_inI vv (by omega) (by omega)]
/-- a part of a sheet, both at once -/
theorem m_part {tt : MM} {k0 ln ww : Nat} (h3 : tt k0 3 = nI ln) (hl : ln ≤ 24) (hw : ww < 2 ^ 31) (vv : Int32) : (∃ fr, vv = nI fr ∧ fr + ww ≤ ln ∧ f_X3_hasPart tt k0 vv (nI ww) = some 1 ∧ f_X8_in vv.toInt64 (0 : Int64) ((nI ln).toInt64 - (nI ww).toInt64) = some 1) ∨ (f_X3_hasPart tt k0 vv (nI ww) = some 0 ∧ f_X8_in vv.toInt64 (0 : Int64) ((nI ln).toInt64 - (nI ww).toInt64) = some 0) := by
  rw [R_partL hl hw]
  rcases cases32 vv with ⟨q1, q2⟩ | ⟨fr, hf, rfl⟩
  · right
    rw [C_partM q1, if_neg (show ¬ (0 ≤ vv.toInt ∧ vv.toInt ≤ (ln : Int) - (ww : Int)) by omega)]
    exact ⟨rfl, rfl⟩
  · rw [C_part h3 hl hf hw, nI_toInt hf]
    by_cases q3 : fr + ww ≤ ln
    · left
      rw [if_pos q3, if_pos (show 0 ≤ (fr : Int) ∧ (fr : Int) ≤ (ln : Int) - (ww : Int) by omega)]
      exact ⟨fr, rfl, q3, rfl, rfl⟩
    · right
      rw [if_neg q3, if_neg (show ¬ (0 ≤ (fr : Int) ∧ (fr : Int) ≤ (ln : Int) - (ww : Int)) by omega)]
      exact ⟨rfl, rfl⟩
theorem m_copy {tt : MM} {uu : SR} {nn : Nat} (h : SH tt uu) (hn : 26 < nn) (v1 v2 v3 v4 v5 : Int32) : GoodS tt uu (f_X7_copy tt v1 v2 v3 v4 v5) (f_X8_copy nn uu v1 v2 v3 v4 v5) := by
  have stay : ∀ vv : Int32, GoodS tt uu (some (vv, tt)) (some (vv, uu)) := fun vv => ⟨_, _, _, rfl, rfl, h, CS0.rf, RS0.rf⟩
  unfold f_X7_copy f_X8_copy
  rcases sh_is v1 with ⟨ii, hi, rfl, a1, a2⟩ | ⟨a1, a2⟩
  rotate_left
  · rw [a1, a2]
    exact stay _
  rcases sh_is v3 with ⟨xx, hx, rfl, d1, d2⟩ | ⟨d1, d2⟩
  rotate_left
  · rw [a1, a2, b1_eq, b1_eq, if_neg n10', if_neg n10', d1, d2]
    exact stay _
  obtain ⟨ln, hl, k3, k55, hh, hit⟩ := h ii hi
  obtain ⟨lm2, hl2, m3, m55, mh, mit⟩ := h xx hx
  rw [a1, a2, d1, d2]
  simp only [b1_eq, if_neg n10', ix_nI hi (show 4 < 2 ^ 31 by omega), ix_nI hx (show 4 < 2 ^ 31 by omega), nI_clamp (show ii < 2 ^ 31 by omega), nI_clamp (show xx < 2 ^ 31 by omega), k55, m55]
  rcases hh with ⟨k1, k54⟩ | ⟨k1, la, hla, k2, k54⟩
  · rw [k1, k54, if_pos rfl, if_pos (show (-1 : Int32) < 0 by decide)]
    exact stay _
  rw [k1, k54, if_neg n10', if_neg (nI_pos (show la < 2 ^ 31 by omega))]
  rcases mh with ⟨m1, m54⟩ | ⟨m1, lb, hlb, m2, m54⟩
  · rw [m1, m54, if_pos rfl, if_neg (show ¬ (0 : Int32) ≤ -1 by decide)]
    exact stay _
  rw [m1, m54, if_neg n10', if_pos (nI_pos' (show lb < 2 ^ 31 by omega)), k2, m2]
  by_cases q : nI la = nI lb
  rotate_left
  · rw [if_neg q, if_neg q]
    exact stay _
  rw [if_pos q, if_pos q]
  rcases cases32 v5 with ⟨q1, -⟩ | ⟨mm, hm, rfl⟩
  · rw [C_partN q1, if_pos q1, b1_eq, if_pos rfl]
    exact stay _
  rw [if_neg (nI_pos hm)]
  rcases m_part k3 hl hm v2 with ⟨fr, rfl, hfr, p1, p2⟩ | ⟨p1, p2⟩
  rotate_left
  · rw [p1, p2]
    exact stay _
  rcases m_part m3 hl2 hm v4 with ⟨gr, rfl, hgr, p3, p4⟩ | ⟨p3, p4⟩
  rotate_left
  · rw [p1, p2, b1_eq, b1_eq, if_neg n10', if_neg n10', p3, p4]
    exact stay _
  rw [p1, p2, b1_eq, b1_eq, if_neg n10', if_neg n10', p3, p4, b1_eq, b1_eq, if_neg n10', if_neg n10']
  obtain ⟨w1, e1, f1, f2⟩ := R_cp1 (uu := uu) (v3 := nI xx) (v4 := nI gr) hi (show fr + mm ≤ 24 by omega) hn
  obtain ⟨w2, e2, g1, g2⟩ := R_cp2 (uu := w1) hx (show gr + mm ≤ 24 by omega) hn
  have hcp : ∀ {B : Type} (aa : Option B), cpk (nI fr) (nI gr) (nI mm) 24 24 aa = aa := by
    intro B aa
    unfold cpk
    rw [nI_clamp (show fr < 2 ^ 31 by omega), nI_clamp (show gr < 2 ^ 31 by omega), nI_clamp hm, if_neg]
    intro z
    rcases z with z | z | z | z | z
    · exact nI_pos (by omega) z
    · exact nI_pos (by omega) z
    · exact nI_pos (by omega) z
    · omega
    · omega
  rw [e1, b1_eq, e2, b1_eq, hcp, nm_eq, nI_clamp (show fr < 2 ^ 31 by omega), nI_clamp (show gr < 2 ^ 31 by omega), nI_clamp hm]
  refine ⟨_, _, _, rfl, rfl, fun yy hy => ?_, CS0.rf.sA (by omega), ⟨fun kk hk => by rw [g1 kk (by omega), f1 kk (by omega)], fun jj hj => by rw [g1 39 (by omega), f1 39 (by omega)]⟩⟩
  obtain ⟨l4, hl4, n3, n55, nh, nit⟩ := h yy hy
  refine ⟨l4, hl4, by rw [stA_ne _ _ (by omega)]; exact n3, by rw [g1 55 (by omega), f1 55 (by omega)]; exact n55, by rw [stA_ne _ _ (by omega), g1 54 (by omega), f1 54 (by omega)]; exact nh, fun jj hj => ?_⟩
  rw [g2]
  by_cases q2 : yy = xx
  · subst q2
    rw [stA_same]
    by_cases q3 : gr ≤ jj ∧ jj < gr + mm
    · rw [if_pos (by omega), pk_cpy_in q3.1 q3.2, f2 _ (by omega), hit _ (by omega), show 24 * ii + fr + (24 * yy + jj - (24 * yy + gr)) = 24 * ii + (fr + (jj - gr)) by omega]
    · rw [if_neg (by omega), pk_cpy_out (by omega), f1 56 (by omega)]
      exact nit jj hj
  · rw [stA_ne _ _ (by omega), if_neg (by omega), f1 56 (by omega)]
    exact nit jj hj
