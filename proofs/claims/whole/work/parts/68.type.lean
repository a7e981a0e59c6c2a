/-! the operation type -/
theorem sh_amt : ∀ kk, kk < 8 → ((((8 : Int32) * nI kk).toInt64.toUInt64 &&& Int64.toUInt64 63).toBitVec % 64).toNat = 8 * kk := by decide +kernel
theorem sh_amt2 : ∀ kk, kk < 8 → ((((8 : Int32) * nI kk).toInt64 &&& 63).toBitVec.smod 64).toNat = 8 * kk := by decide +kernel
theorem bit255 : ∀ jj, jj < 32 → (255 : Int32).toBitVec.getLsbD jj = decide (jj < 8) := by decide +kernel
theorem bit255L : ∀ jj, jj < 64 → (255 : Int64).toBitVec.getLsbD jj = decide (jj < 8) := by decide +kernel
def byt (xx : Int64) (kk : Nat) : Nat := (xx.toBitVec.toNat >>> (8 * kk)) % 2 ^ 8
theorem byt_lt (xx : Int64) (kk : Nat) : byt xx kk < 256 := Nat.mod_lt _ (by decide)
theorem byt_bit (xx : Int64) (kk jj : Nat) : (byt xx kk).testBit jj = (decide (jj < 8) && xx.toBitVec.getLsbD (8 * kk + jj)) := by
  unfold byt
  rw [Nat.testBit_mod_two_pow, Nat.testBit_shiftRight]
  rfl
theorem C_byte (xx : Int64) {kk : Nat} (hk : kk < 8) : f_X7_byteOf xx (nI kk) = some (nI (byt xx kk)) := by
  unfold f_X7_byteOf
  congr 1
  apply Int32.toBitVec_inj.1
  apply BitVec.eq_of_getLsbD_eq
  intro jj hj
  show (BitVec.signExtend 32 (xx.toBitVec >>> ((((8 : Int32) * nI kk).toInt64.toUInt64 &&& Int64.toUInt64 63).toBitVec % 64)) &&& (255 : Int32).toBitVec).getLsbD jj = (BitVec.ofNat 32 (byt xx kk)).getLsbD jj
  rw [BitVec.getLsbD_and, BitVec.getLsbD_signExtend, BitVec.ushiftRight_eq', BitVec.getLsbD_ushiftRight, sh_amt kk hk, bit255 jj hj, BitVec.getLsbD_ofNat, byt_bit]
  have h1 : decide (jj < 32) = true := by simpa using hj
  have h2 : jj < 64 := by omega
  rw [h1, if_pos h2]
  cases decide (jj < 8) <;> simp
theorem R_byte (xx : Int64) {kk : Nat} (hk : kk < 8) : ((xx >>> (((8 : Int32) * nI kk).toInt64 &&& 63)) &&& (255 : Int64)) = lI (byt xx kk : Int) := by
  apply Int64.toBitVec_inj.1
  apply BitVec.eq_of_getLsbD_eq
  intro jj hj
  have e1 : lI (byt xx kk : Int) = Int64.ofNat (byt xx kk) := Int64.ofInt_eq_ofNat
  rw [e1]
  show (BitVec.sshiftRight' xx.toBitVec ((((8 : Int32) * nI kk).toInt64 &&& 63).toBitVec.smod 64) &&& (255 : Int64).toBitVec).getLsbD jj = (BitVec.ofNat 64 (byt xx kk)).getLsbD jj
  rw [BitVec.getLsbD_and, BitVec.getLsbD_sshiftRight', sh_amt2 kk hk, bit255L jj hj, BitVec.getLsbD_ofNat, byt_bit]
  have h1 : decide (jj < 64) = true := by simpa using hj
  have h3 : decide (64 ≤ jj) = false := by simpa using hj
  rw [h1, h3]
  by_cases q : jj < 8
  · rw [if_pos (show 8 * kk + jj < 64 by omega)]
    have h4 : decide (jj < 8) = true := by simpa using q
    rw [h4]
    simp
  · have h4 : decide (jj < 8) = false := by simpa using q
    rw [h4]
    simp
theorem nar_id : ∀ bb, bb < 128 → vp_nar .byte (nI bb).toInt8.toInt32 = nI bb := by decide +kernel
theorem C_typ {bb : Nat} (hb : bb < 256) : f_X5_isTypable (nI bb) = some (if 32 ≤ bb ∧ bb ≤ 126 then 1 else 0) := by
  unfold f_X5_isTypable
  by_cases q : bb < 32
  · rw [if_pos (show nI bb < (32 : Int32) from nI_lt (b := 32) q (by omega)), if_neg (by omega)]
  · rw [if_neg (show ¬ nI bb < (32 : Int32) from nI_nlt (b := 32) (by omega) (by omega))]
    by_cases q2 : 126 < bb
    · rw [if_pos (show (126 : Int32) < nI bb from nI_lt (a := 126) q2 (by omega)), if_neg (by omega)]
    · rw [if_neg (show ¬ (126 : Int32) < nI bb from nI_nlt (a := 126) (by omega) (by omega)), if_pos (by omega)]
theorem R_typ {bb : Nat} (hb : bb < 256) : f_X8_in (lI (bb : Int)) (32 : Int64) (126 : Int64) = some (if 32 ≤ bb ∧ bb ≤ 126 then 1 else 0) := by
  rw [show (32 : Int64) = lI 32 by decide, show (126 : Int64) = lI 126 by decide, R_in (rg_of (by omega) (by omega)) (rg_of (by omega) (by omega)) (rg_of (by omega) (by omega))]
  by_cases q : 32 ≤ bb ∧ bb ≤ 126
  · rw [if_pos q, if_pos (by omega)]
  · rw [if_neg q, if_neg (by omega)]
abbrev okB (xx : Int64) (kk : Nat) : Prop := 32 ≤ byt xx kk ∧ byt xx kk ≤ 126
theorem down1 {kk : Nat} : nI kk + (-1 : Int32) = iI ((kk : Int) - 1) := by
  rw [← iI_nat kk, show (-1 : Int32) = iI (-1) by decide, iI_add]
  rfl
theorem iI_at {mm ii : Nat} (h : ii < mm) : iI ((mm : Int) - 1 - (ii : Int)) = nI (mm - 1 - ii) := by
  rw [← iI_nat]
  congr 1
  omega
theorem C_all {tt : MM} {xx : Int64} {nn mm : Nat} (hm : mm ≤ 8) (hn : 10 < nn) : ∃ yy, it1 (lb_X7_type_16 nn tt xx (nI mm)) nn (0 : Int32) = some yy ∧ ((yy = .inr () ∧ ∀ jj, jj < mm → okB xx jj) ∨ (yy = .inl (-1, tt) ∧ ∃ jj, jj < mm ∧ ¬ okB xx jj)) :=
  it1_inv (bb := lb_X7_type_16 nn tt xx (nI mm)) (fun ii v4 => v4 = nI ii ∧ ∀ jj, jj < ii → okB xx jj) mm (fun yy => (yy = .inr () ∧ ∀ jj, jj < mm → okB xx jj) ∨ (yy = .inl (-1, tt) ∧ ∃ jj, jj < mm ∧ ¬ okB xx jj)) (by
    rintro ii v4 hle ⟨rfl, hall⟩
    unfold lb_X7_type_16
    by_cases q : ii < mm
    · rw [if_neg (nI_ge q (by omega)), C_byte xx (show ii < 8 by omega), b1_eq, C_typ (byt_lt xx ii), b1_eq, ifp01]
      by_cases q2 : 32 ≤ byt xx ii ∧ byt xx ii ≤ 126
      · rw [if_pos q2, nm_eq, nI_1]
        refine Or.inl ⟨q, _, rfl, rfl, fun jj hj => ?_⟩
        by_cases q3 : jj = ii
        · subst q3; exact q2
        · exact hall jj (by omega)
      · rw [if_neg q2]
        exact Or.inr ⟨_, rfl, Or.inr ⟨rfl, ii, q, q2⟩⟩
    · rw [if_pos (nI_le (by omega) (by omega))]
      exact Or.inr ⟨_, rfl, Or.inl ⟨rfl, fun jj hj => hall jj (by omega)⟩⟩) nn 0 (by omega) ⟨rfl, fun jj hj => absurd hj (by omega)⟩
theorem R_all {uu : SR} {xx : Int64} {nn mm : Nat} {v3 : Int32} (hm : mm ≤ 8) (hn : 10 < nn) : ∃ yy, it1 (lb_X8_type_19 nn uu xx v3) nn (iI ((mm : Int) - 1)) = some yy ∧ ((yy = .inr () ∧ ∀ jj, jj < mm → okB xx jj) ∨ (yy = .inl (-1, uu) ∧ ∃ jj, jj < mm ∧ ¬ okB xx jj)) :=
  it1_inv (bb := lb_X8_type_19 nn uu xx v3) (fun ii v4 => v4 = iI ((mm : Int) - 1 - (ii : Int)) ∧ ∀ jj, mm - ii ≤ jj → jj < mm → okB xx jj) mm (fun yy => (yy = .inr () ∧ ∀ jj, jj < mm → okB xx jj) ∨ (yy = .inl (-1, uu) ∧ ∃ jj, jj < mm ∧ ¬ okB xx jj)) (by
    rintro ii v4 hle ⟨rfl, hall⟩
    unfold lb_X8_type_19
    by_cases q : ii < mm
    · rw [iI_at q, if_neg (nI_pos (by omega)), R_byte xx (show mm - 1 - ii < 8 by omega), R_typ (byt_lt xx _), b1_eq, ifp01]
      by_cases q2 : 32 ≤ byt xx (mm - 1 - ii) ∧ byt xx (mm - 1 - ii) ≤ 126
      · rw [if_pos q2, nm_eq, down1]
        refine Or.inl ⟨q, _, rfl, ?_, fun jj h1 h2 => ?_⟩
        · congr 1
          omega
        · by_cases q3 : jj = mm - 1 - ii
          · subst q3; exact q2
          · exact hall jj (by omega) h2
      · rw [if_neg q2]
        exact Or.inr ⟨_, rfl, Or.inr ⟨rfl, mm - 1 - ii, by omega, q2⟩⟩
    · have e : ii = mm := by omega
      subst e
      have hlt : iI ((ii : Int) - 1 - (ii : Int)) < 0 := by
        rw [show (ii : Int) - 1 - (ii : Int) = -1 by omega]
        decide
      rw [if_pos hlt]
      exact Or.inr ⟨_, rfl, Or.inl ⟨rfl, fun jj hj => hall jj (by omega) hj⟩⟩) nn (iI ((mm : Int) - 1)) (by omega) ⟨by congr 1; omega, fun jj h1 h2 => by omega⟩
def TF (tt : MM) (uu : SR) (bt : Nat → Nat) (ln : Nat) : Prop := TB bt ln ∧ tt 13 2 = nI ln ∧ (∀ jj, jj < ln → tt 14 jj = nI (bt jj)) ∧ uu.1 39 17 = nI ln ∧ (∀ jj, jj < ln → uu.1 46 jj = nI (bt jj))
def TFr (tt ww : MM) (uu zz : SR) : Prop := (∀ kk, kk ≠ 13 → kk ≠ 14 → ww kk = tt kk) ∧ (∀ kk, kk ≠ 39 → kk ≠ 46 → zz.1 kk = uu.1 kk) ∧ (∀ jj, jj ≠ 17 → zz.1 39 jj = uu.1 39 jj)
theorem m_writes {t0 : MM} {u0 : SR} {b0 : Nat → Nat} {xx : Int64} {nn mm ln : Nat} (hm : mm ≤ 8) (hn : 20 < nn) (hF : TF t0 u0 b0 ln) (hln : ln + mm ≤ 120) (hall : ∀ jj, jj < mm → okB xx jj) : ∃ t2 u2, it2 (lb_X7_type_64 nn xx) nn (iI ((mm : Int) - 1)) t0 = some t2 ∧ it2 (lb_X8_type_74 nn xx) nn (iI ((mm : Int) - 1)) u0 = some u2 ∧ (∃ bt, TF t2 u2 bt (ln + mm)) ∧ TFr t0 t2 u0 u2 :=
  lock22 (bb := lb_X7_type_64 nn xx) (cc := lb_X8_type_74 nn xx) (fun ii v4 t2 w4 u2 => v4 = iI ((mm : Int) - 1 - (ii : Int)) ∧ w4 = iI ((mm : Int) - 1 - (ii : Int)) ∧ (∃ bt, TF t2 u2 bt (ln + ii)) ∧ TFr t0 t2 u0 u2) mm (fun t2 u2 => (∃ bt, TF t2 u2 bt (ln + mm)) ∧ TFr t0 t2 u0 u2) (by
    rintro ii v4 t2 w4 u2 hle ⟨rfl, rfl, ⟨bt, hB, c1, c2, r1, r2⟩, f1, f2, f3⟩
    by_cases q : ii < mm
    · left
      have hk : mm - 1 - ii < 8 := by omega
      have ok := hall (mm - 1 - ii) (by omega)
      generalize hbb : byt xx (mm - 1 - ii) = bb at ok
      have hl1 : ln + ii < 120 := by omega
      have nx : nI (mm - 1 - ii) + (-1 : Int32) = iI ((mm : Int) - 1 - ((ii + 1 : Nat) : Int)) := by
        rw [down1]
        congr 1
        omega
      refine ⟨q, _, st1 (st1 t2 14 (ln + ii) (nI bb)) 13 2 (nI (ln + ii + 1)), _, sr1 (sr1 u2 46 (ln + ii) (nI bb)) 39 17 (nI (ln + ii + 1)), ?_, ?_, rfl, rfl, ⟨fun jj => if jj = ln + ii then bb else bt jj, ⟨by omega, fun jj hj => ?_⟩, by rw [st1_s]; rfl, fun jj hj => ?_, by rw [sr1_s]; rfl, fun jj hj => ?_⟩, fun kk h1 h2 => ?_, fun kk h1 h2 => ?_, fun jj h1 => ?_⟩
      · unfold lb_X7_type_64 f_X5_append
        rw [iI_at q, if_neg (nI_pos (by omega)), C_byte xx hk, b1_eq, hbb, c1, if_neg (show ¬ (120 : Int32) ≤ nI (ln + ii) from nI_ge (b := 120) hl1 (by omega)), ix_nI hl1 (by omega), nm_eq, nI_clamp (show ln + ii < 2 ^ 31 by omega), nar_id bb (by omega), nm_eq, st1_ne (show 13 ≠ 14 by omega), c1, nI_1, b1_eq, nm_eq, nx]
      · unfold lb_X8_type_74
        rw [iI_at q, if_neg (nI_pos (by omega)), R_byte xx hk, hbb, r1, ix_nI hl1 (by omega), nm_eq, nI_clamp (show ln + ii < 2 ^ 31 by omega), nm_eq, sr1_ne (show 39 ≠ 46 by omega), r1, nI_1, lI_32, iI_nat, nm_eq, nx]
      · dsimp only
        by_cases q2 : jj = ln + ii
        · rw [if_pos q2, ← hbb]; exact ok
        · rw [if_neg q2]; exact hB.2 jj (by omega)
      · rw [st1_ne (by omega), st1_at]
        dsimp only
        by_cases q2 : jj = ln + ii
        · rw [if_pos q2, if_pos q2]
        · rw [if_neg q2, if_neg q2]; exact c2 jj (by omega)
      · rw [sr1_ne (by omega), sr1_at]
        dsimp only
        by_cases q2 : jj = ln + ii
        · rw [if_pos q2, if_pos q2]
        · rw [if_neg q2, if_neg q2]; exact r2 jj (by omega)
      · rw [st1_ne h1, st1_ne h2]; exact f1 kk h1 h2
      · rw [sr1_ne h1, sr1_ne h2]; exact f2 kk h1 h2
      · rw [sr1_o h1, sr1_ne (by omega)]; exact f3 jj h1
    · right
      have e : ii = mm := by omega
      subst e
      have hlt : iI ((ii : Int) - 1 - (ii : Int)) < 0 := by
        rw [show (ii : Int) - 1 - (ii : Int) = -1 by omega]
        decide
      refine ⟨t2, u2, fun kk hk => it2_out ?_ kk (by omega), fun kk hk => it2_out ?_ kk (by omega), ⟨bt, hB, c1, c2, r1, r2⟩, f1, f2, f3⟩
      · unfold lb_X7_type_64
        rw [if_pos hlt]
      · unfold lb_X8_type_74
        rw [if_pos hlt]) nn (iI ((mm : Int) - 1)) t0 (iI ((mm : Int) - 1)) u0 (by omega) ⟨by congr 1; omega, by congr 1; omega, ⟨b0, hF⟩, fun _ _ _ => rfl, fun _ _ _ => rfl, fun _ _ => rfl⟩
theorem WR.tfr {tt ww : MM} {uu zz : SR} {dd : WD} (h : WR tt uu dd) (hf : TFr tt ww uu zz) : WR ww zz dd := by
  obtain ⟨hC, hR, hO, hfit⟩ := h
  obtain ⟨f1, f2, f3⟩ := hf
  refine ⟨?_, ?_, hO, hfit⟩
  · unfold CW at hC ⊢
    rw [f1 1 (by omega) (by omega), f1 2 (by omega) (by omega), f1 3 (by omega) (by omega), f1 4 (by omega) (by omega), f1 5 (by omega) (by omega), f1 6 (by omega) (by omega)]
    exact hC
  · unfold RW at hR ⊢
    rw [f2 40 (by omega) (by omega), f2 41 (by omega) (by omega), f2 42 (by omega) (by omega), f2 43 (by omega) (by omega), f2 44 (by omega) (by omega), f3 4 (by omega), f3 6 (by omega), f3 7 (by omega), f3 8 (by omega)]
    exact hR
theorem m_type {tt : MM} {uu : SR} {dd : WD} {nn : Nat} (h : WR tt uu dd) (hT : TR tt uu) (hn : 130 < nn) (xx : Int64) (v3 : Int32) : Good0 tt uu (f_X7_type nn tt xx v3) (f_X8_type nn uu xx v3) := by
  have hT0 := hT
  obtain ⟨bt, ln, hB, c1, c2, r1, r2⟩ := hT
  have hl := hB.1
  unfold f_X7_type f_X8_type
  rcases R_inC v3 1 8 (by omega) (by omega) with ⟨e1, mm, hm1, hm, rfl⟩ | ⟨e1, e2⟩
  · rw [show f_X8_in (nI mm).toInt64 (1 : Int64) (8 : Int64) = some 1 from e1, b1_eq, if_neg n10', if_neg (show ¬ nI mm < (1 : Int32) from nI_nlt (b := 1) hm1 (by omega)), if_pos (show nI mm ≤ (8 : Int32) from nI_le (b := 8) hm (by omega))]
    simp only [nm_eq, nI_less]
    obtain ⟨y1, l1, k1⟩ := C_all (tt := tt) (xx := xx) (nn := nn) hm (by omega)
    obtain ⟨y2, l2, k2⟩ := R_all (uu := uu) (xx := xx) (nn := nn) (v3 := nI mm) hm (by omega)
    rw [l1, l2]
    rcases k1 with ⟨rfl, hall⟩ | ⟨rfl, j1, hj1, hj2⟩
    · have e3 : y2 = .inr () := by
        rcases k2 with ⟨z, _⟩ | ⟨_, j1, hj1, hj2⟩
        · exact z
        · exact absurd (hall j1 hj1) hj2
      subst e3
      rw [bR_k, bR_k, c1, r1, nI_add]
      by_cases q : ln + mm ≤ 120
      · rw [if_pos (show nI (ln + mm) ≤ (120 : Int32) from nI_le (b := 120) q (by omega)), if_pos (show nI (ln + mm) ≤ (120 : Int32) from nI_le (b := 120) q (by omega))]
        obtain ⟨t2, u2, w1, w2, ⟨b2', hF⟩, f1, f2, f3⟩ := m_writes (nn := nn) (xx := xx) hm (by omega) ⟨hB, c1, c2, r1, r2⟩ q hall
        rw [w1, w2, b1_eq, b1_eq, hF.2.1, hF.2.2.2.1]
        exact ⟨_, _, _, dd, rfl, rfl, h.tfr ⟨f1, f2, f3⟩, ⟨b2', _, hF⟩, fun kk hk => f1 kk (by omega) (by omega), ⟨fun kk hk => f2 kk (by omega) (by omega), f3 29 (by omega)⟩⟩
      · rw [if_neg (show ¬ nI (ln + mm) ≤ (120 : Int32) from nI_ge (a := 120) (by omega) (by omega)), if_neg (show ¬ nI (ln + mm) ≤ (120 : Int32) from nI_ge (a := 120) (by omega) (by omega))]
        exact ⟨_, _, _, dd, rfl, rfl, h, hT0, CR0.rf, RR0.rf⟩
    · have e3 : y2 = .inl (-1, uu) := by
        rcases k2 with ⟨_, hall⟩ | ⟨z, _⟩
        · exact absurd (hall j1 hj1) hj2
        · exact z
      subst e3
      rw [bR_r, bR_r]
      exact ⟨_, _, _, dd, rfl, rfl, h, hT0, CR0.rf, RR0.rf⟩
  · rw [show f_X8_in v3.toInt64 (1 : Int64) (8 : Int64) = some 0 from e1, b1_eq, if_pos rfl]
    rcases e2 with e2 | ⟨jj, e3, rfl, e4⟩
    · rw [if_pos (show v3 < (1 : Int32) from neg_lt e2 (kk := 1) (by omega))]
      exact ⟨_, _, _, dd, rfl, rfl, h, hT0, CR0.rf, RR0.rf⟩
    · by_cases q : jj < 1
      · rw [if_pos (show nI jj < (1 : Int32) from nI_lt (b := 1) q (by omega))]
        exact ⟨_, _, _, dd, rfl, rfl, h, hT0, CR0.rf, RR0.rf⟩
      · rw [if_neg (show ¬ nI jj < (1 : Int32) from nI_nlt (b := 1) (by omega) e3), if_neg (show ¬ nI jj ≤ (8 : Int32) from nI_ge (a := 8) (by omega) e3)]
        exact ⟨_, _, _, dd, rfl, rfl, h, hT0, CR0.rf, RR0.rf⟩
