/-! sheets -/
def SHi (tt : MM) (uu : SR) (ii : Nat) : Prop := ∃ ln, ln ≤ 24 ∧ tt (30 + 2 * ii) 3 = nI ln ∧ uu.1 55 ii = nI ln ∧ ((tt (30 + 2 * ii) 1 = 0 ∧ uu.1 54 ii = -1) ∨ (tt (30 + 2 * ii) 1 = 1 ∧ ∃ la, la < 3 ∧ tt (30 + 2 * ii) 2 = nI la ∧ uu.1 54 ii = nI la)) ∧ ∀ jj, jj < 24 → tt (30 + 2 * ii + 1) jj = uu.1 56 (24 * ii + jj)
def SH (tt : MM) (uu : SR) : Prop := ∀ ii, ii < 4 → SHi tt uu ii
/-- all but the sheets stays -/
def CS0 (tt ww : MM) : Prop := ∀ kk, kk ≤ 27 → ww kk = tt kk
def RS0 (uu ww : SR) : Prop := (∀ kk, (40 ≤ kk ∧ kk ≤ 44) ∨ (46 ≤ kk ∧ kk ≤ 53) → ww.1 kk = uu.1 kk) ∧ (∀ jj, ¬ (10 ≤ jj ∧ jj ≤ 13) → ww.1 39 jj = uu.1 39 jj)
def GoodS (tt : MM) (uu : SR) (xx : Option (Int32 × MM)) (yy : Option (Int32 × SR)) : Prop := ∃ vv t2 u2, xx = some (vv, t2) ∧ yy = some (vv, u2) ∧ SH t2 u2 ∧ CS0 tt t2 ∧ RS0 uu u2
theorem CS0.rf {tt : MM} : CS0 tt tt := fun _ _ => rfl
theorem RS0.rf {uu : SR} : RS0 uu uu := ⟨fun _ _ => rfl, fun _ _ => rfl⟩
theorem CS0.s1 {tt ww : MM} {kk jj : Nat} {vv : Int32} (h : CS0 tt ww) (hk : 28 ≤ kk) : CS0 tt (st1 ww kk jj vv) := fun xx hx => by rw [st1_ne (by omega)]; exact h xx hx
theorem CS0.sA {tt ww : MM} {kk : Nat} {gg : Nat → Int32} (h : CS0 tt ww) (hk : 28 ≤ kk) : CS0 tt (stA ww kk gg) := fun xx hx => by rw [stA_ne ww gg (by omega)]; exact h xx hx
theorem RS0.s1 {uu ww : SR} {kk jj : Nat} {vv : Int32} (h : RS0 uu ww) (hk : 54 ≤ kk) : RS0 uu (sr1 ww kk jj vv) := ⟨fun xx hx => by rw [sr1_ne (by omega)]; exact h.1 xx hx, fun jj hj => by rw [sr1_ne (by omega)]; exact h.2 jj hj⟩
theorem RS0.tr {uu vv ww : SR} (h1 : RS0 uu vv) (h2 : RS0 vv ww) : RS0 uu ww := ⟨fun kk hk => (h2.1 kk hk).trans (h1.1 kk hk), fun jj hj => (h2.2 jj hj).trans (h1.2 jj hj)⟩
theorem RFr.s0 {uu ww : SR} (h : RFr uu ww) : RS0 uu ww := ⟨fun kk hk => h.1 kk (by omega) (by omega), fun jj hj => h.2.1 jj hj⟩
theorem SH.cong {tt ww : MM} {uu zz : SR} (h : SH tt uu) (h1 : ∀ kk, 30 ≤ kk → kk ≤ 37 → ww kk = tt kk) (h2 : ∀ kk, 54 ≤ kk → kk ≤ 56 → zz.1 kk = uu.1 kk) : SH ww zz := by
  intro ii hi
  have hh := h ii hi
  unfold SHi at hh ⊢
  rw [h1 (30 + 2 * ii) (by omega) (by omega), h1 (30 + 2 * ii + 1) (by omega) (by omega), h2 54 (by omega) (by omega), h2 55 (by omega) (by omega), h2 56 (by omega) (by omega)]
  exact hh
theorem sh_sub {aa bb : Nat} (h : bb ≤ aa) : nI aa - nI bb = nI (aa - bb) := by
  rw [← iI_nat aa, ← iI_nat bb, iI_sub, ← iI_nat]
  congr 1
  omega
theorem sh_is (vv : Int32) : (∃ ii, ii < 4 ∧ vv = nI ii ∧ f_X7_isSheet vv = some 1 ∧ f_X8_in vv.toInt64 (0 : Int64) (3 : Int64) = some 1) ∨ (f_X7_isSheet vv = some 0 ∧ f_X8_in vv.toInt64 (0 : Int64) (3 : Int64) = some 0) := by
  unfold f_X7_isSheet
  rcases R_inC vv 0 3 (by omega) (by omega) with ⟨e1, kk, -, hk, rfl⟩ | ⟨e1, e2⟩
  · left
    exact ⟨kk, by omega, rfl, by rw [if_neg (nI_pos (by omega)), if_neg (show ¬ (4 : Int32) ≤ nI kk from nI_ge (b := 4) (by omega) (by omega))], e1⟩
  · right
    refine ⟨?_, e1⟩
    rcases e2 with e2 | ⟨jj, e3, rfl, e4⟩
    · rw [if_pos e2]
    · rw [if_neg (nI_pos e3), if_pos (show (4 : Int32) ≤ nI jj from nI_le (a := 4) (by omega) e3)]
theorem ln_is (vv : Int32) : (∃ la, la < 3 ∧ vv = nI la ∧ ¬ vv < 0 ∧ vv < (3 : Int32) ∧ f_X8_in vv.toInt64 (0 : Int64) (2 : Int64) = some 1) ∨ ((vv < 0 ∨ (¬ vv < 0 ∧ ¬ vv < (3 : Int32))) ∧ f_X8_in vv.toInt64 (0 : Int64) (2 : Int64) = some 0) := by
  rcases R_inC vv 0 2 (by omega) (by omega) with ⟨e1, kk, -, hk, rfl⟩ | ⟨e1, e2⟩
  · left
    exact ⟨kk, by omega, rfl, nI_pos (by omega), nI_lt (b := 3) (by omega) (by omega), e1⟩
  · right
    refine ⟨?_, e1⟩
    rcases e2 with e2 | ⟨jj, e3, rfl, e4⟩
    · exact Or.inl e2
    · exact Or.inr ⟨nI_pos e3, nI_nlt (b := 3) (by omega) e3⟩
theorem C_part {tt : MM} {k0 ln fr ww : Nat} (h3 : tt k0 3 = nI ln) (hl : ln ≤ 24) (hf : fr < 2 ^ 31) (hw : ww < 2 ^ 31) : f_X3_hasPart tt k0 (nI fr) (nI ww) = some (if fr + ww ≤ ln then 1 else 0) := by
  unfold f_X3_hasPart
  rw [h3, if_neg (nI_pos hf), if_neg (nI_pos hw)]
  by_cases q : fr ≤ ln
  · rw [if_neg (nI_nlt q (by omega)), sh_sub q]
    by_cases q2 : fr + ww ≤ ln
    · rw [if_pos q2, if_neg (nI_nlt (by omega) (by omega))]
    · rw [if_neg q2, if_pos (nI_lt (by omega) hw)]
  · rw [if_pos (nI_lt (by omega) hf), if_neg (by omega)]
theorem C_partM {tt : MM} {k0 : Nat} {v1 v2 : Int32} (h : v1 < 0) : f_X3_hasPart tt k0 v1 v2 = some 0 := by
  unfold f_X3_hasPart
  rw [if_pos h]
theorem C_partN {tt : MM} {k0 : Nat} {v1 v2 : Int32} (h : v2 < 0) : f_X3_hasPart tt k0 v1 v2 = some 0 := by
  unfold f_X3_hasPart
  by_cases q : v1 < 0
  · rw [if_pos q]
  · rw [if_neg q, if_pos h]
theorem R_part {vv : Int32} {ln ww : Nat} (hl : ln ≤ 24) (hw : ww ≤ 24) : f_X8_in vv.toInt64 (0 : Int64) ((nI ln - nI ww).toInt64) = some (if 0 ≤ vv.toInt ∧ vv.toInt ≤ (ln : Int) - (ww : Int) then 1 else 0) := by
  rw [← iI_nat ln, ← iI_nat ww, iI_sub, wid (by omega) (by omega), i64_0, R_inI vv (by omega) (by omega)]
theorem m_row {tt : MM} {uu : SR} (h : SH tt uu) {ww : Nat} {w32 : Int32} (hw : ww ≤ 12) (e32 : w32 = nI ww) (v1 v2 v3 : Int32) : (∃ ii la fr ln, ii < 4 ∧ la < 3 ∧ ln ≤ 24 ∧ fr + ww ≤ ln ∧ v1 = nI ii ∧ v2 = nI la ∧ v3 = nI fr ∧ tt (30 + 2 * ii) 2 = nI la ∧ tt (30 + 2 * ii) 3 = nI ln ∧ f_X7_refusalOfRow tt v1 v2 v3 w32 = some 0 ∧ f_X8_isSheet v1 v2 = some 1 ∧ f_X8_lacksRow uu v1 v2 v3 w32 = some 0) ∨ (∃ no, no < 0 ∧ f_X7_refusalOfRow tt v1 v2 v3 w32 = some no ∧ ((f_X8_isSheet v1 v2 = some 0 ∧ no = -1) ∨ (f_X8_isSheet v1 v2 = some 1 ∧ f_X8_lacksRow uu v1 v2 v3 w32 = some no))) := by
  subst e32
  unfold f_X7_refusalOfRow f_X8_isSheet f_X8_lacksRow
  rcases sh_is v1 with ⟨ii, hi, rfl, a1, a2⟩ | ⟨a1, a2⟩
  · rcases ln_is v2 with ⟨la, hla, rfl, d1, d2, d3⟩ | ⟨d1, d3⟩
    · obtain ⟨ln, hl, k3, k55, hh, hit⟩ := h ii hi
      rw [a1, a2, d3]
      simp only [b1_eq, if_neg n10', if_neg d1, if_pos d2, ix_nI hi (show 4 < 2 ^ 31 by omega), nI_clamp (show ii < 2 ^ 31 by omega), k55]
      rcases hh with ⟨k1, k54⟩ | ⟨k1, lb, hlb, k2, k54⟩
      · rw [k1, k54, if_pos rfl, if_neg (show ¬ (-1 : Int32) = nI la from neg_ne (by decide) (by omega)), if_neg (show ¬ (0 : Int32) ≤ -1 by decide)]
        exact Or.inr ⟨_, by decide, rfl, Or.inr ⟨trivial, rfl⟩⟩
      · rw [k1, k2, k54, if_neg n10']
        by_cases q : lb = la
        · subst q
          rw [if_pos rfl, if_pos rfl, R_part hl (by omega)]
          rcases cases32 v3 with ⟨q1, q2⟩ | ⟨fr, hf, rfl⟩
          · rw [C_partM q1, if_neg (show ¬ (0 ≤ v3.toInt ∧ v3.toInt ≤ (ln : Int) - (ww : Int)) by omega), b1_eq, if_pos rfl]
            exact Or.inr ⟨_, by decide, rfl, Or.inr ⟨trivial, rfl⟩⟩
          · rw [C_part k3 hl hf (by omega), nI_toInt hf, b1_eq, b1_eq]
            by_cases q3 : fr + ww ≤ ln
            · rw [if_pos q3, if_pos (show 0 ≤ (fr : Int) ∧ (fr : Int) ≤ (ln : Int) - (ww : Int) by omega), if_neg n10']
              exact Or.inl ⟨ii, lb, fr, ln, hi, hla, hl, q3, rfl, rfl, rfl, k2, k3, rfl, trivial, rfl⟩
            · rw [if_neg q3, if_neg (show ¬ (0 ≤ (fr : Int) ∧ (fr : Int) ≤ (ln : Int) - (ww : Int)) by omega), if_pos rfl]
              exact Or.inr ⟨_, by decide, rfl, Or.inr ⟨trivial, rfl⟩⟩
        · have qn : ¬ nI lb = nI la := fun z => q ((nI_eq (by omega) (by omega)).mp z)
          rw [if_neg qn, if_neg qn, if_pos (nI_pos' (show lb < 2 ^ 31 by omega))]
          exact Or.inr ⟨_, by decide, rfl, Or.inr ⟨trivial, rfl⟩⟩
    · right
      rw [a1, a2, d3]
      simp only [b1_eq, if_neg n10']
      refine ⟨-1, by decide, ?_, Or.inl ⟨rfl, rfl⟩⟩
      rcases d1 with d1 | ⟨d1, d2⟩
      · rw [if_pos d1]
      · rw [if_neg d1, if_neg d2]
  · right
    rw [a1, a2]
    exact ⟨-1, by decide, rfl, Or.inl ⟨rfl, rfl⟩⟩
/-! what a lane holds -/
theorem lane_sh (xx : BitVec 32) {aa bb : Nat} (hab : aa + bb = 32) (hb : 0 < bb) (h2 : 0 < aa) : BitVec.sshiftRight (xx <<< aa) aa = BitVec.signExtend 32 (BitVec.signExtend bb xx) := by
  apply BitVec.eq_of_getLsbD_eq
  intro jj hj
  rw [BitVec.getLsbD_sshiftRight, BitVec.getLsbD_signExtend, BitVec.msb_eq_getLsbD_last, BitVec.msb_eq_getLsbD_last]
  simp only [BitVec.getLsbD_shiftLeft, BitVec.getLsbD_signExtend]
  have h1 : decide (32 ≤ jj) = false := by simpa using hj
  have h3 : decide (jj < 32) = true := by simpa using hj
  rw [h1, h3]
  by_cases q : jj < bb
  · have e1 : aa + jj - aa = jj := by omega
    have e2 : decide (aa + jj < 32) = true := by simp; omega
    have e3 : decide (aa + jj < aa) = false := by simp
    have e4 : decide (jj < bb) = true := by simpa using q
    rw [if_pos (show aa + jj < 32 by omega), if_pos q, if_pos hj, e1, e2, e3, e4]
    simp
  · have e1 : 32 - 1 - aa = bb - 1 := by omega
    have e2 : decide (32 - 1 < 32) = true := by decide
    have e3 : decide (32 - 1 < aa) = false := by simp; omega
    have e4 : decide (bb - 1 < bb) = true := by simp; omega
    rw [if_neg (show ¬ aa + jj < 32 by omega), if_neg q, if_pos (show bb - 1 < 32 by omega), e1, e2, e3, e4]
    simp
theorem lane8 (vv : Int32) : (vv <<< ((24 : Int32) &&& 31)) >>> ((24 : Int32) &&& 31) = vv.toInt8.toInt32 := by
  apply Int32.toBitVec_inj.1
  have e1 : (((24 : Int32) &&& 31).toBitVec.smod 32).toNat = 24 := by decide
  show BitVec.sshiftRight (vv.toBitVec <<< (((24 : Int32) &&& 31).toBitVec.smod 32).toNat) (((24 : Int32) &&& 31).toBitVec.smod 32).toNat = BitVec.signExtend 32 (BitVec.signExtend 8 vv.toBitVec)
  rw [e1]
  exact lane_sh vv.toBitVec (by omega) (by omega) (by omega)
theorem lane16 (vv : Int32) : (vv <<< ((16 : Int32) &&& 31)) >>> ((16 : Int32) &&& 31) = vv.toInt16.toInt32 := by
  apply Int32.toBitVec_inj.1
  have e1 : (((16 : Int32) &&& 31).toBitVec.smod 32).toNat = 16 := by decide
  show BitVec.sshiftRight (vv.toBitVec <<< (((16 : Int32) &&& 31).toBitVec.smod 32).toNat) (((16 : Int32) &&& 31).toBitVec.smod 32).toNat = BitVec.signExtend 32 (BitVec.signExtend 16 vv.toBitVec)
  rw [e1]
  exact lane_sh vv.toBitVec (by omega) (by omega) (by omega)
def asL (la : Nat) (vv : Int32) : Int32 := if la = 0 then vv.toInt8.toInt32 else if la = 1 then vv.toInt16.toInt32 else vv
theorem R_asL {la : Nat} (hl : la < 3) (vv : Int32) : f_X8_asLane (nI la) vv = some (asL la vv) := by
  unfold f_X8_asLane asL
  rw [lane8, lane16]
  rcases (show la = 0 ∨ la = 1 ∨ la = 2 by omega) with rfl | rfl | rfl <;> rfl
theorem C_write {tt : MM} {k0 la ln kk : Nat} (h2 : tt k0 2 = nI la) (h3 : tt k0 3 = nI ln) (hla : la < 3) (hk : kk < ln) (hl : ln ≤ 24) (vv : Int32) : f_X3_write tt k0 (nI kk) vv = some (st1 tt (k0 + 1) kk (asL la vv)) := by
  unfold f_X3_write asL
  rw [h2, h3, if_neg (nI_pos (by omega)), if_pos (nI_lt hk (by omega)), ix_nI (show kk < 24 by omega) (by omega), ix_nI (show kk < 24 by omega) (by omega), ix_nI (show kk < 24 by omega) (by omega), nI_clamp (show kk < 2 ^ 31 by omega)]
  rcases (show la = 0 ∨ la = 1 ∨ la = 2 by omega) with rfl | rfl | rfl <;> rfl
theorem it_ix {ii kk : Nat} : (24 : Int32) * nI ii + nI kk = nI (24 * ii + kk) := by
  rw [show (24 : Int32) = iI 24 by decide, ← iI_nat ii, ← iI_nat kk, iI_mul, iI_add, ← iI_nat]
  congr 1
/-- one item is written in both -/
theorem SH.wr {tt : MM} {uu : SR} {ii kk : Nat} {vv : Int32} (h : SH tt uu) (hi : ii < 4) (hk : kk < 24) : SH (st1 tt (30 + 2 * ii + 1) kk vv) (sr1 uu 56 (24 * ii + kk) vv) := by
  intro xx hx
  obtain ⟨ln, hl, k3, k55, hh, hit⟩ := h xx hx
  refine ⟨ln, hl, ?_, ?_, ?_, fun jj hj => ?_⟩
  · rw [st1_ne (by omega)]; exact k3
  · rw [sr1_ne (by omega)]; exact k55
  · rw [st1_ne (by omega), sr1_ne (by omega)]; exact hh
  · by_cases q : xx = ii
    · subst q
      rw [st1_at, sr1_at]
      by_cases q2 : jj = kk
      · rw [if_pos q2, if_pos (by omega)]
      · rw [if_neg q2, if_neg (by omega)]; exact hit jj hj
    · rw [st1_ne (by omega), sr1_at, if_neg (by omega)]; exact hit jj hj
theorem m_item {tt : MM} {uu : SR} (h : SH tt uu) (v1 v2 v3 v4 : Int32) : GoodS tt uu (f_X7_item tt v1 v2 v3 v4) (f_X8_item uu v1 v2 v3 v4) := by
  unfold f_X7_item f_X8_item
  rcases m_row h (ww := 1) (w32 := 1) (by omega) rfl v1 v2 v3 with ⟨ii, la, fr, ln, hi, hla, hl, hfr, rfl, rfl, rfl, k2, k3, a1, a2, a3⟩ | ⟨no, hno, a1, a2⟩
  · rw [a1, a2, b1_eq, b1_eq, if_pos rfl, if_neg n10', a3, b1_eq, if_pos (show (0 : Int32) ≤ 0 by decide), ix_nI hi (by omega), nI_clamp (show ii < 2 ^ 31 by omega), C_write k2 k3 hla (by omega) hl, b1_eq, R_asL hla, b1_eq, it_ix, ix_nI (show 24 * ii + fr < 96 by omega) (by omega), nI_clamp (show 24 * ii + fr < 2 ^ 31 by omega), nm_eq]
    exact ⟨_, _, _, rfl, rfl, h.wr hi (by omega), CS0.rf.s1 (by omega), RS0.rf.s1 (by omega)⟩
  · rw [a1, b1_eq, if_neg (fun z => by rw [z] at hno; exact absurd hno (by decide))]
    rcases a2 with ⟨a2, rfl⟩ | ⟨a2, a3⟩
    · rw [a2, b1_eq, if_pos rfl]
      exact ⟨_, _, _, rfl, rfl, h, CS0.rf, RS0.rf⟩
    · rw [a2, b1_eq, if_neg n10', a3, b1_eq, if_neg (fun z => (fa_of_lt hno).2.1 z)]
      exact ⟨_, _, _, rfl, rfl, h, CS0.rf, RS0.rf⟩
theorem m_drop {tt : MM} {uu : SR} (h : SH tt uu) (v1 : Int32) : GoodS tt uu (f_X7_drop tt v1) (f_X8_drop uu v1) := by
  unfold f_X7_drop f_X8_drop
  rcases sh_is v1 with ⟨ii, hi, rfl, a1, a2⟩ | ⟨a1, a2⟩
  · obtain ⟨ln, hl, k3, k55, hh, hit⟩ := h ii hi
    rw [a1, a2]
    simp only [b1_eq, if_neg n10', ix_nI hi (show 4 < 2 ^ 31 by omega), nI_clamp (show ii < 2 ^ 31 by omega), nm_eq]
    rcases hh with ⟨k1, k54⟩ | ⟨k1, lb, hlb, k2, k54⟩
    · rw [k1, k54, if_pos rfl, if_neg (show ¬ (0 : Int32) ≤ -1 by decide)]
      exact ⟨_, _, _, rfl, rfl, h, CS0.rf, RS0.rf⟩
    · rw [k1, k54, if_neg n10', if_pos (nI_pos' (show lb < 2 ^ 31 by omega)), st1_o (show 3 ≠ 1 by omega), k3, sr1_ne (show 55 ≠ 54 by omega), k55]
      refine ⟨_, _, _, rfl, rfl, fun xx hx => ?_, CS0.rf.s1 (by omega), RS0.rf.s1 (by omega)⟩
      obtain ⟨ln, hl, m3, m55, mh, mit⟩ := h xx hx
      by_cases q : xx = ii
      · subst q
        exact ⟨ln, hl, by rw [st1_o (by omega)]; exact m3, by rw [sr1_ne (by omega)]; exact m55, Or.inl ⟨by rw [st1_s], by rw [sr1_s]⟩, fun jj hj => by rw [st1_ne (by omega), sr1_ne (by omega)]; exact mit jj hj⟩
      · refine ⟨ln, hl, by rw [st1_ne (by omega)]; exact m3, by rw [sr1_ne (by omega)]; exact m55, ?_, fun jj hj => by rw [st1_ne (by omega), sr1_ne (by omega)]; exact mit jj hj⟩
        rw [st1_ne (by omega), sr1_o q]
        exact mh
  · rw [a1, a2]
    exact ⟨_, _, _, rfl, rfl, h, CS0.rf, RS0.rf⟩
