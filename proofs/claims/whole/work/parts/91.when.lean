/-! soonest, when: both -/
theorem neg_and {vv : Int32} {ww : Nat} (h : vv < 0) (hw : ww < 1024) : ¬ (vv &&& (nI ww ^^^ (-1 : Int32))) = 0 := by
  intro z
  have h0 := congrArg Int32.toBitVec z
  rw [Int32.toBitVec_and, Int32.toBitVec_xor] at h0
  have e3 : vv.toBitVec.getLsbD 31 = true := by
    have h2 : vv.toBitVec.msb = true := by
      rw [BitVec.msb_eq_toInt]
      rw [fa_lt] at h
      exact decide_eq_true h
    rw [BitVec.msb_eq_getLsbD_last] at h2
    exact h2
  have e4 : ww.testBit 31 = false := Nat.testBit_lt_two_pow (Nat.lt_trans hw (by decide))
  have e5 : (nI ww).toBitVec.getLsbD 31 = false := by
    show (BitVec.ofNat 32 ww).getLsbD 31 = false
    rw [BitVec.getLsbD_ofNat, e4]
    rfl
  have e6 : (-1 : Int32).toBitVec.getLsbD 31 = true := by decide
  have e7 : (0 : Int32).toBitVec.getLsbD 31 = false := by decide
  have h1 : (vv.toBitVec &&& ((nI ww).toBitVec ^^^ (-1 : Int32).toBitVec)).getLsbD 31 = false := by rw [h0]; exact e7
  rw [BitVec.getLsbD_and, BitVec.getLsbD_xor, e3, e5, e6] at h1
  exact absurd h1 (by decide)
theorem m_asked {tt : MM} {uu : SR} {dd : WD} {nn : Nat} (h : WR tt uu dd) (hn : 20 < nn) (v1 v2 : Int32) : (∃ st how, st ≠ 0 ∧ WT dd st ∧ rn st 10 ≤ 4 ∧ how ≤ 2 ∧ v1 = nI st ∧ v2 = nI how ∧ f_X7_canBeAskedFor nn tt v1 v2 = some 1 ∧ f_X8_isAllIn nn uu v1 v2 = some 1) ∨ (f_X7_canBeAskedFor nn tt v1 v2 = some 0 ∧ f_X8_isAllIn nn uu v1 v2 = some 0) := by
  obtain ⟨hC, hR, hO, -⟩ := h
  have h10 := hO.1
  have hw := whoAt_lt hO 12
  have hwN : whoAt dd 12 < 2 ^ dN dd := setOf_lt _ _
  have hM : 2 ^ dN dd ≤ 2 ^ 10 := Nat.pow_le_pow_right (by decide) h10
  have hM2 : (2 : Nat) ^ 10 = 1024 := by decide
  have c12 : f_X6_whoIsAt nn tt (12 : Int32) = some (nI (whoAt dd 12)) := C_who (cc := 12) hC hO (by omega) (by omega)
  have r12 : f_X8_whoIn nn uu (12 : Int32) = some (nI (whoAt dd 12)) := R_who (cc := 12) hR.x hO (by omega) (by omega)
  have hsh : (1 : Int32) <<< ((uu.1 39 4) &&& 31) = nI (2 ^ dN dd) := by rw [hR.1, bit_sh (by omega)]
  obtain ⟨y0, ey0⟩ : ∃ y0, f_J6_bitCount_0f7a4 v1 = some y0 := ⟨_, rfl⟩
  have clsNo : (v1 = 0 ∨ (4 : Int32) < y0 ∨ ¬ (v1 &&& (nI (whoAt dd 12) ^^^ (-1 : Int32))) = 0) → f_X7_canBeAskedFor nn tt v1 v2 = some 0 := by
    intro z
    unfold f_X7_canBeAskedFor
    rw [ey0, b1_eq, c12, b1_eq]
    by_cases q1 : v2 < 0
    · rw [if_pos q1]
    · rw [if_neg q1]
      by_cases q2 : (2 : Int32) < v2
      · rw [if_pos q2]
      · rw [if_neg q2]
        by_cases q3 : v1 = 0
        · rw [if_pos q3]
        · rw [if_neg q3]
          by_cases q4 : (4 : Int32) < y0
          · rw [if_pos q4]
          · rw [if_neg q4]
            rcases z with z | z | z
            · exact absurd z q3
            · exact absurd z q4
            · rw [if_neg z]
  rcases cases32 v1 with ⟨q1, q2⟩ | ⟨aa, ha, rfl⟩
  · right
    refine ⟨clsNo (Or.inr (Or.inr (neg_and q1 hw))), ?_⟩
    unfold f_X8_isAllIn
    rw [if_pos ((fa_of_lt q1).1)]
  by_cases q0 : aa = 0
  · right
    subst q0
    refine ⟨clsNo (Or.inl rfl), ?_⟩
    unfold f_X8_isAllIn
    rw [if_pos (show nI 0 ≤ (0 : Int32) by decide)]
  by_cases qs : sb aa (whoAt dd 12)
  · have hal := qs.le
    have haL : aa < 1024 := by omega
    have eb := bc_ok aa haL
    rw [eb] at ey0
    have ey : y0 = nI (rn aa 10) := (Option.some.inj ey0).symm
    have hrl : rn aa 10 ≤ 10 := fa_cnt_le _ _
    have eo := R_ones (nn := nn) haL (by omega)
    have hand : nI (whoAt dd 12) &&& nI aa = nI aa := by rw [fa_and, Nat.and_comm, sb_and.mp qs]
    have hWT : WT dd aa := ⟨haL, fun ii hb => by
      have := qs ii hb
      unfold whoAt at this
      rw [setOf_bit] at this
      simpa using this⟩
    by_cases q4 : rn aa 10 ≤ 4
    · have hand0 : (nI aa &&& (nI (whoAt dd 12) ^^^ (-1 : Int32))) = 0 := by
        rw [nI_nd]
        have : andn aa (whoAt dd 12) = 0 := by
          apply Classical.byContradiction
          intro z
          obtain ⟨ii, hb⟩ := nz_bit z
          obtain ⟨z1, z2⟩ := andn_t.mp hb
          exact z2 (qs ii z1)
        rw [this]
        rfl
      have hnlt : ¬ (4 : Int32) < nI (rn aa 10) := nI_nlt (a := 4) q4 (by omega)
      have rf : f_X8_isAllIn nn uu (nI aa) v2 = b1 (f_X8_in v2.toInt64 (0 : Int64) (2 : Int64)) (fun y_3 => (if y_3 = 0 then some (0 : Int32) else some (1 : Int32))) := by
        unfold f_X8_isAllIn
        rw [if_neg (nI_nle (by omega) ha), hsh, if_neg (nI_ge (by omega) (by omega)), eo, b1_eq, show nI (fa_cnt (fun jj => aa.testBit jj) 10) = nI (rn aa 10) from rfl, if_neg hnlt, r12, b1_eq, if_pos hand]
      have cf : f_X7_canBeAskedFor nn tt (nI aa) v2 = if v2 < 0 then some (0 : Int32) else (if (2 : Int32) < v2 then some (0 : Int32) else some (1 : Int32)) := by
        unfold f_X7_canBeAskedFor
        rw [eb, b1_eq, show nI (fa_cnt (fun jj => aa.testBit jj) 10) = nI (rn aa 10) from rfl, if_neg (nI_ne0 (by omega) ha), if_neg hnlt, c12, b1_eq, if_pos hand0]
      rcases R_inC v2 0 2 (by omega) (by omega) with ⟨e1, how, -, hh, rfl⟩ | ⟨e1, e2⟩
      · left
        refine ⟨aa, how, q0, hWT, q4, hh, rfl, rfl, ?_, ?_⟩
        · rw [cf, if_neg (nI_pos (by omega)), if_neg (show ¬ (2 : Int32) < nI how from nI_nlt (a := 2) hh (by omega))]
        · rw [rf, show f_X8_in (nI how).toInt64 (0 : Int64) (2 : Int64) = some 1 from e1, b1_eq, if_neg n10']
      · right
        refine ⟨?_, ?_⟩
        · rw [cf]
          rcases e2 with e2 | ⟨jj, e3, rfl, e4⟩
          · rw [if_pos e2]
          · rw [if_neg (nI_pos e3), if_pos (show (2 : Int32) < nI jj from nI_lt (a := 2) (by omega) e3)]
        · rw [rf, show f_X8_in v2.toInt64 (0 : Int64) (2 : Int64) = some 0 from e1, b1_eq, if_pos rfl]
    · right
      have hlt : (4 : Int32) < nI (rn aa 10) := nI_lt (a := 4) (by omega) (by omega)
      refine ⟨clsNo (Or.inr (Or.inl (by rw [ey]; exact hlt))), ?_⟩
      unfold f_X8_isAllIn
      rw [if_neg (nI_nle (by omega) ha), hsh, if_neg (nI_ge (by omega) (by omega)), eo, b1_eq, show nI (fa_cnt (fun jj => aa.testBit jj) 10) = nI (rn aa 10) from rfl, if_pos hlt]
  · right
    have hnz : andn aa (whoAt dd 12) ≠ 0 := fun z => qs (fun ii hb => by
      apply Classical.byContradiction
      intro y
      exact bit_nz (andn_t.mpr ⟨hb, y⟩) z)
    have hle : andn aa (whoAt dd 12) ≤ aa := andn_sb.le
    refine ⟨clsNo (Or.inr (Or.inr (by rw [nI_nd]; exact nI_ne0 (by omega) (by omega)))), ?_⟩
    unfold f_X8_isAllIn
    rw [if_neg (nI_nle (by omega) ha), hsh]
    by_cases q5 : 2 ^ dN dd ≤ aa
    · rw [if_pos (nI_le q5 ha)]
    · have eo := R_ones (mm := aa) (nn := nn) (by omega) (by omega)
      rw [if_neg (nI_ge (by omega) (by omega)), eo, b1_eq]
      by_cases q6 : (4 : Int32) < nI (fa_cnt (fun jj => aa.testBit jj) 10)
      · rw [if_pos q6]
      · have hle2 : whoAt dd 12 &&& aa ≤ aa := Nat.and_le_right
        rw [if_neg q6, r12, b1_eq, fa_and, if_neg (fun z => ?_)]
        have h7 := (nI_eq (by omega) ha).mp z
        apply qs
        rw [sb_and, Nat.and_comm]
        exact h7
/-- both searches -/
theorem m_search {tt : MM} {uu : SR} {dd : WD} {st how nn : Nat} (h : WR tt uu dd) (hW : WT dd st) (h0 : st ≠ 0) (h4 : rn st 10 ≤ 4) (hh : how ≤ 2) (hn : 21000 < nn) : ∃ t2 u2, WR t2 u2 dd ∧ CRest tt t2 ∧ RRest uu u2 ∧ t2 17 2 = nI st ∧ WH st u2 ∧ ((f_X0_search nn tt (nI st) (nI how) = some (0, t2) ∧ f_X8_findSoonest nn uu (nI st) (nI how) = some (-4, u2)) ∨ ∃ sg', (∀ kk, kk < rn st 10 → sg' kk < 12) ∧ f_X0_search nn tt (nI st) (nI how) = some (1, t2) ∧ f_X8_findSoonest nn uu (nI st) (nI how) = some (nI (mxN sg' (rn st 10)), u2) ∧ t2 17 4 = nI (val st sg') ∧ (∀ kk, kk < rn st 10 → u2.1 50 kk = nI (sg' kk))) := by
  obtain ⟨hC, hR, hO, hfit⟩ := h
  obtain ⟨t2, b2', e1, f1, k2, k4, hb, hlow, hatt⟩ := C_search (nn := nn) hW hO h0 h4 hh (by omega) hC
  obtain ⟨vv, u2, e2, F2', hH, hcase⟩ := R_find (nn := nn) hR.x hO hW h0 h4 hh hn
  have hC2 : CW t2 dd := by
    unfold CW
    rw [f1 1 (by omega) (by omega), f1 2 (by omega) (by omega), f1 3 (by omega) (by omega), f1 4 (by omega) (by omega), f1 5 (by omega) (by omega), f1 6 (by omega) (by omega)]
    exact hC
  refine ⟨t2, u2, ⟨hC2, hR.sf F2', hO, hfit⟩, ⟨fun kk hk => f1 kk (by unfold CK at hk; omega) (by unfold CK at hk; omega), by rw [f1 13 (by omega) (by omega)]⟩, F2'.rest, k2, hH, ?_⟩
  rcases hcase with ⟨rfl, hno⟩ | ⟨sg', z1, z2, z3, z4⟩
  · left
    have hb2 : b2' = 786432 := by
      rcases hatt with z | ⟨ta, z, _⟩
      · exact z
      · exact absurd z (hno ta)
    rw [hb2, if_neg (by omega)] at e1
    exact ⟨e1, e2⟩
  · right
    have hm2 := mx11 z1.1
    have q1 : q4n (dg st sg') < 65536 := q4n_lt (fun kk _ => dg_lt _ _ _)
    have hvl : val st sg' < 786432 := by
      unfold val
      generalize q4n (dg st sg') = x1 at q1 ⊢
      generalize mxN sg' (rn st 10) = x3 at hm2 ⊢
      omega
    have hle := hlow sg' z1
    have heq : b2' = val st sg' := by
      rcases hatt with z | ⟨ta, y1, y2⟩
      · omega
      · have := z4 ta y1
        omega
    rw [if_pos (by omega)] at e1
    exact ⟨sg', z1.1, e1, by rw [e2, z2], by rw [k4, heq], z3⟩
theorem m_soonest {tt : MM} {uu : SR} {dd : WD} {nn : Nat} (h : WR tt uu dd) (hn : 21000 < nn) (v1 v2 : Int32) : Good tt uu (f_X7_soonest nn tt v1 v2) (f_X8_soonest nn uu v1 v2) := by
  unfold f_X7_soonest f_X8_soonest
  rcases m_asked h (show 20 < nn by omega) v1 v2 with ⟨st, how, h0, hW, h4, hh, rfl, rfl, a1, a2⟩ | ⟨a1, a2⟩
  · obtain ⟨t2, u2, hWR, hc, hr, k2, hH, hcase⟩ := m_search h hW h0 h4 hh hn
    rw [a1, a2, b1_eq, b1_eq, if_neg n10', if_neg n10']
    rcases hcase with ⟨e1, e2⟩ | ⟨sg', h12, e1, e2, k4, k50⟩
    · rw [e1, e2]
      exact ⟨_, _, _, dd, rfl, rfl, hWR, hc, hr⟩
    · have hm2 := mx11 h12
      have q1 : q4n (dg st sg') < 65536 := q4n_lt (fun kk _ => dg_lt _ _ _)
      have hvl : val st sg' < 2 ^ 31 := by
        unfold val
        generalize q4n (dg st sg') = x1 at q1 ⊢
        generalize mxN sg' (rn st 10) = x3 at hm2 ⊢
        omega
      have esh : nI (val st sg') >>> ((16 : Int32) &&& 31) = nI (mxN sg' (rn st 10)) := by
        rw [pk_shrN hvl ((16 : Int32) &&& 31) 16 (by decide)]
        refine congrArg nI ?_
        unfold val
        generalize q4n (dg st sg') = x1 at q1 ⊢
        generalize mxN sg' (rn st 10) = x3 at hm2 ⊢
        have : (2 : Nat) ^ 16 = 65536 := by decide
        rw [this]
        omega
      rw [e1, e2, b1_eq, b1_eq]
      dsimp only
      rw [if_neg n10']
      unfold f_X0_soonestMinute
      rw [b1_eq, k4, esh]
      exact ⟨_, _, _, dd, rfl, rfl, hWR, hc, hr⟩
  · rw [a1, a2]
    exact ⟨_, _, _, dd, rfl, rfl, h, CRest.rf, RRest.rf⟩
theorem dig_at {xx d0 d1 d2 d3 kk : Nat} (h0 : d0 < 16) (h1 : d1 < 16) (h2 : d2 < 16) (h3 : d3 < 16) (hk : kk < 4) : (xx * 65536 + (((d0 * 16 + d1) * 16 + d2) * 16 + d3)) / 2 ^ (4 * (3 - kk)) % 16 = (if kk = 0 then d0 else if kk = 1 then d1 else if kk = 2 then d2 else d3) := by
  rcases (show kk = 0 ∨ kk = 1 ∨ kk = 2 ∨ kk = 3 by omega) with rfl | rfl | rfl | rfl
  · show (xx * 65536 + (((d0 * 16 + d1) * 16 + d2) * 16 + d3)) / 4096 % 16 = d0
    omega
  · show (xx * 65536 + (((d0 * 16 + d1) * 16 + d2) * 16 + d3)) / 256 % 16 = d1
    omega
  · show (xx * 65536 + (((d0 * 16 + d1) * 16 + d2) * 16 + d3)) / 16 % 16 = d2
    omega
  · show (xx * 65536 + (((d0 * 16 + d1) * 16 + d2) * 16 + d3)) / 1 % 16 = d3
    omega
theorem val_dig {st kk : Nat} {ta : Nat → Nat} (h4 : rn st 10 ≤ 4) (hk : kk < rn st 10) (h12 : ta kk < 12) : val st ta / 2 ^ (4 * (3 - kk)) % 16 = ta kk := by
  unfold val q4n
  rw [dig_at (dg_lt st ta 0) (dg_lt st ta 1) (dg_lt st ta 2) (dg_lt st ta 3) (by omega)]
  have e : dg st ta kk = ta kk := by
    unfold dg
    rw [if_pos ⟨hk, h12⟩]
  rcases (show kk = 0 ∨ kk = 1 ∨ kk = 2 ∨ kk = 3 by omega) with rfl | rfl | rfl | rfl
  · exact e
  · exact e
  · exact e
  · exact e
theorem m_when {tt : MM} {uu : SR} {dd : WD} {nn : Nat} (h : WR tt uu dd) (hn : 21000 < nn) (v1 v2 v3 : Int32) : Good tt uu (f_X7_when nn tt v1 v2 v3) (f_X8_when nn uu v1 v2 v3) := by
  have stay : ∀ vv : Int32, Good tt uu (some (vv, tt)) (some (vv, uu)) := fun vv => ⟨_, _, _, dd, rfl, rfl, h, CRest.rf, RRest.rf⟩
  have hC := h.1
  have hR := h.2.1
  have hO := h.2.2.1
  have h10 := hO.1
  unfold f_X7_when f_X8_when
  rcases m_asked h (show 20 < nn by omega) v1 v2 with ⟨st, how, h0, hW, h4, hh, rfl, rfl, a1, a2⟩ | ⟨a1, a2⟩
  rotate_left
  · rw [a1, a2]
    exact stay _
  have hs := hW.1
  rw [a1, a2, b1_eq, b1_eq, if_neg n10', if_neg n10']
  rcases cases32 v3 with ⟨q1, q2⟩ | ⟨pp, q1, rfl⟩
  · rw [C_hasM q1, R_oneM hR.1 h10 q2, b1_eq, b1_eq, if_pos rfl, if_pos rfl]
    exact stay _
  rw [C_has hC.1 h10 q1, R_one hR.1 h10 q1, b1_eq, b1_eq, ifp01, ifp01]
  by_cases q : pp < dN dd
  rotate_left
  · rw [if_neg q, if_neg q]
    exact stay _
  rw [if_pos q, if_pos q, R_has (by omega) (show pp < 31 by omega), b1_eq, if01]
  simp only [bit_z (show st < 2 ^ 31 by omega) (show pp < 31 by omega)]
  by_cases q2 : st.testBit pp = true
  rotate_left
  · rw [if_neg q2, if_pos (by simpa using q2)]
    exact stay _
  rw [if_pos q2, if_neg (fun z => by rw [q2] at z; exact absurd z (by decide))]
  obtain ⟨t2, u2, hWR, hc, hr, k2, hH, hcase⟩ := m_search h hW h0 h4 hh hn
  have hp10 := bit10 hs q2
  have hrk := rn_lt hp10 q2
  rcases hcase with ⟨e1, e2⟩ | ⟨sg', h12, e1, e2, k4, k50⟩
  · rw [e1, e2]
    exact ⟨_, _, _, dd, rfl, rfl, hWR, hc, hr⟩
  · have hm2 := mx11 h12
    have q1' : q4n (dg st sg') < 65536 := q4n_lt (fun kk _ => dg_lt _ _ _)
    have hvl : val st sg' < 2 ^ 31 := by
      unfold val
      generalize q4n (dg st sg') = x1 at q1' ⊢
      generalize mxN sg' (rn st 10) = x3 at hm2 ⊢
      omega
    have hdv : val st sg' / 2 ^ (4 * (3 - rn st pp)) ≤ val st sg' := Nat.div_le_self _ _
    have hmin : f_X0_minuteOf t2 (nI pp) = some (nI (sg' (rn st pp))) := by
      unfold f_X0_minuteOf
      rw [C_shift k2 hs hp10 (by omega), b1_eq, k4, pk_shrN hvl _ (4 * (3 - rn st pp)) (s_l _ (by omega)), pk_andN (m := 15) (by omega) 4 (by decide), show (2 : Nat) ^ 4 = 16 by decide, val_dig h4 hrk (h12 _ hrk)]
    obtain ⟨xx, l1, rfl⟩ := it1_inv (bb := lb_X8_when_42 nn u2 (nI pp)) (fun kx v4 => v4 = nI kx ∧ kx ≤ rn st pp) (rn st pp) (fun xx => xx = nI (rn st pp)) (by
      rintro kx v4 hle ⟨rfl, hk⟩
      obtain ⟨p1, p2, p3⟩ := pk_ok hs (show kx < rn st 10 by omega)
      unfold lb_X8_when_42
      rw [ix_nI (show kx < 4 by omega) (by omega), nI_clamp (show kx < 2 ^ 31 by omega), hH.2 kx (by omega)]
      by_cases z : kx = rn st pp
      · rw [if_pos (show nI (pk st kx) = nI pp by rw [z, pk_rn hs q2])]
        exact Or.inr ⟨_, rfl, by rw [z]⟩
      · rw [if_neg (show ¬ nI (pk st kx) = nI pp from fun y => z (by rw [← (nI_eq (by omega) q1).mp y]; exact p2.symm)), nm_eq, nI_1]
        exact Or.inl ⟨by omega, _, rfl, rfl, by omega⟩) nn 0 (by omega) ⟨rfl, by omega⟩
    rw [e1, e2, b1_eq, b1_eq]
    dsimp only
    rw [if_neg n10', hmin, b1_eq, if_pos (nI_pos' (show mxN sg' (rn st 10) < 2 ^ 31 by omega)), show it1 (lb_X8_when_42 nn u2 (nI pp)) nn (0 : Int32) = some (nI (rn st pp)) from l1, b1_eq, ix_nI (show rn st pp < 4 by omega) (by omega), nI_clamp (show rn st pp < 2 ^ 31 by omega), k50 _ hrk]
    exact ⟨_, _, _, dd, rfl, rfl, hWR, hc, hr⟩
