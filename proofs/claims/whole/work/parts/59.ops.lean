/-! board, leave, sand, turn, may -/
def bdD (dd : WD) (ii : Nat) : WD := (dN dd, dk dd, dw dd, (fun jj => if jj = ii then ft dd else dp dd jj), (fun jj => if jj = ii then dmi dd else dsn dd jj), dsd dd, dmi dd, dli dd)
theorem who_mv {dd : WD} {ii oo cc : Nat} (h1 : dp dd ii ≠ cc) (h2 : oo ≠ cc) : whoAt (mvP dd ii oo) cc = whoAt dd cc := by
  unfold whoAt
  refine setOf_cong _ (fun jj hj => ?_)
  show ((if jj = ii then oo else dp dd jj) == cc) = (dp dd jj == cc)
  by_cases q : jj = ii
  · subst q
    rw [if_pos rfl, beq_false_of_ne h1, beq_false_of_ne h2]
  · rw [if_neg q]
theorem bdD_Ok {dd : WD} {ii : Nat} (hO : DOk dd) : DOk (bdD dd ii) := by
  have hft := ft_lt dd
  have hm := hO.2.2.2.1
  refine ⟨hO.1, fun jj hj => ?_, hO.2.2.1, hO.2.2.2.1, hO.2.2.2.2⟩
  obtain ⟨q1, q2, q3, q4, q5⟩ := hO.2.1 jj hj
  refine ⟨q1, q2, q3, ?_, ?_⟩
  · show (if jj = ii then ft dd else dp dd jj) ≤ 13
    split <;> omega
  · show (if jj = ii then dmi dd else dsn dd jj) ≤ 999
    split <;> omega
theorem bdD_fit {dd : WD} {ii : Nat} (h : ∀ cc, cc < 12 → fitB dd (whoAt dd cc) = true) (hp : 12 ≤ dp dd ii) (hm : mayI dd ii = true) : ∀ cc, cc < 12 → fitB (bdD dd ii) (whoAt (bdD dd ii) cc) = true := by
  intro cc hc
  show fitB dd (whoAt (mvP dd ii (ft dd)) cc) = true
  by_cases q : cc = ft dd
  · subst q
    unfold mayI at hm
    rw [Bool.and_eq_true] at hm
    exact hm.1
  · rw [who_mv (by omega) (fun z => q z.symm)]
    exact h cc hc
theorem mvP_fit {dd : WD} {ii : Nat} (h : ∀ cc, cc < 12 → fitB dd (whoAt dd cc) = true) (hp : dp dd ii = ft dd) (hm : mayO dd ii = true) : ∀ cc, cc < 12 → fitB (mvP dd ii 13) (whoAt (mvP dd ii 13) cc) = true := by
  intro cc hc
  show fitB dd (whoAt (mvP dd ii 13) cc) = true
  by_cases q : cc = ft dd
  · subst q
    unfold mayO at hm
    rw [Bool.and_eq_true] at hm
    exact hm.1
  · rw [who_mv (by omega) (by omega)]
    exact h cc hc
theorem C_waits {tt : MM} {dd : WD} {kk : Nat} (hC : CW tt dd) (hO : DOk dd) (hk : kk < 2 ^ 31) : f_X6_waits tt (nI kk) = some (if kk < dN dd ∧ dp dd kk = 12 then 1 else 0) := by
  have h10 := hO.1
  unfold f_X6_waits
  rw [C_has hC.1 h10 hk, b1_eq, ifp01]
  by_cases q : kk < dN dd
  · have hp := (hO.2.1 kk q).2.2.2.1
    rw [if_pos q, ix_nI (show kk < 10 by omega) (by omega), nI_clamp hk, hC.2.2.2.1 kk q]
    by_cases q2 : dp dd kk = 12
    · rw [if_pos (show kk < dN dd ∧ dp dd kk = 12 from ⟨q, q2⟩), if_pos (show nI (dp dd kk) = (12 : Int32) by rw [q2]; rfl)]
    · rw [if_neg (show ¬ (kk < dN dd ∧ dp dd kk = 12) from fun z => q2 z.2), if_neg (show ¬ nI (dp dd kk) = (12 : Int32) from fun z => q2 ((nI_eq (b := 12) (by omega) (by omega)).mp z))]
  · rw [if_neg q, if_neg (fun z => q z.1)]
theorem C_foots {tt : MM} {dd : WD} {kk : Nat} (hC : CW tt dd) (hO : DOk dd) (hk : kk < 2 ^ 31) : f_X6_ridesAtFoot tt (nI kk) = some (if kk < dN dd ∧ dp dd kk = ft dd then 1 else 0) := by
  have h10 := hO.1
  have hft := ft_lt dd
  unfold f_X6_ridesAtFoot
  rw [C_has hC.1 h10 hk, b1_eq, ifp01]
  by_cases q : kk < dN dd
  · have hp := (hO.2.1 kk q).2.2.2.1
    rw [if_pos q, ix_nI (show kk < 10 by omega) (by omega), C_foot hC hO, b1_eq, nI_clamp hk, hC.2.2.2.1 kk q]
    by_cases q2 : dp dd kk = ft dd
    · rw [if_pos (show kk < dN dd ∧ dp dd kk = ft dd from ⟨q, q2⟩), if_pos (show nI (dp dd kk) = nI (ft dd) by rw [q2])]
    · rw [if_neg (show ¬ (kk < dN dd ∧ dp dd kk = ft dd) from fun z => q2 z.2), if_neg (show ¬ nI (dp dd kk) = nI (ft dd) from fun z => q2 ((nI_eq (b := ft dd) (by omega) (by omega)).mp z))]
  · rw [if_neg q, if_neg (fun z => q z.1)]
theorem C_waitsM {tt : MM} {vv : Int32} (h : vv < 0) : f_X6_waits tt vv = some 0 := by
  unfold f_X6_waits
  rw [C_hasM h]; rfl
theorem C_footsM {tt : MM} {vv : Int32} (h : vv < 0) : f_X6_ridesAtFoot tt vv = some 0 := by
  unfold f_X6_ridesAtFoot
  rw [C_hasM h]; rfl
theorem C_getIn {tt : MM} {dd : WD} {ii : Nat} (hC : CW tt dd) (hO : DOk dd) (hi : ii < 10) : ∃ t2, f_X6_getIn tt (nI ii) = some t2 ∧ CW t2 (bdD dd ii) ∧ (∀ kk, ¬ (4 ≤ kk ∧ kk ≤ 5) → t2 kk = tt kk) := by
  obtain ⟨c1, c2, c3, c4, c5, c6, c7, c8⟩ := hC
  refine ⟨st1 (st1 tt 4 ii (nI (ft dd))) 5 ii (nI (dmi dd)), ?_, ?_, ?_⟩
  · unfold f_X6_getIn
    rw [C_foot ⟨c1, c2, c3, c4, c5, c6, c7, c8⟩ hO, b1_eq]
    simp only [ix_nI hi (show 10 < 2 ^ 31 by omega), nm_eq, nI_clamp (show ii < 2 ^ 31 by omega), st1_ne (show 1 ≠ 4 by omega), c7]
  · unfold CW
    rw [st1_ne (show 1 ≠ 5 by omega), st1_ne (show 1 ≠ 4 by omega), st1_ne (show 2 ≠ 5 by omega), st1_ne (show 2 ≠ 4 by omega), st1_ne (show 3 ≠ 5 by omega), st1_ne (show 3 ≠ 4 by omega), st1_ne (show 6 ≠ 5 by omega), st1_ne (show 6 ≠ 4 by omega)]
    refine ⟨c1, c2, c3, fun jj hj => ?_, fun jj hj => ?_, c6, c7, c8⟩
    · rw [st1_ne (by omega), st1_at]
      show _ = nI (if jj = ii then ft dd else dp dd jj)
      by_cases q : jj = ii
      · rw [if_pos q, if_pos q]
      · rw [if_neg q, if_neg q]; exact c4 jj hj
    · rw [st1_at]
      show _ = nI (if jj = ii then dmi dd else dsn dd jj)
      by_cases q : jj = ii
      · rw [if_pos q, if_pos q]
      · rw [if_neg q, if_neg q, st1_ne (by omega)]; exact c5 jj hj
  · intro kk hk
    rw [st1_ne (by omega), st1_ne (by omega)]
theorem R_bd {uu : SR} {dd : WD} {ii : Nat} (hR : RW uu dd) : RW (sr1 (sr1 uu 42 ii (nI (ft dd))) 43 ii (nI (dmi dd))) (bdD dd ii) := by
  obtain ⟨c1, c2, c3, c4, c5, c6, c7, c8, c9⟩ := hR
  have hft := ft_lt dd
  unfold RW
  rw [sr1_ne (show 39 ≠ 43 by omega), sr1_ne (show 39 ≠ 42 by omega), sr1_ne (show 40 ≠ 43 by omega), sr1_ne (show 40 ≠ 42 by omega), sr1_ne (show 41 ≠ 43 by omega), sr1_ne (show 41 ≠ 42 by omega), sr1_ne (show 44 ≠ 43 by omega), sr1_ne (show 44 ≠ 42 by omega)]
  refine ⟨c1, c2, c3, fun jj hj => ?_, fun jj hj => ?_, c6, c7, c8, c9⟩
  · rw [sr1_ne (by omega), sr1_at]
    show _ = nI (if jj = ii then ft dd else dp dd jj)
    by_cases q : jj = ii
    · rw [if_pos q, if_pos q]
    · rw [if_neg q, if_neg q]; exact c4 jj hj
  · rw [sr1_at]
    show _ = if (if jj = ii then ft dd else dp dd jj) = 12 then -4 else nI (if jj = ii then dmi dd else dsn dd jj)
    by_cases q : jj = ii
    · simp only [if_pos q]
      rw [if_neg (by omega)]
    · simp only [if_neg q]
      rw [sr1_ne (by omega)]; exact c5 jj hj
theorem R_lv {uu : SR} {dd : WD} {ii : Nat} (hR : RW uu dd) (hp : dp dd ii ≠ 12) : RW (sr1 uu 42 ii (nI 13)) (mvP dd ii 13) := by
  obtain ⟨r1, r2, r3, r4, -, r6, r7, r8, r9⟩ := mvP_RX (ii := ii) (cc := 13) hR.x
  refine ⟨r1, r2, r3, r4, fun jj hj => ?_, r6, r7, r8, r9⟩
  rw [sr1_ne (by omega)]
  show _ = if (if jj = ii then 13 else dp dd jj) = 12 then -4 else nI (dsn dd jj)
  rw [hR.2.2.2.2.1 jj hj]
  by_cases q : jj = ii
  · subst q
    rw [if_pos rfl, if_neg hp, if_neg (by omega)]
  · rw [if_neg q]
theorem m_board {tt : MM} {uu : SR} {dd : WD} {nn : Nat} (h : WR tt uu dd) (hn : 13 < nn) (v1 : Int32) : Good tt uu (f_X7_board nn tt v1) (f_X8_board nn uu v1) := by
  have h0 := h
  obtain ⟨hC, hR, hO, hfit⟩ := h
  have h10 := hO.1
  have hft := ft_lt dd
  unfold f_X7_board f_X8_board
  rcases cases32 v1 with ⟨q1, q2⟩ | ⟨ii, q1, rfl⟩
  · rw [C_waitsM q1, R_oneM hR.1 h10 q2, b1_eq, b1_eq, if_pos rfl, if_pos rfl]
    exact ⟨_, _, _, dd, rfl, rfl, h0, CRest.rf, RRest.rf⟩
  · rw [C_waits hC hO q1, R_one hR.1 h10 q1, b1_eq, b1_eq, ifp01, ifp01]
    by_cases q : ii < dN dd
    · have hp4 := (hO.2.1 ii q).2.2.2.1
      simp only [if_pos q, ix_nI (show ii < 10 by omega) (show 10 < 2 ^ 31 by omega), nI_clamp q1, hR.2.2.2.1 ii q, lit32 12, nI_eq (show dp dd ii < 2 ^ 31 by omega) (show 12 < 2 ^ 31 by omega)]
      by_cases q3 : dp dd ii = 12
      · rw [if_pos ⟨q, q3⟩, if_pos q3]
        obtain ⟨gg, a1⟩ := C_mayI (kb := 28) hC hO hn (by omega) q (by omega)
        obtain ⟨ww, d1, hF⟩ := R_mayB hR.x hO hn q
        have hC2 : CW (stA tt 28 gg) dd := CW_stA hC (by omega)
        have hR2 : RW ww dd := hR.fr hF
        rw [a1, d1, b1_eq, b1_eq]
        simp only [if01]
        have hc : CRest tt (stA tt 28 gg) := CRest.rf.sA ck28 (by omega)
        by_cases q4 : mayI dd ii = true
        · rw [if_pos q4, if_pos q4]
          obtain ⟨t2, a2, a3, a4⟩ := C_getIn hC2 hO (show ii < 10 by omega)
          have hOb : DOk (bdD dd ii) := bdD_Ok hO
          have d3 := R_bd (ii := ii) hR2
          have hw : whoAt (bdD dd ii) (ft dd) < 1024 := whoAt_lt hOb _
          rw [a2, b1_eq, C_foot a3 hOb, b1_eq, C_who a3 hOb (by omega) (show dmi (bdD dd ii) % 12 < 1000 from by have := ft_lt (bdD dd ii); omega), b1_eq, C_seats a3 hOb (by omega) (by have := whoAt_lt hOb (dmi (bdD dd ii) % 12); omega), b1_eq]
          simp only [nm_eq, hR2.2.2.2.2.2.2.2.2, sr1_ne (show 39 ≠ 42 by omega), sr1_ne (show 39 ≠ 43 by omega), hR2.2.2.2.2.2.2.1]
          rw [R_who d3.x hOb (by omega) (show dmi dd % 12 < 1000 by omega), b1_eq, R_seats d3.x hOb (by omega) (by have := whoAt_lt hOb (dmi dd % 12); omega), b1_eq]
          exact ⟨_, _, _, bdD dd ii, rfl, rfl, ⟨a3, d3, hOb, bdD_fit hfit (by omega) q4⟩, hc.tr ⟨fun kk hk => a4 kk (by unfold CK at hk; omega), by rw [a4 13 (by omega)]⟩, (hF.rest.s1 (by omega)).s1 (by omega)⟩
        · rw [if_neg q4, if_neg q4]
          exact ⟨_, _, _, dd, rfl, rfl, ⟨hC2, hR2, hO, hfit⟩, hc, hF.rest⟩
      · rw [if_neg (fun z => q3 z.2), if_neg q3]
        exact ⟨_, _, _, dd, rfl, rfl, h0, CRest.rf, RRest.rf⟩
    · rw [if_neg q, if_neg (fun z => q z.1)]
      exact ⟨_, _, _, dd, rfl, rfl, h0, CRest.rf, RRest.rf⟩
theorem m_leave {tt : MM} {uu : SR} {dd : WD} {nn : Nat} (h : WR tt uu dd) (hn : 13 < nn) (v1 : Int32) : Good tt uu (f_X7_leave nn tt v1) (f_X8_leave nn uu v1) := by
  have h0 := h
  obtain ⟨hC, hR, hO, hfit⟩ := h
  have h10 := hO.1
  have hft := ft_lt dd
  unfold f_X7_leave f_X8_leave
  rcases cases32 v1 with ⟨q1, q2⟩ | ⟨ii, q1, rfl⟩
  · rw [C_footsM q1, R_oneM hR.1 h10 q2, b1_eq, b1_eq, if_pos rfl, if_pos rfl]
    exact ⟨_, _, _, dd, rfl, rfl, h0, CRest.rf, RRest.rf⟩
  · rw [C_foots hC hO q1, R_one hR.1 h10 q1, b1_eq, b1_eq, ifp01, ifp01]
    by_cases q : ii < dN dd
    · have hp4 := (hO.2.1 ii q).2.2.2.1
      simp only [if_pos q, ix_nI (show ii < 10 by omega) (show 10 < 2 ^ 31 by omega), nI_clamp q1, hR.2.2.2.1 ii q, hR.2.2.2.2.2.2.2.2, nI_eq (show dp dd ii < 2 ^ 31 by omega) (show dmi dd % 12 < 2 ^ 31 by omega)]
      by_cases q3 : dp dd ii = ft dd
      · rw [if_pos ⟨q, q3⟩, if_pos q3]
        obtain ⟨gg, a1⟩ := C_mayO (kb := 28) hC hO hn (by omega) q q3
        obtain ⟨ww, d1, hF⟩ := R_mayL hR.x hO hn q q3
        have hC2 : CW (stA tt 28 gg) dd := CW_stA hC (by omega)
        have hR2 : RW ww dd := hR.fr hF
        rw [a1, d1, b1_eq, b1_eq]
        simp only [if01]
        have hc : CRest tt (stA tt 28 gg) := CRest.rf.sA ck28 (by omega)
        by_cases q4 : mayO dd ii = true
        · rw [if_pos q4, if_pos q4]
          have d3 := R_lv (ii := ii) hR2 (by omega)
          have a3 : CW (st1 (stA tt 28 gg) 4 ii (nI 13)) (mvP dd ii 13) := by
            obtain ⟨c1, c2, c3, c4, c5, c6, c7, c8⟩ := hC2
            unfold CW
            rw [st1_ne (show 1 ≠ 4 by omega), st1_ne (show 2 ≠ 4 by omega), st1_ne (show 3 ≠ 4 by omega), st1_ne (show 5 ≠ 4 by omega), st1_ne (show 6 ≠ 4 by omega)]
            refine ⟨c1, c2, c3, fun jj hj => ?_, c5, c6, c7, c8⟩
            rw [st1_at]
            show _ = nI (if jj = ii then 13 else dp dd jj)
            by_cases q : jj = ii
            · rw [if_pos q, if_pos q]
            · rw [if_neg q, if_neg q]; exact c4 jj hj
          unfold f_X6_getOut
          simp only [ix_nI (show ii < 10 by omega) (show 10 < 2 ^ 31 by omega), nI_clamp q1, nm_eq, b1_eq, lit32 13, sr1_ne (show 39 ≠ 42 by omega), sr1_ne (show 43 ≠ 42 by omega), st1_ne (show 1 ≠ 4 by omega), st1_ne (show 5 ≠ 4 by omega), hC2.2.2.2.2.2.2.1, hR2.2.2.2.2.2.2.1, hC2.2.2.2.2.1 ii q, hR2.2.2.2.2.1 ii q, if_neg (show ¬ dp dd ii = 12 by omega)]
          exact ⟨_, _, _, mvP dd ii 13, rfl, rfl, ⟨a3, d3, mvP_Ok hO (by omega), mvP_fit hfit q3 q4⟩, hc.s1 (ck16 (by omega)) (by omega), hF.rest.s1 (by omega)⟩
        · rw [if_neg q4, if_neg q4]
          exact ⟨_, _, _, dd, rfl, rfl, ⟨hC2, hR2, hO, hfit⟩, hc, hF.rest⟩
      · rw [if_neg (fun z => q3 z.2), if_neg q3]
        exact ⟨_, _, _, dd, rfl, rfl, h0, CRest.rf, RRest.rf⟩
    · rw [if_neg q, if_neg (fun z => q z.1)]
      exact ⟨_, _, _, dd, rfl, rfl, h0, CRest.rf, RRest.rf⟩
theorem m_sand {tt : MM} {uu : SR} {dd : WD} {nn : Nat} (h : WR tt uu dd) (hn : 13 < nn) (v1 : Int32) : Good tt uu (f_X7_sand nn tt v1) (f_X8_sand nn uu v1) := by
  have h0 := h
  obtain ⟨hC, hR, hO, hfit⟩ := h
  have hft := ft_lt dd
  unfold f_X7_sand f_X8_sand
  rcases R_inC v1 0 99 (by omega) (by omega) with ⟨e1, kk, -, hk, rfl⟩ | ⟨e1, e2⟩
  · rw [show f_X8_in (nI kk).toInt64 (0 : Int64) (99 : Int64) = some 1 from e1, b1_eq, if_neg n10', if_neg (nI_pos (show kk < 2 ^ 31 by omega)), if_pos (show nI kk ≤ (99 : Int32) from nI_le (b := 99) hk (by omega))]
    obtain ⟨gg, a1⟩ := C_mayS (kb := 28) hC hO hn (by omega) hk
    have hC2 : CW (stA tt 28 gg) dd := CW_stA hC (by omega)
    have hO2 : DOk (sdD dd (ft dd) kk) := sdD_Ok hO hk
    have hX2 : RX (sr1 uu 44 (ft dd) (nI kk)) (sdD dd (ft dd) kk) := sdD_RX hR.x
    obtain ⟨ww, d1, hF⟩ := R_even hX2 hO2 hn
    have d1 : f_X8_isEven nn (sr1 uu 44 (ft dd) (nI kk)) = some (if mayS dd kk then 1 else 0, ww) := d1
    have hX3 := hX2.fr hF
    have k43 : ww.1 43 = uu.1 43 := by rw [hF.1 43 (by omega) (by omega), sr1_ne (by omega)]
    have k8 : ww.1 39 8 = nI (ft dd) := hX3.2.2.2.2.2.2.2.2
    have hR3 : RRest uu ww := (RRest.rf.s1 (by omega)).tr hF.rest
    have hc : CRest tt (stA tt 28 gg) := CRest.rf.sA ck28 (by omega)
    rw [a1, b1_eq]
    simp only [hR.2.2.2.2.2.2.2.2, ix_nI (show dmi dd % 12 < 12 from hft) (show 12 < 2 ^ 31 by omega), nI_clamp (show dmi dd % 12 < 2 ^ 31 by omega), nm_eq, d1, b1_eq, if01, k8, C_foot hC2 hO]
    have k44 : uu.1 44 (dmi dd % 12) = nI (dsd dd (ft dd)) := hR.2.2.2.2.2.1 _ hft
    have k6 : stA tt 28 gg 6 (dmi dd % 12) = nI (dsd dd (ft dd)) := hC2.2.2.2.2.2.1 _ hft
    by_cases q4 : mayS dd kk = true
    · rw [if_pos q4, if_pos q4, k44, k6]
      have a3 : CW (st1 (stA tt 28 gg) 6 (ft dd) (nI kk)) (sdD dd (ft dd) kk) := by
        obtain ⟨c1, c2, c3, c4, c5, c6, c7, c8⟩ := hC2
        unfold CW
        rw [st1_ne (show 1 ≠ 6 by omega), st1_ne (show 2 ≠ 6 by omega), st1_ne (show 3 ≠ 6 by omega), st1_ne (show 4 ≠ 6 by omega), st1_ne (show 5 ≠ 6 by omega)]
        refine ⟨c1, c2, c3, c4, c5, fun jj hj => ?_, c7, c8⟩
        rw [st1_at]
        show _ = nI (if jj = ft dd then kk else dsd dd jj)
        by_cases q : jj = ft dd
        · rw [if_pos q, if_pos q]
        · rw [if_neg q, if_neg q]; exact c6 jj hj
      refine ⟨_, _, _, sdD dd (ft dd) kk, rfl, rfl, ⟨a3, ?_, hO2, hfit⟩, hc.s1 (ck16 (by omega)) (by omega), hR3⟩
      obtain ⟨r1, r2, r3, r4, r5, r6, r7, r8, r9⟩ := hX3
      exact ⟨r1, r2, r3, r4, by rw [k43]; exact hR.2.2.2.2.1, r6, r7, r8, r9⟩
    · rw [if_neg q4, if_neg q4]
      refine ⟨_, _, _, dd, rfl, rfl, ⟨hC2, ?_, hO, hfit⟩, hc, hR3.s1 (by omega)⟩
      obtain ⟨r1, r2, r3, r4, r5, r6, r7, r8, r9⟩ := hX3
      unfold RW
      rw [sr1_ne (show 39 ≠ 44 by omega), sr1_ne (show 40 ≠ 44 by omega), sr1_ne (show 41 ≠ 44 by omega), sr1_ne (show 42 ≠ 44 by omega), sr1_ne (show 43 ≠ 44 by omega), k43]
      refine ⟨r1, r2, r3, r4, hR.2.2.2.2.1, fun jj hj => ?_, r7, r8, r9⟩
      rw [sr1_at]
      by_cases q : jj = dmi dd % 12
      · rw [if_pos q, q, k44]
      · rw [if_neg q, r6 jj hj]
        show nI (if jj = dmi dd % 12 then kk else dsd dd jj) = _
        rw [if_neg q]
  · rw [show f_X8_in v1.toInt64 (0 : Int64) (99 : Int64) = some 0 from e1, b1_eq, if_pos rfl]
    rcases e2 with e2 | ⟨jj, e3, rfl, e4⟩
    · rw [if_pos e2]
      exact ⟨_, _, _, dd, rfl, rfl, h0, CRest.rf, RRest.rf⟩
    · rw [if_neg (nI_pos e3), if_neg (show ¬ nI jj ≤ (99 : Int32) from nI_ge (a := 99) (by omega) e3)]
      exact ⟨_, _, _, dd, rfl, rfl, h0, CRest.rf, RRest.rf⟩
def tuD (dd : WD) (kk : Nat) : WD := (dN dd, dk dd, dw dd, dp dd, dsn dd, dsd dd, dmi dd + kk, dli dd)
theorem m_turn {tt : MM} {uu : SR} {dd : WD} (h : WR tt uu dd) (v1 : Int32) : Good tt uu (f_X7_turn tt v1) (f_X8_turn uu v1) := by
  have h0 := h
  obtain ⟨hC, hR, hO, hfit⟩ := h
  have hm := hO.2.2.2.1
  unfold f_X7_turn f_X8_turn
  rcases R_inC v1 1 60 (by omega) (by omega) with ⟨e1, kk, hk1, hk, rfl⟩ | ⟨e1, e2⟩
  · rw [show f_X8_in (nI kk).toInt64 (1 : Int64) (60 : Int64) = some 1 from e1, b1_eq, if_neg n10', if_neg (show ¬ nI kk < (1 : Int32) from nI_nlt (b := 1) hk1 (by omega)), if_pos (show nI kk ≤ (60 : Int32) from nI_le (b := 60) hk (by omega))]
    simp only [hC.2.2.2.2.2.2.1, hR.2.2.2.2.2.2.1, nI_add, nm_eq, lit32 999, nI_leI (show dmi dd + kk < 2 ^ 31 by omega) (show 999 < 2 ^ 31 by omega)]
    by_cases q : dmi dd + kk ≤ 999
    · rw [if_pos q, if_pos q]
      simp only [sr1_o (show 8 ≠ 7 by omega), sr1_o (show 7 ≠ 8 by omega), sr1_s, st1_s, hR.2.2.2.2.2.2.2.2, nI_add, lit32 12, pk_rem (show dmi dd % 12 + kk < 2 ^ 31 by omega) (show 0 < 12 by omega) (show 12 < 2 ^ 31 by omega)]
      refine ⟨_, _, _, tuD dd kk, rfl, rfl, ⟨?_, ?_, ⟨hO.1, hO.2.1, hO.2.2.1, q, hO.2.2.2.2⟩, hfit⟩, CRest.rf.s1 (ck16 (by omega)) (by omega), (RRest.rf.s39 (by omega) (by omega)).s39 (by omega) (by omega)⟩
      · obtain ⟨c1, c2, c3, c4, c5, c6, c7, c8⟩ := hC
        unfold CW
        rw [st1_ne (show 2 ≠ 1 by omega), st1_ne (show 3 ≠ 1 by omega), st1_ne (show 4 ≠ 1 by omega), st1_ne (show 5 ≠ 1 by omega), st1_ne (show 6 ≠ 1 by omega), st1_o (show 5 ≠ 6 by omega), st1_o (show 7 ≠ 6 by omega), st1_s]
        exact ⟨c1, c2, c3, c4, c5, c6, rfl, c8⟩
      · obtain ⟨c1, c2, c3, c4, c5, c6, c7, c8, c9⟩ := hR
        unfold RW
        rw [sr1_ne (show 40 ≠ 39 by omega), sr1_ne (show 41 ≠ 39 by omega), sr1_ne (show 42 ≠ 39 by omega), sr1_ne (show 43 ≠ 39 by omega), sr1_ne (show 44 ≠ 39 by omega), sr1_ne (show 40 ≠ 39 by omega), sr1_ne (show 41 ≠ 39 by omega), sr1_ne (show 42 ≠ 39 by omega), sr1_ne (show 43 ≠ 39 by omega), sr1_ne (show 44 ≠ 39 by omega), sr1_o (show 4 ≠ 8 by omega), sr1_o (show 4 ≠ 7 by omega), sr1_o (show 6 ≠ 8 by omega), sr1_o (show 6 ≠ 7 by omega), sr1_o (show 7 ≠ 8 by omega), sr1_s, sr1_s]
        refine ⟨c1, c2, c3, c4, c5, c6, rfl, c8, ?_⟩
        show nI ((dmi dd % 12 + kk) % 12) = nI ((dmi dd + kk) % 12)
        congr 1
        omega
    · rw [if_neg q, if_neg q]
      exact ⟨_, _, _, dd, rfl, rfl, h0, CRest.rf, RRest.rf⟩
  · rw [show f_X8_in v1.toInt64 (1 : Int64) (60 : Int64) = some 0 from e1, b1_eq, if_pos rfl]
    rcases e2 with e2 | ⟨jj, e3, rfl, e4⟩
    · rw [if_pos (show v1 < (1 : Int32) from neg_lt e2 (kk := 1) (by omega))]
      exact ⟨_, _, _, dd, rfl, rfl, h0, CRest.rf, RRest.rf⟩
    · by_cases q : jj < 1
      · rw [if_pos (show nI jj < (1 : Int32) from nI_lt (b := 1) q (by omega))]
        exact ⟨_, _, _, dd, rfl, rfl, h0, CRest.rf, RRest.rf⟩
      · rw [if_neg (show ¬ nI jj < (1 : Int32) from nI_nlt (b := 1) (by omega) e3), if_neg (show ¬ nI jj ≤ (60 : Int32) from nI_ge (a := 60) (by omega) e3)]
        exact ⟨_, _, _, dd, rfl, rfl, h0, CRest.rf, RRest.rf⟩
