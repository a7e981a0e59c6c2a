/-! people, whole -/
theorem m_people {tt : MM} {uu : SR} {dd : WD} {nn : Nat} (h : WR tt uu dd) (hT : TR tt uu) (hn : 130 < nn) : Good0 tt uu (f_X7_people nn tt) (f_X8_people nn uu) := by
  obtain ⟨hC, hR, hO, hfit⟩ := h
  obtain ⟨bt, ln, hB, c1, c2, r1, r2⟩ := hT
  have hl := hB.1
  have g0 : ¬ (0 : Int32) ≤ -1 := by decide
  rcases m_readP hB c1 c2 r1 r2 hn with ⟨qs, t2, u2, ok, a1, a2, a3, a4, a5⟩ | ⟨mm, t2, u2, hm1, hm2, a1, a2, a3, a4, a5, a6⟩
  · obtain ⟨q2, hs, e2⟩ := R_next hB a5 (by omega) (show 121 < nn by omega)
    have eq := isSk_un hs (isSk_at ok)
    subst eq
    have hq : q2 ≤ ln := hs.2.1
    have hneg : ¬ (0 : Int32) ≤ (-20 : Int32) - nI q2 := fun z => (fa_of_lt (m20 (show q2 ≤ 200 by omega)).2).2.1 z
    have e5 : f_X7_people nn tt = some ((-20 : Int32) - nI q2, st1 t2 13 2 (0 : Int32)) := by
      unfold f_X7_people
      rw [a1, b1_eq, nm_eq, if_neg hneg]
    have e6 : f_X8_people nn uu = some ((-20 : Int32) - nI q2, sr1 (sr1 u2 39 18 (nI q2)) 39 17 (0 : Int32)) := by
      unfold f_X8_people f_X8_people_14
      rw [a2, b1_eq, if_pos rfl, e2, b1_eq, nm_eq, if_pos rfl, sr1_o (show 18 ≠ 17 by omega), sr1_s]
    exact ⟨_, _, _, dd, e5, e6, ⟨(hC.pf a3).s13, ((hR.pf a4).s39 (by omega)).s39 (by omega), hO, hfit⟩, TR_0 st1_s sr1_s, a3.z.s1 (by omega), (a4.z.s1 (by omega) (by omega)).s1 (by omega) (by omega)⟩
  · have hC1 : CW (st1 t2 13 2 (0 : Int32)) dd := (hC.pf a3).s13
    have hR1 : RW (sr1 u2 39 17 (0 : Int32)) dd := (hR.pf a4).s39 (by omega)
    obtain ⟨g1, d1, B1⟩ := C_wSand (kb := 28) hC1 (show 13 < nn by omega) (by omega)
    have hC2 : CW (stA (st1 t2 13 2 (0 : Int32)) 28 g1) dd := CW_stA hC1 (by omega)
    have hsd := sand_ok hO
    have ev := C_even (tt := stA (st1 t2 13 2 (0 : Int32)) 28 g1) (kb := 28) (li := dli dd) (by rw [stA_same]; exact B1) hsd hO.2.2.2.2
    obtain ⟨w1, d2, F1', L1⟩ := R_sandP (nn := nn) hR1.2.2.2.2.2.1 (by omega)
    have hR2 := hR1.fr F1'
    obtain ⟨w2, d3, F2', -⟩ := R_evenNow (nn := nn) (li := dli dd) L1 hsd (by omega) hR2.2.2.2.2.2.2.2.1 hO.2.2.2.2
    have hR3 := hR2.fr F2'
    have hF := F1'.tr F2'
    have k17 : w2.1 39 17 = 0 := by rw [hF.2.1 17 (by omega), sr1_s]
    have hCz : CR0 tt (stA (st1 t2 13 2 (0 : Int32)) 28 g1) := (a3.z.s1 (by omega)).sA (by omega)
    have hRz : RR0 uu w2 := (a4.z.s1 (by omega) (by omega)).tr hF.rest.z
    have k132 : stA (st1 t2 13 2 (0 : Int32)) 28 g1 13 2 = 0 := by rw [stA_ne _ g1 (by omega), st1_s]
    unfold f_X7_people f_X8_people f_X8_people_14
    rw [a1, a2]
    simp only [b1_eq, nm_eq, if_neg n10', if_pos (nI_pos' (show mm < 2 ^ 31 by omega)), d1, hC2.2.2.2.2.2.2.2, ev, d2, d3, if01]
    by_cases hq : evB (fun cc => (dsd dd cc : Int)) (dli dd) = true
    rotate_left
    · rw [if_neg hq, if_neg hq]
      exact ⟨_, _, _, dd, rfl, rfl, ⟨hC2, hR3, hO, hfit⟩, TR_0 k132 k17, hCz, hRz⟩
    · rw [if_pos hq, if_pos hq]
      have hE : EN PPp mm (stA (st1 t2 13 2 (0 : Int32)) 28 g1) w2 := by
        intro jj hj
        rw [stA_ne _ g1 (show 15 ≠ 28 by omega), stA_ne _ g1 (show 16 ≠ 28 by omega), st1_ne (show 15 ≠ 13 by omega), st1_ne (show 16 ≠ 13 by omega), hF.1 47 (by omega) (by omega), sr1_ne (by omega)]
        exact a5 jj hj
      have h19 : w2.1 39 19 = nI mm := by rw [hF.2.1 19 (by omega), sr1_o (by omega)]; exact a6
      obtain ⟨t3, u3, d4, l1, l2, hW, hN, f1, f2, f3⟩ := m_adds hC2 hR3 hO hm1 hm2 hE h19 hn
      rw [l1, l2, b1_eq, b1_eq, hW.2.1.1, hN]
      exact ⟨_, _, _, d4, rfl, rfl, hW, TR_0 (by rw [f1 13 (by omega)]; exact k132) (by rw [f3 17 (by omega)]; exact k17), fun kk hk => (f1 kk (by omega)).trans (hCz kk hk), ⟨fun kk hk => (f2 kk (by omega)).trans (hRz.1 kk hk), (f3 29 (by omega)).trans hRz.2⟩⟩
