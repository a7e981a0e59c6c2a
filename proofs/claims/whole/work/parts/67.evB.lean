/-! the operation evening, whole -/
theorem m_act {tt : MM} {uu : SR} {bt : Nat → Nat} {ln ps nn ii : Nat} (hT : TB bt ln) (h : CT tt bt ln ps) (h2 : RT uu bt ln ps) (hp : ps ≤ ln) (hn : 121 < nn) (hi : ii < 64) (hE : EN PPe ii tt uu) : (∃ qs cd t2 t3 u2, okP bt ln qs ∧ f_X5_readLetter nn tt 1 (nI ii) = some (cd, t2) ∧ (if cd = 0 then f_X5_readWhatFollows nn t2 (nI ii) else some (cd, t2)) = some ((-20 : Int32) - nI qs, t3) ∧ CPf tt t3 ∧ f_X8_readAct nn uu (nI (2 * ii)) = some (0, u2) ∧ RT u2 bt ln qs ∧ RPf uu u2) ∨ (∃ rs t2 t3 u2, ps + 1 ≤ rs ∧ rs ≤ ln ∧ f_X5_readLetter nn tt 1 (nI ii) = some (0, t2) ∧ f_X5_readWhatFollows nn t2 (nI ii) = some (0, t3) ∧ CPf tt t3 ∧ CT t3 bt ln rs ∧ f_X8_readAct nn uu (nI (2 * ii)) = some (1, u2) ∧ RT u2 bt ln rs ∧ RPf uu u2 ∧ EN PPe (ii + 1) t3 u2 ∧ u2.1 39 19 = uu.1 39 19) := by
  have hl := hT.1
  obtain ⟨qs, hs, e1, e2⟩ := m_next hT h h2 hp hn
  have hL := C_letter (kx := ii) hT h hn hi hs e1 (fun bb hb => idx_ac hb (by omega)) (fun bb => ltO_lt)
  obtain ⟨s1, s2, s3, s4⟩ := hs
  have w0 : f_X8_readAct nn uu (nI (2 * ii)) = if qs < ln ∧ ¬ acO (bt qs) = 9 then f_X8_readAct_31 nn (sr1 uu 39 18 (nI qs)) (nI (2 * ii)) (nI (bt qs)) else some (0, sr1 uu 39 18 (nI qs)) := by
    unfold f_X8_readAct
    rw [e2, b1_eq]
    simp only [lit32 105, lit32 111, lit32 115, lit32 116, nx_eq hT s2 105 (by omega), nx_eq hT s2 111 (by omega), nx_eq hT s2 115 (by omega), nx_eq hT s2 116 (by omega)]
    by_cases q : qs < ln
    · have e3 : nxB bt ln qs = nI (bt qs) := by unfold nxB; rw [if_neg (by omega)]
      simp only [eq_true q, true_and, e3]
      unfold acO ltO
      by_cases g0 : bt qs = 105
      · simp [g0]
      · by_cases g1 : bt qs = 111
        · simp [g1]
        · by_cases g2 : bt qs = 115
          · simp [g2]
          · by_cases g3 : bt qs = 116
            · simp [g3]
            · simp [g0, g1, g2, g3]
    · simp only [eq_false q, false_and, if_false]
  by_cases q : qs < ln ∧ ¬ acO (bt qs) = 9
  · rw [if_pos q] at hL w0
    have hac : acO (bt qs) < 4 := ltO_lt q.2
    have hlt := (hT.2 qs q.1).2
    have hC3 : CT (st1 (st1 (st1 tt 13 1 (nI qs)) 15 ii (nI (acO (bt qs)))) 13 1 (nI (qs + 1))) bt ln (qs + 1) := ((h.mv qs).w15).mv (qs + 1)
    have hR3 : RT (sr1 (sr1 (sr1 uu 39 18 (nI qs)) 47 (2 * ii) (nI (bt qs))) 39 18 (nI (qs + 1))) bt ln (qs + 1) := ((h2.mv qs).w47).mv (qs + 1)
    have cC : CPf tt (st1 (st1 (st1 tt 13 1 (nI qs)) 15 ii (nI (acO (bt qs)))) 13 1 (nI (qs + 1))) := ((CPf.rf.w13).w15).w13
    have cR : RPf uu (sr1 (sr1 (sr1 uu 39 18 (nI qs)) 47 (2 * ii) (nI (bt qs))) 39 18 (nI (qs + 1))) := ((RPf.rf.w39 (Or.inl rfl)).w47).w39 (Or.inl rfl)
    have x15 : (st1 (st1 (st1 tt 13 1 (nI qs)) 15 ii (nI (acO (bt qs)))) 13 1 (nI (qs + 1))) 15 ii = nI (acO (bt qs)) := by rw [st1_ne (by omega), st1_s]
    have x47 : (sr1 (sr1 (sr1 uu 39 18 (nI qs)) 47 (2 * ii) (nI (bt qs))) 39 18 (nI (qs + 1))).1 47 (2 * ii) = nI (bt qs) := by rw [sr1_ne (by omega), sr1_s]
    obtain ⟨tl, k1, k2⟩ := m_follow hT hC3 hR3 (by omega) hn hi (by omega) hac x15 x47
    have w1 : f_X8_readAct nn uu (nI (2 * ii)) = tl (sr1 (sr1 (sr1 uu 39 18 (nI qs)) 47 (2 * ii) (nI (bt qs))) 39 18 (nI (qs + 1))) := by
      rw [w0, k1, sr1_ne (show 39 ≠ 47 by omega), sr1_s, nI_1]
    rcases k2 with ⟨q2, t3, u3, a1, a2, a3, a4, a5, a6⟩ | ⟨rs, t3, u3, a1, a2, a3, a4, a5, a6, a7, a8, a9, a10, a11, a12, a13⟩
    · left
      exact ⟨q2, 0, _, t3, u3, a1, hL, by rw [if_pos rfl]; exact a2, cC.tr a3, by rw [w1]; exact a4, a5, cR.tr a6⟩
    · right
      refine ⟨rs, _, t3, u3, by omega, a2, hL, a3, cC.tr a4, a5, by rw [w1]; exact a6, a7, cR.tr a8, ?_, ?_⟩
      · refine hE.ad (fun jj hj => ⟨?_, ?_⟩) (fun jj hj => ?_) ?_
        · rw [a9, st1_ne (by omega), st1_o (by omega), st1_ne (by omega)]
        · rw [a10 jj (by omega), st1_ne (by omega), st1_ne (by omega), st1_ne (by omega)]
        · rw [a11 jj (by omega), sr1_ne (by omega), sr1_o (by omega), sr1_ne (by omega)]
        · refine ⟨bt qs, by omega, ?_, hac, ?_, a13⟩
          · rw [a11 _ (by omega)]; exact x47
          · rw [a9]; exact x15
      · rw [a12, sr1_o (by omega), sr1_ne (by omega), sr1_o (by omega)]
  · rw [if_neg q] at hL w0
    left
    exact ⟨qs, (-20 : Int32) - nI qs, _, _, _, s4, hL, by rw [if_neg (m20 (by omega)).1], CPf.rf.w13, w0, h2.mv qs, RPf.rf.w39 (Or.inl rfl)⟩
theorem m_readE {tt : MM} {uu : SR} {bt : Nat → Nat} {ln nn : Nat} (hT : TB bt ln) (c1 : tt 13 2 = nI ln) (c2 : ∀ jj, jj < ln → tt 14 jj = nI (bt jj)) (r1 : uu.1 39 17 = nI ln) (r2 : ∀ jj, jj < ln → uu.1 46 jj = nI (bt jj)) (hn : 130 < nn) : (∃ qs t2 u2, okP bt ln qs ∧ f_X5_readEvening nn tt = some ((-20 : Int32) - nI qs, t2) ∧ f_X8_readEvening nn uu = some (0, u2) ∧ CPf tt t2 ∧ RPf uu u2 ∧ RT u2 bt ln qs) ∨ (∃ mm t2 u2, 1 ≤ mm ∧ mm ≤ 64 ∧ f_X5_readEvening nn tt = some (nI mm, t2) ∧ f_X8_readEvening nn uu = some (1, u2) ∧ CPf tt t2 ∧ RPf uu u2 ∧ EN PPe mm t2 u2 ∧ u2.1 39 19 = nI mm) := by
  have hl := hT.1
  have hC0 : CT (st1 tt 13 1 (nI 0)) bt ln 0 := ⟨by rw [st1_o (by omega)]; exact c1, by rw [st1_s], by rw [st1_ne (by omega)]; exact c2⟩
  have hR0 : RT (sr1 uu 39 18 (nI 0)) bt ln 0 := ⟨by rw [sr1_o (by omega)]; exact r1, by rw [sr1_s], by rw [sr1_ne (by omega)]; exact r2⟩
  obtain ⟨xx, yy, l1, l2, hX⟩ := lock22 (bb := lb_X5_readEntries_8 nn 1 (59 : Int32) (64 : Int32)) (cc := lb_X8_readEvening_12 nn) (fun ii v4 t2 v1 u2 => v4 = nI ii ∧ v1 = 1 ∧ CPf tt t2 ∧ RPf uu u2 ∧ EN PPe ii t2 u2 ∧ u2.1 39 19 = nI ii ∧ ∃ ps, 2 * ii ≤ ps ∧ ps ≤ ln ∧ CT t2 bt ln ps ∧ RT u2 bt ln ps) 61 (fun xx yy => (∃ qs t2 u2, okP bt ln qs ∧ xx = .inl ((-20 : Int32) - nI qs, t2) ∧ (yy = .inl (0, u2) ∨ (yy = .inr u2 ∧ qs < ln)) ∧ CPf tt t2 ∧ RPf uu u2 ∧ RT u2 bt ln qs) ∨ (∃ mm t2 u2, 1 ≤ mm ∧ mm ≤ 64 ∧ xx = .inl (nI mm, t2) ∧ yy = .inr u2 ∧ RT u2 bt ln ln ∧ CPf tt t2 ∧ RPf uu u2 ∧ EN PPe mm t2 u2 ∧ u2.1 39 19 = nI mm)) (by
    rintro ii v4 t2 v1 u2 hle ⟨rfl, rfl, hc, hr, hE, h19, ps, hps2, hps, hC, hR⟩
    have hi : ii ≤ 60 := by omega
    have gi : ¬ (64 : Int32) ≤ nI ii := nI_ge (b := 64) (by omega) (by omega)
    rcases m_act (nn := nn) hT hC hR hps (by omega) (show ii < 64 by omega) hE with ⟨qs, cd, t3, t4, u3, o1, a1, a2, a3, a4, a5, a6⟩ | ⟨rs, t3, t4, u3, hrs0, hrs, a1, a2, a3, a4, a5, a6, a7, a8, a9⟩
    · right
      have hq : qs ≤ ln := by omega
      refine ⟨.inl ((-20 : Int32) - nI qs, t4), .inl (0, u3), fun kk hk => it2_out ?_ kk (by omega), fun kk hk => it2_out ?_ kk (by omega), Or.inl ⟨qs, t4, u3, o1, rfl, Or.inl rfl, hc.tr a3, hr.tr a6, a5⟩⟩
      · unfold lb_X5_readEntries_8
        rw [if_neg gi, a1, b1_eq]
        dsimp only
        by_cases q : cd = 0
        · rw [if_pos q] at a2
          rw [if_pos q, if_neg (show ¬ (59 : Int32) = 44 by decide), a2, b1_eq]
          unfold f_X5_readEntries_54_in8
          rw [if_neg (m20 (by omega)).1]
        · rw [if_neg q] at a2
          rw [if_neg q]
          have e1 : cd = (-20 : Int32) - nI qs := congrArg Prod.fst (Option.some.inj a2)
          have e2 : t3 = t4 := congrArg Prod.snd (Option.some.inj a2)
          rw [e1, e2]
          unfold f_X5_readEntries_54_in8
          rw [if_neg (m20 (by omega)).1]
      · unfold lb_X8_readEvening_12
        rw [if_neg n10', h19, two_mul', a4, b1_eq, if_pos rfl]
    · have h19' : u3.1 39 19 = nI ii := a9.trans h19
      have hR9 : RT (sr1 u3 39 19 (nI (ii + 1))) bt ln rs := a6.w19
      have hcc : CPf tt t4 := hc.tr a3
      have hrr : RPf uu u3 := hr.tr a7
      obtain ⟨q3, hs, e1, e2⟩ := m_next (nn := nn) hT a4 hR9 hrs (by omega)
      obtain ⟨s1, s2, s3, s4⟩ := hs
      have hE3 : ∀ zz : Nat, EN PPe (ii + 1) (st1 t4 13 1 (nI zz)) (sr1 (sr1 u3 39 19 (nI (ii + 1))) 39 18 (nI zz)) := by
        intro zz jj hj
        rw [st1_ne (by omega), st1_ne (by omega), sr1_ne (by omega), sr1_ne (by omega)]
        exact a8 jj hj
      have n19 : ∀ zz : Nat, (sr1 (sr1 u3 39 19 (nI (ii + 1))) 39 18 (nI zz)).1 39 19 = nI (ii + 1) := fun zz => by rw [sr1_o (by omega), sr1_s]
      have bodyC : lb_X5_readEntries_8 nn 1 (59 : Int32) (64 : Int32) (nI ii) t2 = f_X5_readEntries_54_in8 nn t4 1 (59 : Int32) (64 : Int32) (nI ii) 0 := by
        unfold lb_X5_readEntries_8
        rw [if_neg gi, a1, b1_eq, if_pos rfl, if_neg (show ¬ (59 : Int32) = 44 by decide), a2, b1_eq]
      unfold f_X5_readEntries_54_in8 f_X5_readEntries_93_in8 f_X5_faultAt at bodyC
      rw [if_pos rfl, e1, b1_eq] at bodyC
      simp only [nx_m1 hT s2, b1_eq, nm_eq, st1_s, st1_st1, nI_1, show (59 : Int32) = nI 59 from rfl, nx_eq hT s2 59 (by omega)] at bodyC
      have z0 : ∀ zz : Nat, nI zz + (0 : Int32) = nI zz := fun zz => by simp
      have bodyR : lb_X8_readEvening_12 nn 1 u2 = if q3 < ln ∧ bt q3 = 59 then some (.inr (1, sr1 (sr1 u3 39 19 (nI (ii + 1))) 39 18 (nI (q3 + 1)))) else some (.inr (0, sr1 (sr1 u3 39 19 (nI (ii + 1))) 39 18 (nI q3))) := by
        unfold lb_X8_readEvening_12 f_X8_readEvening_55_in12
        rw [if_neg n10', h19, two_mul', a5, b1_eq, if_neg n10', nm_eq, h19', nI_1, e2, b1_eq]
        simp only [show (59 : Int32) = nI 59 from rfl, nx_eq hT s2 59 (by omega), if_neg n10', if_pos, nm_eq, sr1_s, sr1_sr1, nI_1, z0]
      have out0 : ∀ ww : SR, lb_X8_readEvening_12 nn 0 ww = some (.inl (.inr ww)) := fun ww => by
        unfold lb_X8_readEvening_12
        rw [if_pos rfl]
      have hcF : ∀ zz : Nat, CPf tt (st1 t4 13 1 (nI zz)) := fun zz => hcc.w13
      have hrF : ∀ zz : Nat, RPf uu (sr1 (sr1 u3 39 19 (nI (ii + 1))) 39 18 (nI zz)) := fun zz => (hrr.w39 (Or.inr rfl)).w39 (Or.inl rfl)
      by_cases q : q3 = ln
      · right
        rw [if_pos q] at bodyC
        rw [if_neg (by omega)] at bodyR
        refine ⟨_, _, fun kk hk => it2_out bodyC kk (by omega), fun kk hk => it2_out2 bodyR (out0 _) kk (by omega), Or.inr ⟨ii + 1, _, _, by omega, by omega, rfl, rfl, ?_, hcF q3, hrF q3, hE3 q3, n19 q3⟩⟩
        have := hR9.mv q3
        rw [q] at this ⊢
        exact this
      · rw [if_neg q] at bodyC
        by_cases q4 : q3 < ln ∧ bt q3 = 59
        · rw [if_pos q4] at bodyC bodyR
          left
          rw [if_neg (show ¬ nI ii = (64 : Int32) - (1 : Int32) from fun z => by have := (nI_eq (b := 63) (show ii < 2 ^ 31 by omega) (by omega)).mp z; omega)] at bodyC
          exact ⟨by omega, _, _, _, _, bodyC, bodyR, rfl, rfl, hcF _, hrF _, hE3 _, n19 _, q3 + 1, by omega, by omega, a4.mv _, hR9.mv _⟩
        · right
          rw [if_neg q4] at bodyC bodyR
          exact ⟨_, _, fun kk hk => it2_out bodyC kk (by omega), fun kk hk => it2_out2 bodyR (out0 _) kk (by omega), Or.inl ⟨q3, _, _, s4, rfl, Or.inr ⟨rfl, by omega⟩, hcF q3, hrF q3, hR9.mv q3⟩⟩) nn 0 (st1 tt 13 1 (nI 0)) 1 (sr1 (sr1 uu 39 18 (nI 0)) 39 19 (nI 0)) (by omega) ⟨rfl, rfl, CPf.rf.w13, (RPf.rf.w39 (Or.inl rfl)).w39 (Or.inr rfl), fun jj hj => absurd hj (by omega), by rw [sr1_s], 0, by omega, by omega, hC0, hR0.w19⟩
  have k1 : f_X5_readEvening nn tt = bR (some xx) (fun y => some y) (fun t_9 => b1 (f_X5_faultAt (t_9 13 1)) (fun y_10 => some (y_10, t_9))) := by
    unfold f_X5_readEvening f_X5_readEntries
    rw [nm_eq, show (it2 (lb_X5_readEntries_8 nn 1 (59 : Int32) (64 : Int32)) nn (0 : Int32) (st1 tt 13 1 (0 : Int32))) = some xx from l1]
    rcases hX with ⟨qs, t2, u2, -, rfl, -⟩ | ⟨mm, t2, u2, -, -, rfl, -⟩ <;> rfl
  have k2 : f_X8_readEvening nn uu = bR (some yy) (fun y => some y) (fun t_8 => b1 (f_X8_nextByte nn t_8) (fun y_9 => (if 0 ≤ y_9.1 then some ((0 : Int32), y_9.2) else some ((1 : Int32), y_9.2)))) := by
    unfold f_X8_readEvening
    rw [nm_eq, nm_eq, show (it2 (lb_X8_readEvening_12 nn) nn (1 : Int32) (sr1 (sr1 uu 39 18 (0 : Int32)) 39 19 (0 : Int32))) = some yy from l2]
  rcases hX with ⟨qs, t2, u2, h1, rfl, hy, h4, h5, h6⟩ | ⟨mm, t2, u2, h1, h2, rfl, rfl, hRT, h5, h6, h7, h8⟩
  · left
    rcases hy with rfl | ⟨rfl, hql⟩
    · exact ⟨qs, t2, u2, h1, k1, k2, h4, h5, h6⟩
    · obtain ⟨q2, hs, e2⟩ := R_next hT h6 (by omega) (show 121 < nn by omega)
      have eq := isSk_un hs (isSk_at h1)
      subst eq
      rw [bR_k, e2, b1_eq, if_pos ((nx_pos hT (by omega)).mpr hql)] at k2
      exact ⟨q2, t2, _, h1, k1, k2, h4, h5.w39 (Or.inl rfl), h6.mv q2⟩
  · right
    obtain ⟨q2, hs, e2⟩ := R_next hT hRT (by omega) (show 121 < nn by omega)
    have eq : q2 = ln := by have := hs.1; have := hs.2.1; omega
    subst eq
    rw [bR_k, e2, b1_eq, if_neg (fun z => absurd ((nx_pos hT (by omega)).mp z) (by omega))] at k2
    refine ⟨mm, t2, _, h1, h2, k1, k2, h5, h6.w39 (Or.inl rfl), ?_, ?_⟩
    · intro jj hj
      rw [sr1_ne (by omega)]
      exact h7 jj hj
    · rw [sr1_o (by omega)]; exact h8
theorem Good.sg {tt : MM} {uu : SR} {xx : Option (Int32 × MM)} {yy : Option (Int32 × SR)} (h : Good tt uu xx yy) : Good tt uu (b1 xx (fun y_1 => (if y_1.1 < 0 then some ((0 : Int32), y_1.2) else some ((1 : Int32), y_1.2)))) (b1 yy (fun y_1 => (if y_1.1 < 0 then some ((0 : Int32), y_1.2) else some ((1 : Int32), y_1.2)))) := by
  obtain ⟨vv, t2, u2, d2, rfl, rfl, h3⟩ := h
  rw [b1_eq, b1_eq]
  by_cases q : vv < 0
  · rw [if_pos q, if_pos q]
    exact ⟨_, _, _, d2, rfl, rfl, h3⟩
  · rw [if_neg q, if_neg q]
    exact ⟨_, _, _, d2, rfl, rfl, h3⟩
theorem m_does {tt : MM} {uu : SR} {dd : WD} {nn ii : Nat} (h : WR tt uu dd) (hn : 13 < nn) (hi : ii < 64) (hE : PPe (tt 15 ii) (tt 16 ii) (uu.1 47 (2 * ii)) (uu.1 47 (2 * ii + 1))) : Good tt uu (f_X7_happens nn tt (tt 15 ii) (tt 16 ii)) (f_X8_does nn uu (nI (2 * ii))) := by
  obtain ⟨lt, hl1, e1, hac, e2, e3⟩ := hE
  unfold f_X7_happens f_X8_does
  rw [nI_1, ix_nI (show 2 * ii + 1 < 240 by omega) (by omega), nI_clamp (show 2 * ii + 1 < 2 ^ 31 by omega), nm_eq, ix_nI (show 2 * ii < 240 by omega) (by omega), ix_nI (show 2 * ii < 240 by omega) (by omega), ix_nI (show 2 * ii < 240 by omega) (by omega), nI_clamp (show 2 * ii < 2 ^ 31 by omega), e1, e2]
  rcases acO_4 hac with ⟨z1, z2⟩ | ⟨z1, z2⟩ | ⟨z1, z2⟩ | ⟨z1, z2⟩
  · subst z1
    rw [z2, e3 (by omega), if_pos (show nI 0 = (0 : Int32) from rfl), if_pos (show nI 105 = (105 : Int32) from rfl)]
    exact (m_board h hn _).sg
  · subst z1
    rw [z2, e3 (by omega), if_neg (show ¬ nI 1 = (0 : Int32) by decide), if_pos (show nI 1 = (1 : Int32) from rfl), if_neg (show ¬ nI 111 = (105 : Int32) by decide), if_pos (show nI 111 = (111 : Int32) from rfl)]
    exact (m_leave h hn _).sg
  · subst z1
    rw [z2, e3 (by omega), if_neg (show ¬ nI 2 = (0 : Int32) by decide), if_neg (show ¬ nI 2 = (1 : Int32) by decide), if_pos (show nI 2 = (2 : Int32) from rfl), if_neg (show ¬ nI 115 = (105 : Int32) by decide), if_neg (show ¬ nI 115 = (111 : Int32) by decide), if_pos (show nI 115 = (115 : Int32) from rfl)]
    exact (m_sand h hn _).sg
  · subst z1
    rw [z2, if_neg (show ¬ nI 3 = (0 : Int32) by decide), if_neg (show ¬ nI 3 = (1 : Int32) by decide), if_neg (show ¬ nI 3 = (2 : Int32) by decide), if_neg (show ¬ nI 116 = (105 : Int32) by decide), if_neg (show ¬ nI 116 = (111 : Int32) by decide), if_neg (show ¬ nI 116 = (115 : Int32) by decide)]
    exact (m_turn h _).sg
theorem m_acts {t0 : MM} {u0 : SR} {dd : WD} {nn mm : Nat} (h : WR t0 u0 dd) (hn : 130 < nn) (hm : mm ≤ 64) (hE : EN PPe mm t0 u0) : ∃ xx yy, it2 (lb_X7_evening_18 nn (nI mm)) nn (0 : Int32) t0 = some xx ∧ it2 (lb_X8_evening_38 nn (nI mm)) nn (0 : Int32) u0 = some yy ∧ ∃ t2 u2 d2, ((∃ vv, xx = .inl (vv, t2) ∧ yy = .inl (vv, u2)) ∨ (xx = .inr t2 ∧ yy = .inr u2)) ∧ WR t2 u2 d2 ∧ CRest t0 t2 ∧ RRest u0 u2 :=
  lock22 (bb := lb_X7_evening_18 nn (nI mm)) (cc := lb_X8_evening_38 nn (nI mm)) (fun ii v2 t2 v3 u2 => v2 = nI ii ∧ v3 = nI ii ∧ ∃ d2, WR t2 u2 d2 ∧ CRest t0 t2 ∧ RRest u0 u2) mm (fun xx yy => ∃ t2 u2 d2, ((∃ vv, xx = .inl (vv, t2) ∧ yy = .inl (vv, u2)) ∨ (xx = .inr t2 ∧ yy = .inr u2)) ∧ WR t2 u2 d2 ∧ CRest t0 t2 ∧ RRest u0 u2) (by
    rintro ii v2 t2 v3 u2 hle ⟨rfl, rfl, d2, hW, hc, hr⟩
    by_cases q : ii < mm
    · have k15 : t2 15 = t0 15 := hc.1 15 (by unfold CK; omega)
      have k16 : t2 16 = t0 16 := hc.1 16 (by unfold CK; omega)
      have k47 : u2.1 47 = u0.1 47 := hr.1 47 (by omega)
      obtain ⟨vv, t3, u3, d3, a1, a2, a3, a4, a5⟩ := m_does (nn := nn) (ii := ii) hW (by omega) (by omega) (by rw [k15, k16, k47]; exact hE ii q)
      have bC : lb_X7_evening_18 nn (nI mm) (nI ii) t2 = if vv = 0 then some (.inl (.inl (nI ii, t3))) else some (.inr (nI (ii + 1), t3)) := by
        unfold lb_X7_evening_18
        rw [if_neg (nI_ge q (by omega)), ix_nI (show ii < 64 by omega) (by omega), ix_nI (show ii < 64 by omega) (by omega), nI_clamp (show ii < 2 ^ 31 by omega), a1, b1_eq, nm_eq, nI_1]
      have bR' : lb_X8_evening_38 nn (nI mm) (nI ii) u2 = if vv = 0 then some (.inl (.inl (nI ii, u3))) else some (.inr (nI (ii + 1), u3)) := by
        unfold lb_X8_evening_38
        rw [if_neg (nI_ge q (by omega)), two_mul', a2, b1_eq, nm_eq, nI_1]
      by_cases q2 : vv = 0
      · right
        rw [if_pos q2] at bC bR'
        exact ⟨_, _, fun kk hk => it2_out bC kk (by omega), fun kk hk => it2_out bR' kk (by omega), t3, u3, d3, Or.inl ⟨nI ii, rfl, rfl⟩, a3, hc.tr a4, hr.tr a5⟩
      · left
        rw [if_neg q2] at bC bR'
        exact ⟨q, _, _, _, _, bC, bR', rfl, rfl, d3, a3, hc.tr a4, hr.tr a5⟩
    · right
      have bC : lb_X7_evening_18 nn (nI mm) (nI ii) t2 = some (.inl (.inr t2)) := by
        unfold lb_X7_evening_18
        rw [if_pos (nI_le (by omega) (by omega))]
      have bR' : lb_X8_evening_38 nn (nI mm) (nI ii) u2 = some (.inl (.inr u2)) := by
        unfold lb_X8_evening_38
        rw [if_pos (nI_le (by omega) (by omega))]
      exact ⟨_, _, fun kk hk => it2_out bC kk (by omega), fun kk hk => it2_out bR' kk (by omega), t2, u2, d2, Or.inr ⟨rfl, rfl⟩, hW, hc, hr⟩) nn 0 t0 0 u0 (by omega) ⟨rfl, rfl, dd, h, CRest.rf, RRest.rf⟩
theorem m_evening {tt : MM} {uu : SR} {dd : WD} {nn : Nat} (h : WR tt uu dd) (hT : TR tt uu) (hn : 130 < nn) : Good0 tt uu (f_X7_evening nn tt) (f_X8_evening nn uu) := by
  obtain ⟨hC, hR, hO, hfit⟩ := h
  obtain ⟨bt, ln, hB, c1, c2, r1, r2⟩ := hT
  have hl := hB.1
  unfold f_X7_evening f_X8_evening f_X8_evening_14
  rcases m_readE hB c1 c2 r1 r2 hn with ⟨qs, t2, u2, ok, a1, a2, a3, a4, a5⟩ | ⟨mm, t2, u2, hm1, hm2, a1, a2, a3, a4, a5, a6⟩
  · obtain ⟨q2, hs, e2⟩ := R_next hB a5 (by omega) (show 121 < nn by omega)
    have eq := isSk_un hs (isSk_at ok)
    subst eq
    have hq : q2 ≤ ln := hs.2.1
    have hneg := (fa_of_lt (m20 (show q2 ≤ 200 by omega)).2).1
    have hout : it2 (lb_X7_evening_18 nn ((-20 : Int32) - nI q2)) nn (0 : Int32) (st1 t2 13 2 (0 : Int32)) = some (.inr (st1 t2 13 2 (0 : Int32))) := it2_out (by
      unfold lb_X7_evening_18
      rw [if_pos hneg]) nn (by omega)
    rw [a1, a2]
    simp only [b1_eq, nm_eq, hout, bR_k, if_pos, e2]
    exact ⟨_, _, _, dd, rfl, by rw [sr1_o (by omega), sr1_s], ⟨(hC.pf a3).s13, ((hR.pf a4).s39 (by omega)).s39 (by omega), hO, hfit⟩, TR_0 (by rw [st1_s]) (by rw [sr1_s]), a3.z.s1 (by omega), (a4.z.s1 (by omega) (by omega)).s1 (by omega) (by omega)⟩
  · have hC1 : CW (st1 t2 13 2 (0 : Int32)) dd := (hC.pf a3).s13
    have hR1 : RW (sr1 u2 39 17 (0 : Int32)) dd := (hR.pf a4).s39 (by omega)
    have hE : EN PPe mm (st1 t2 13 2 (0 : Int32)) (sr1 u2 39 17 (0 : Int32)) := by
      intro jj hj
      rw [st1_ne (show 15 ≠ 13 by omega), st1_ne (show 16 ≠ 13 by omega), sr1_ne (by omega)]
      exact a5 jj hj
    obtain ⟨xx, yy, l1, l2, t3, u3, d3, hcase, hW, hc, hr⟩ := m_acts ⟨hC1, hR1, hO, hfit⟩ hn hm2 hE
    have k19 : (sr1 u2 39 17 (0 : Int32)).1 39 19 = nI mm := by rw [sr1_o (by omega)]; exact a6
    have hT3 : TR t3 u3 := TR_0 (by rw [hc.2, st1_s]) (by rw [hr.2.1, sr1_s])
    have hcz : CR0 tt t3 := (a3.z.s1 (by omega)).tr hc.z
    have hrz : RR0 uu u3 := (a4.z.s1 (by omega) (by omega)).tr hr.z
    rw [a1, a2]
    simp only [b1_eq, nm_eq, if_neg n10', k19, l1, l2]
    rcases hcase with ⟨vv, rfl, rfl⟩ | ⟨rfl, rfl⟩
    · rw [bR_r, bR_r]
      exact ⟨vv, t3, u3, d3, rfl, rfl, hW, hT3, hcz, hrz⟩
    · rw [bR_k, bR_k]
      exact ⟨nI mm, t3, u3, d3, rfl, rfl, hW, hT3, hcz, hrz⟩
