/-! the operation evening -/
theorem it2_out2 {A1 A2 X : Type} {bb : A1 → A2 → Option (X ⊕ (A1 × A2))} {a1 p1 : A1} {a2 p2 : A2} {xx : X} (h : bb a1 a2 = some (.inr (p1, p2))) (h2 : bb p1 p2 = some (.inl xx)) : ∀ kk, 2 ≤ kk → it2 bb kk a1 a2 = some xx := by
  intro kk hk
  cases kk with
  | zero => omega
  | succ kk =>
    have h3 := it2_out h2 kk (by omega)
    simp [it2, h, h3]
def PPe (aa bb cc ee : Int32) : Prop := ∃ lt, lt < 128 ∧ cc = nI lt ∧ acO lt < 4 ∧ aa = nI (acO lt) ∧ (acO lt ≠ 3 → bb = ee)
theorem acO_4 {lt : Nat} (h : acO lt < 4) : (lt = 105 ∧ acO lt = 0) ∨ (lt = 111 ∧ acO lt = 1) ∨ (lt = 115 ∧ acO lt = 2) ∨ (lt = 116 ∧ acO lt = 3) := by
  unfold acO ltO at h ⊢
  by_cases g0 : lt = 105
  · subst g0; simp
  · by_cases g1 : lt = 111
    · subst g1; simp
    · by_cases g2 : lt = 115
      · subst g2; simp
      · by_cases g3 : lt = 116
        · subst g3; simp
        · simp [g0, g1, g2, g3] at h
theorem CPf.tr {tt vv ww : MM} (h1 : CPf tt vv) (h2 : CPf vv ww) : CPf tt ww := ⟨fun kk b1 b2 b3 => (h2.1 kk b1 b2 b3).trans (h1.1 kk b1 b2 b3), h2.2.trans h1.2⟩
theorem RPf.tr {uu vv ww : SR} (h1 : RPf uu vv) (h2 : RPf vv ww) : RPf uu ww := ⟨fun kk b1 b2 => (h2.1 kk b1 b2).trans (h1.1 kk b1 b2), fun jj b1 b2 => (h2.2.1 jj b1 b2).trans (h1.2.1 jj b1 b2), h2.2.2.trans h1.2.2⟩
theorem CPf.rf {tt : MM} : CPf tt tt := ⟨fun _ _ _ _ => rfl, rfl⟩
theorem RPf.rf {uu : SR} : RPf uu uu := ⟨fun _ _ _ => rfl, fun _ _ _ => rfl, rfl⟩
theorem less48 {bb : Nat} (h : 48 ≤ bb) : nI bb - (48 : Int32) = nI (bb - 48) := by
  rw [show (48 : Int32) = iI 48 by decide, ← iI_nat bb, iI_sub, ← iI_nat]
  congr 1
  omega
theorem in09 {vv : Int32} : f_X8_in vv.toInt64 (0 : Int64) (9 : Int64) = some (if 0 ≤ vv.toInt ∧ vv.toInt ≤ 9 then 1 else 0) := by
  rw [i64_0, show (9 : Int64) = lI 9 by decide, R_inI vv (by omega) (by omega)]
theorem nx48 {bt : Nat → Nat} {ln qs : Nat} (hT : TB bt ln) (hq : qs ≤ ln) : (0 ≤ (nxB bt ln qs - (48 : Int32)).toInt ∧ (nxB bt ln qs - (48 : Int32)).toInt ≤ 9) ↔ (qs < ln ∧ 48 ≤ bt qs ∧ bt qs ≤ 57) := by
  unfold nxB
  by_cases q : qs = ln
  · rw [if_pos q, show ((-1 : Int32) - 48).toInt = -49 by decide]
    omega
  · have hb := hT.2 qs (by omega)
    rw [if_neg q, show (48 : Int32) = iI 48 by decide, ← iI_nat (bt qs), iI_sub, iI_toInt (by omega) (by omega)]
    omega
theorem nx_dig {bt : Nat → Nat} {ln qs : Nat} (hT : TB bt ln) (hq : qs ≤ ln) : f_X5_isDigit (nxB bt ln qs) = some (if qs < ln ∧ 48 ≤ bt qs ∧ bt qs ≤ 57 then 1 else 0) := by
  unfold nxB
  by_cases q : qs = ln
  · rw [if_pos q, if_neg (by omega)]; exact dig_m1
  · have hb := hT.2 qs (by omega)
    rw [if_neg q, C_dig (by omega)]
    by_cases q2 : 48 ≤ bt qs ∧ bt qs ≤ 57
    · rw [if_pos q2, if_pos (by omega)]
    · rw [if_neg q2, if_neg (by omega)]
/-- what follows the letter of an act, both at once: the letter is read, both stand behind it -/
theorem m_follow {tt : MM} {uu : SR} {bt : Nat → Nat} {ln ps nn ii lt : Nat} (hT : TB bt ln) (h : CT tt bt ln ps) (h2 : RT uu bt ln ps) (hp : ps ≤ ln) (hn : 121 < nn) (hi : ii < 64) (hlt : lt < 128) (hac : acO lt < 4) (h15 : tt 15 ii = nI (acO lt)) (h47 : uu.1 47 (2 * ii) = nI lt) : ∃ tl : SR → Option (Int32 × SR), (∀ w0 : SR, f_X8_readAct_31 nn w0 (nI (2 * ii)) (nI lt) = tl (sr1 (sr1 w0 47 (2 * ii) (nI lt)) 39 18 ((sr1 w0 47 (2 * ii) (nI lt)).1 39 18 + (1 : Int32)))) ∧ ((∃ qs t3 u3, okP bt ln qs ∧ f_X5_readWhatFollows nn tt (nI ii) = some ((-20 : Int32) - nI qs, t3) ∧ CPf tt t3 ∧ tl uu = some (0, u3) ∧ RT u3 bt ln qs ∧ RPf uu u3) ∨ (∃ rs t3 u3, ps ≤ rs ∧ rs ≤ ln ∧ f_X5_readWhatFollows nn tt (nI ii) = some (0, t3) ∧ CPf tt t3 ∧ CT t3 bt ln rs ∧ tl uu = some (1, u3) ∧ RT u3 bt ln rs ∧ RPf uu u3 ∧ (∀ jj, t3 15 jj = tt 15 jj) ∧ (∀ jj, jj ≠ ii → t3 16 jj = tt 16 jj) ∧ (∀ jj, jj ≠ 2 * ii + 1 → u3.1 47 jj = uu.1 47 jj) ∧ u3.1 39 19 = uu.1 39 19 ∧ (acO lt ≠ 3 → t3 16 ii = u3.1 47 (2 * ii + 1)))) := by
  have hl := hT.1
  have hix : ix (nI (2 * ii)) 240 = fun (aa : Option (Int32 × SR)) => aa := by funext aa; exact ix_nI (show 2 * ii < 240 by omega) (by omega)
  have hix1 : ix (nI (2 * ii) + (1 : Int32)) 240 = fun (aa : Option (Int32 × SR)) => aa := by funext aa; rw [nI_1]; exact ix_nI (show 2 * ii + 1 < 240 by omega) (by omega)
  have hcl : (nI (2 * ii)).toNatClampNeg = 2 * ii := nI_clamp (by omega)
  have hcl1 : (nI (2 * ii) + (1 : Int32)).toNatClampNeg = 2 * ii + 1 := by rw [nI_1]; exact nI_clamp (by omega)
  refine ⟨fun t_3 => (if nI lt = (115 : Int32) then b1 (f_X8_readNumber nn t_3 (0 : Int32) (99 : Int32)) (fun y_8 => (if y_8.1 < 0 then some ((0 : Int32), sr1 y_8.2 47 (2 * ii + 1) y_8.1) else some ((1 : Int32), sr1 y_8.2 47 (2 * ii + 1) y_8.1))) else (if nI lt = (116 : Int32) then some ((1 : Int32), t_3) else b1 (f_X8_nextByte nn t_3) (fun y_4 => b1 (f_X8_in ((y_4.1 - (48 : Int32)).toInt64) (0 : Int64) (9 : Int64)) (fun y_6 => (if y_6 = 0 then some ((0 : Int32), sr1 y_4.2 47 (2 * ii + 1) (y_4.1 - (48 : Int32))) else some ((1 : Int32), sr1 (sr1 y_4.2 47 (2 * ii + 1) (y_4.1 - (48 : Int32))) 39 18 ((y_4.2.1 39 18) + (1 : Int32)))))))), ?_, ?_⟩
  · intro w0
    unfold f_X8_readAct_31
    simp only [hix, hix1, hcl, hcl1, nm_eq, sr1_s, sr1_ne (show 39 ≠ 47 by omega)]
  · dsimp only
    unfold f_X5_readWhatFollows
    rw [ix_nI hi (by omega), nI_clamp (show ii < 2 ^ 31 by omega), h15]
    have dgs : ∀ (tl : Option (Int32 × SR)), tl = b1 (f_X8_nextByte nn uu) (fun y_4 => b1 (f_X8_in ((y_4.1 - (48 : Int32)).toInt64) (0 : Int64) (9 : Int64)) (fun y_6 => (if y_6 = 0 then some ((0 : Int32), sr1 y_4.2 47 (2 * ii + 1) (y_4.1 - (48 : Int32))) else some ((1 : Int32), sr1 (sr1 y_4.2 47 (2 * ii + 1) (y_4.1 - (48 : Int32))) 39 18 ((y_4.2.1 39 18) + (1 : Int32)))))) → ((∃ qs t3 u3, okP bt ln qs ∧ f_X5_readDigit nn tt (nI ii) = some ((-20 : Int32) - nI qs, t3) ∧ CPf tt t3 ∧ tl = some (0, u3) ∧ RT u3 bt ln qs ∧ RPf uu u3) ∨ (∃ rs t3 u3, ps ≤ rs ∧ rs ≤ ln ∧ f_X5_readDigit nn tt (nI ii) = some (0, t3) ∧ CPf tt t3 ∧ CT t3 bt ln rs ∧ tl = some (1, u3) ∧ RT u3 bt ln rs ∧ RPf uu u3 ∧ (∀ jj, t3 15 jj = tt 15 jj) ∧ (∀ jj, jj ≠ ii → t3 16 jj = tt 16 jj) ∧ (∀ jj, jj ≠ 2 * ii + 1 → u3.1 47 jj = uu.1 47 jj) ∧ u3.1 39 19 = uu.1 39 19 ∧ (acO lt ≠ 3 → t3 16 ii = u3.1 47 (2 * ii + 1)))) := by
      rintro tl rfl
      obtain ⟨qs, hs, e1, e2⟩ := m_next hT h h2 hp hn
      obtain ⟨s1, s2, s3, s4⟩ := hs
      unfold f_X5_readDigit f_X5_faultAt
      rw [e1, e2]
      simp only [b1_eq, nx_dig hT s2, in09, nx48 hT s2, ifp01, st1_s, sr1_s, nm_eq, nI_1]
      by_cases q : qs < ln ∧ 48 ≤ bt qs ∧ bt qs ≤ 57
      · right
        rw [if_pos q, if_pos q, ix_nI hi (by omega), nI_clamp (show ii < 2 ^ 31 by omega), st1_ne (show 13 ≠ 16 by omega), st1_s, nI_1]
        refine ⟨qs + 1, _, _, by omega, by omega, rfl, (CPf.rf.w13.w16).w13, ((h.mv qs).w16).mv _, rfl, ((h2.mv qs).w47).mv _, ((RPf.rf.w39 (Or.inl rfl)).w47).w39 (Or.inl rfl), fun jj => ?_, fun jj hj => ?_, fun jj hj => ?_, ?_, fun _ => ?_⟩
        · rw [st1_ne (by omega), st1_ne (by omega), st1_ne (by omega)]
        · rw [st1_ne (by omega), st1_o hj, st1_ne (by omega)]
        · rw [sr1_ne (by omega), sr1_o hj, sr1_ne (by omega)]
        · rw [sr1_o (by omega), sr1_ne (by omega), sr1_o (by omega)]
        · rw [st1_ne (by omega), st1_s, sr1_ne (by omega), sr1_s]
      · left
        rw [if_neg q, if_neg q]
        exact ⟨qs, _, _, s4, rfl, CPf.rf.w13, rfl, (h2.mv qs).w47, (RPf.rf.w39 (Or.inl rfl)).w47⟩
    rcases acO_4 hac with ⟨z1, z2⟩ | ⟨z1, z2⟩ | ⟨z1, z2⟩ | ⟨z1, z2⟩
    · subst z1
      rw [z2, if_pos (show nI 0 = (0 : Int32) from rfl), if_neg (show ¬ nI 105 = (115 : Int32) by decide), if_neg (show ¬ nI 105 = (116 : Int32) by decide)]
      rcases dgs _ rfl with ⟨qs, t3, u3, x1, x2, x3, x4⟩ | ⟨rs, t3, u3, x1, x2, x3, x4⟩
      · exact Or.inl ⟨qs, t3, u3, x1, by rw [x2, b1_eq], x3, x4⟩
      · exact Or.inr ⟨rs, t3, u3, x1, x2, by rw [x3, b1_eq], by simpa only [z2] using x4⟩
    · subst z1
      rw [z2, if_neg (show ¬ nI 1 = (0 : Int32) by decide), if_pos (show nI 1 = (1 : Int32) from rfl), if_neg (show ¬ nI 111 = (115 : Int32) by decide), if_neg (show ¬ nI 111 = (116 : Int32) by decide)]
      rcases dgs _ rfl with ⟨qs, t3, u3, x1, x2, x3, x4⟩ | ⟨rs, t3, u3, x1, x2, x3, x4⟩
      · exact Or.inl ⟨qs, t3, u3, x1, by rw [x2, b1_eq], x3, x4⟩
      · exact Or.inr ⟨rs, t3, u3, x1, x2, by rw [x3, b1_eq], by simpa only [z2] using x4⟩
    · subst z1
      rw [z2, if_neg (show ¬ nI 2 = (0 : Int32) by decide), if_neg (show ¬ nI 2 = (1 : Int32) by decide), if_pos (show nI 2 = (2 : Int32) from rfl), if_pos (show nI 115 = (115 : Int32) from rfl)]
      obtain ⟨q2, o2, o3, hcase⟩ := m_num (kx := ii) (lo := 0) hT h h2 hp hn hi (by omega)
      rcases hcase with ⟨t3, a1, a2, a3⟩ | ⟨vv, rs, v1, v2, v3, v4, a1, a2⟩
      · left
        refine ⟨q2, t3, sr1 (sr1 uu 39 18 (nI q2)) 47 (2 * ii + 1) (-1), o2, ?_, ?_, ?_, (h2.mv q2).w47, (RPf.rf.w39 (Or.inl rfl)).w47⟩
        · rw [show f_X5_readNumber nn tt (nI ii) (0 : Int32) (99 : Int32) = _ from a1, b1_eq]
        · rcases a2 with rfl | ⟨rs, vv, rfl⟩
          · exact CPf.rf.w13
          · exact (CPf.rf.w13).w16
        · rw [show f_X8_readNumber nn uu (0 : Int32) (99 : Int32) = _ from a3, b1_eq]
          exact if_pos (show (-1 : Int32) < 0 by decide)
      · right
        refine ⟨rs, st1 (st1 tt 13 1 (nI rs)) 16 ii (nI vv), sr1 (sr1 uu 39 18 (nI rs)) 47 (2 * ii + 1) (nI vv), by omega, v4, ?_, (CPf.rf.w13).w16, (h.mv rs).w16, ?_, (h2.mv rs).w47, (RPf.rf.w39 (Or.inl rfl)).w47, fun jj => ?_, fun jj hj => ?_, fun jj hj => ?_, ?_, fun _ => ?_⟩
        · rw [show f_X5_readNumber nn tt (nI ii) (0 : Int32) (99 : Int32) = _ from a1, b1_eq]
        · rw [show f_X8_readNumber nn uu (0 : Int32) (99 : Int32) = _ from a2, b1_eq]
          exact if_neg (nI_pos (by omega))
        · rw [st1_ne (by omega), st1_ne (by omega)]
        · rw [st1_o hj, st1_ne (by omega)]
        · rw [sr1_o hj, sr1_ne (by omega)]
        · rw [sr1_ne (by omega), sr1_o (by omega)]
        · rw [st1_s, sr1_s]
    · subst z1
      rw [z2, if_neg (show ¬ nI 3 = (0 : Int32) by decide), if_neg (show ¬ nI 3 = (1 : Int32) by decide), if_neg (show ¬ nI 3 = (2 : Int32) by decide), if_neg (show ¬ nI 116 = (115 : Int32) by decide), if_pos (show nI 116 = (116 : Int32) from rfl)]
      right
      refine ⟨ps, st1 tt 16 ii 0, uu, by omega, hp, ?_, CPf.rf.w16, h.w16, rfl, h2, RPf.rf, fun jj => ?_, fun jj hj => ?_, fun jj hj => rfl, rfl, fun z => absurd rfl z⟩
      · rw [ix_nI hi (by omega), nm_eq]
      · rw [st1_ne (by omega)]
      · rw [st1_o hj]
