/-! reading people -/
def CPf (tt ww : MM) : Prop := (∀ kk, kk ≠ 13 → kk ≠ 15 → kk ≠ 16 → ww kk = tt kk) ∧ ww 13 2 = tt 13 2
def RPf (uu ww : SR) : Prop := (∀ kk, kk ≠ 39 → kk ≠ 47 → ww.1 kk = uu.1 kk) ∧ (∀ jj, jj ≠ 18 → jj ≠ 19 → ww.1 39 jj = uu.1 39 jj) ∧ ww.2 = uu.2
theorem CPf.w13 {tt ww : MM} {vv : Int32} (h : CPf tt ww) : CPf tt (st1 ww 13 1 vv) := ⟨fun kk a1 a2 a3 => by rw [st1_ne a1]; exact h.1 kk a1 a2 a3, by rw [st1_o (by omega)]; exact h.2⟩
theorem CPf.w15 {tt ww : MM} {jj : Nat} {vv : Int32} (h : CPf tt ww) : CPf tt (st1 ww 15 jj vv) := ⟨fun kk a1 a2 a3 => by rw [st1_ne a2]; exact h.1 kk a1 a2 a3, by rw [st1_ne (by omega)]; exact h.2⟩
theorem CPf.w16 {tt ww : MM} {jj : Nat} {vv : Int32} (h : CPf tt ww) : CPf tt (st1 ww 16 jj vv) := ⟨fun kk a1 a2 a3 => by rw [st1_ne a3]; exact h.1 kk a1 a2 a3, by rw [st1_ne (by omega)]; exact h.2⟩
theorem RPf.w39 {uu ww : SR} {jj : Nat} {vv : Int32} (h : RPf uu ww) (hj : jj = 18 ∨ jj = 19) : RPf uu (sr1 ww 39 jj vv) := ⟨fun kk a1 a2 => by rw [sr1_ne a1]; exact h.1 kk a1 a2, fun xx a1 a2 => by rw [sr1_o (by omega)]; exact h.2.1 xx a1 a2, h.2.2⟩
theorem RPf.w47 {uu ww : SR} {jj : Nat} {vv : Int32} (h : RPf uu ww) : RPf uu (sr1 ww 47 jj vv) := ⟨fun kk a1 a2 => by rw [sr1_ne a2]; exact h.1 kk a1 a2, fun xx a1 a2 => by rw [sr1_ne (by omega)]; exact h.2.1 xx a1 a2, h.2.2⟩
theorem CT.w15 {tt : MM} {bt : Nat → Nat} {ln ps jj : Nat} {vv : Int32} (h : CT tt bt ln ps) : CT (st1 tt 15 jj vv) bt ln ps := by
  unfold CT at h ⊢
  rw [st1_ne (by omega), st1_ne (by omega)]
  exact h
theorem CT.w16 {tt : MM} {bt : Nat → Nat} {ln ps jj : Nat} {vv : Int32} (h : CT tt bt ln ps) : CT (st1 tt 16 jj vv) bt ln ps := by
  unfold CT at h ⊢
  rw [st1_ne (by omega), st1_ne (by omega)]
  exact h
theorem RT.w47 {uu : SR} {bt : Nat → Nat} {ln ps jj : Nat} {vv : Int32} (h : RT uu bt ln ps) : RT (sr1 uu 47 jj vv) bt ln ps := by
  unfold RT at h ⊢
  rw [sr1_ne (by omega), sr1_ne (by omega)]
  exact h
theorem RT.w19 {uu : SR} {bt : Nat → Nat} {ln ps : Nat} {vv : Int32} (h : RT uu bt ln ps) : RT (sr1 uu 39 19 vv) bt ln ps := by
  unfold RT at h ⊢
  rw [sr1_o (by omega), sr1_o (by omega), sr1_ne (by omega)]
  exact h
theorem C_letter {tt : MM} {bt : Nat → Nat} {ln ps qs nn k1 kx : Nat} {Of : Nat → Nat} (hT : TB bt ln) (h : CT tt bt ln ps) (hn : 121 < nn) (hk : kx < 64) (hq : isSk bt ln ps qs) (hx : f_X5_next nn tt = some (nxB bt ln qs, st1 tt 13 1 (nI qs))) (hidx : ∀ bb, bb < 128 → f_J0_indexOf_0f7a4 nn k1 (((nI bb).toUInt32 % 65536).toInt32) = some (if Of bb = 9 then -1 else nI (Of bb))) (hOf : ∀ bb, ¬ Of bb = 9 → Of bb < 4) : f_X5_readLetter nn tt k1 (nI kx) = if qs < ln ∧ ¬ Of (bt qs) = 9 then some (0, st1 (st1 (st1 tt 13 1 (nI qs)) 15 kx (nI (Of (bt qs)))) 13 1 (nI (qs + 1))) else some ((-20 : Int32) - nI qs, st1 tt 13 1 (nI qs)) := by
  have hl := hT.1
  have hm : ¬ (0 : Int32) ≤ -1 := by decide
  unfold f_X5_readLetter f_X5_readLetter_20 f_X5_faultAt
  rw [hx, b1_eq]
  simp only [b1_eq, st1_s, if_neg hm]
  unfold nxB
  by_cases q : qs = ln
  · rw [if_pos q, if_pos rfl, if_neg (show ¬ (qs < ln ∧ ¬ Of (bt qs) = 9) by omega)]
  · have hb := hT.2 qs (by have := hq.2.1; omega)
    have hql : qs < ln := by have := hq.2.1; omega
    rw [if_neg q, if_neg (show ¬ nI (bt qs) = (-1 : Int32) from fun z => absurd (z ▸ nI_pos' (show bt qs < 2 ^ 31 by omega)) hm), hidx _ (by omega), b1_eq]
    by_cases q2 : Of (bt qs) = 9
    · rw [if_pos q2, if_neg hm, if_neg (show ¬ (qs < ln ∧ ¬ Of (bt qs) = 9) from fun z => z.2 q2)]
    · have := hOf _ q2
      rw [if_neg q2, if_pos (nI_pos' (show Of (bt qs) < 2 ^ 31 by omega)), if_pos (show qs < ln ∧ ¬ Of (bt qs) = 9 from ⟨hql, q2⟩), ix_nI hk (by omega), nI_clamp (show kx < 2 ^ 31 by omega)]
      simp only [nm_eq, st1_ne (show 13 ≠ 15 by omega), st1_s, nI_1]
def EN (PP : Int32 → Int32 → Int32 → Int32 → Prop) (ii : Nat) (tt : MM) (uu : SR) : Prop := ∀ jj, jj < ii → PP (tt 15 jj) (tt 16 jj) (uu.1 47 (2 * jj)) (uu.1 47 (2 * jj + 1))
theorem EN.ad {PP : Int32 → Int32 → Int32 → Int32 → Prop} {ii : Nat} {tt t2 : MM} {uu u2 : SR} (h : EN PP ii tt uu) (h1 : ∀ jj, jj < ii → t2 15 jj = tt 15 jj ∧ t2 16 jj = tt 16 jj) (h2 : ∀ jj, jj < 2 * ii → u2.1 47 jj = uu.1 47 jj) (h3 : PP (t2 15 ii) (t2 16 ii) (u2.1 47 (2 * ii)) (u2.1 47 (2 * ii + 1))) : EN PP (ii + 1) t2 u2 := by
  intro jj hj
  by_cases q : jj = ii
  · subst q; exact h3
  · rw [(h1 jj (by omega)).1, (h1 jj (by omega)).2, h2 (2 * jj) (by omega), h2 (2 * jj + 1) (by omega)]
    exact h jj (by omega)
def PPp (aa bb cc ee : Int32) : Prop := aa = cc ∧ bb = ee ∧ (∃ kd, kd < 4 ∧ aa = nI kd) ∧ ∃ wt, 1 ≤ wt ∧ wt ≤ 99 ∧ bb = nI wt
theorem m20 {qs : Nat} (h : qs ≤ 200) : ¬ ((-20 : Int32) - nI qs = 0) ∧ ((-20 : Int32) - nI qs) < 0 := by
  have e1 : (-20 : Int32) - nI qs = iI (-20 - (qs : Int)) := by
    rw [show (-20 : Int32) = iI (-20) by decide, ← iI_nat, iI_sub]
  have e2 : ((-20 : Int32) - nI qs).toInt = -20 - (qs : Int) := by rw [e1, iI_toInt (by omega) (by omega)]
  have e0 : (0 : Int32).toInt = 0 := rfl
  refine ⟨fun z => ?_, ?_⟩
  · rw [z] at e2
    omega
  · rw [fa_lt, e2]
    omega
theorem two_mul' (ii : Nat) : (2 : Int32) * nI ii = nI (2 * ii) := by
  rw [show (2 : Int32) = iI 2 by decide, ← iI_nat, iI_mul, ← iI_nat]
  rfl
theorem nx_eq {bt : Nat → Nat} {ln qs : Nat} (hT : TB bt ln) (hq : qs ≤ ln) (cc : Nat) (hc : cc < 200) : (nxB bt ln qs = nI cc) ↔ (qs < ln ∧ bt qs = cc) := by
  unfold nxB
  by_cases q : qs = ln
  · rw [if_pos q]
    refine ⟨fun z => ?_, fun z => by omega⟩
    exact absurd (z ▸ nI_pos' (show cc < 2 ^ 31 by omega)) (by decide)
  · have hb := hT.2 qs (by omega)
    rw [if_neg q, nI_eq (by omega) (by omega)]
    exact ⟨fun z => ⟨by omega, z⟩, fun z => z.2⟩
theorem nx_m1 {bt : Nat → Nat} {ln qs : Nat} (hT : TB bt ln) (hq : qs ≤ ln) : (nxB bt ln qs = -1) ↔ qs = ln := by
  unfold nxB
  by_cases q : qs = ln
  · rw [if_pos q]; simp [q]
  · have hb := hT.2 qs (by omega)
    rw [if_neg q]
    refine ⟨fun z => ?_, fun z => absurd z q⟩
    exact absurd (z ▸ nI_pos' (show bt qs < 2 ^ 31 by omega)) (by decide)
theorem nx_pos {bt : Nat → Nat} {ln qs : Nat} (hT : TB bt ln) (hq : qs ≤ ln) : (0 ≤ nxB bt ln qs) ↔ qs < ln := by
  unfold nxB
  by_cases q : qs = ln
  · rw [if_pos q]
    exact ⟨fun z => absurd z (by decide), fun z => by omega⟩
  · have hb := hT.2 qs (by omega)
    rw [if_neg q]
    exact ⟨fun _ => by omega, fun _ => nI_pos' (by omega)⟩
/-- one person read, both at once -/
theorem m_one {tt : MM} {uu : SR} {bt : Nat → Nat} {ln ps nn ii : Nat} (hT : TB bt ln) (h : CT tt bt ln ps) (h2 : RT uu bt ln ps) (hp : ps ≤ ln) (hn : 121 < nn) (hi : ii < 10) (hE : EN PPp ii tt uu) : (∃ qs cd t2 t3 u2, okP bt ln qs ∧ f_X5_readLetter nn tt 0 (nI ii) = some (cd, t2) ∧ (if cd = 0 then f_X5_readNumber nn t2 (nI ii) (1 : Int32) (99 : Int32) else some (cd, t2)) = some ((-20 : Int32) - nI qs, t3) ∧ CPf tt t3 ∧ f_X8_readOne nn uu (nI (2 * ii)) = some (0, u2) ∧ RT u2 bt ln qs ∧ RPf uu u2) ∨ (∃ rs t2 t3 u2, rs ≤ ln ∧ f_X5_readLetter nn tt 0 (nI ii) = some (0, t2) ∧ f_X5_readNumber nn t2 (nI ii) (1 : Int32) (99 : Int32) = some (0, t3) ∧ CPf tt t3 ∧ CT t3 bt ln rs ∧ f_X8_readOne nn uu (nI (2 * ii)) = some (1, u2) ∧ RT u2 bt ln rs ∧ RPf uu u2 ∧ EN PPp (ii + 1) t3 u2) := by
  have hl := hT.1
  have hm : ¬ (0 : Int32) ≤ -1 := by decide
  obtain ⟨qs, hs, e1, e2⟩ := m_next hT h h2 hp hn
  have hL := C_letter (kx := ii) hT h hn (by omega) hs e1 (fun bb hb => idx_kd hb (by omega)) (fun bb => ltO_lt)
  obtain ⟨s1, s2, s3, s4⟩ := hs
  have w0 : f_X8_readOne nn uu (nI (2 * ii)) = f_X8_readOne_51 nn (sr1 uu 39 18 (nI qs)) (nI (2 * ii)) (if qs < ln ∧ ¬ kdO (bt qs) = 9 then nI (kdO (bt qs)) else -1) (nI (2 * ii)) := by
    unfold f_X8_readOne
    rw [e2, b1_eq]
    simp only [lit32 103, lit32 99, lit32 115, lit32 98, nx_eq hT s2 103 (by omega), nx_eq hT s2 99 (by omega), nx_eq hT s2 115 (by omega), nx_eq hT s2 98 (by omega)]
    by_cases q : qs < ln
    · simp only [eq_true q, true_and]
      unfold kdO ltO
      by_cases g0 : bt qs = 103
      · simp [g0]; rfl
      · by_cases g1 : bt qs = 99
        · simp [g1]; rfl
        · by_cases g2 : bt qs = 115
          · simp [g2]; rfl
          · by_cases g3 : bt qs = 98
            · simp [g3]; rfl
            · simp [g0, g1, g2, g3]
    · simp only [eq_false q, false_and, if_false]
  by_cases q : qs < ln ∧ ¬ kdO (bt qs) = 9
  · rw [if_pos q] at hL w0
    have hkd : kdO (bt qs) < 4 := ltO_lt q.2
    have hC3 : CT (st1 (st1 (st1 tt 13 1 (nI qs)) 15 ii (nI (kdO (bt qs)))) 13 1 (nI (qs + 1))) bt ln (qs + 1) := ((h.mv qs).w15).mv (qs + 1)
    have hR3 : RT (sr1 (sr1 (sr1 uu 39 18 (nI qs)) 47 (2 * ii) (nI (kdO (bt qs)))) 39 18 (nI (qs + 1))) bt ln (qs + 1) := ((h2.mv qs).w47).mv (qs + 1)
    have w1 : ∀ yy, f_X8_readNumber nn (sr1 (sr1 (sr1 uu 39 18 (nI qs)) 47 (2 * ii) (nI (kdO (bt qs)))) 39 18 (nI (qs + 1))) (1 : Int32) (99 : Int32) = some yy → f_X8_readOne nn uu (nI (2 * ii)) = some (if yy.1 ≤ 0 then 0 else 1, sr1 yy.2 47 (2 * ii + 1) yy.1) := by
      intro yy hy
      rw [w0]
      unfold f_X8_readOne_51
      simp only [ix_nI (show 2 * ii < 240 by omega) (show 240 < 2 ^ 31 by omega), nI_clamp (show 2 * ii < 2 ^ 31 by omega), nm_eq, sr1_s, if_pos (nI_pos' (show kdO (bt qs) < 2 ^ 31 by omega)), sr1_ne (show 39 ≠ 47 by omega), nI_1, hy, b1_eq, ix_nI (show 2 * ii + 1 < 240 by omega) (show 240 < 2 ^ 31 by omega), nI_clamp (show 2 * ii + 1 < 2 ^ 31 by omega)]
      split <;> rfl
    obtain ⟨q2, o2, o3, hcase⟩ := m_num (kx := ii) (lo := 1) hT hC3 hR3 (by omega) hn (by omega) (by omega)
    rcases hcase with ⟨t3, a1, a2, a3⟩ | ⟨vv, rs, v1, v2, v3, v4, a1, a2⟩
    · left
      refine ⟨q2, 0, _, t3, _, o2, hL, by rw [if_pos rfl]; exact a1, ?_, w1 _ a3, ?_, ?_⟩
      · have hb : CPf tt (st1 (st1 (st1 tt 13 1 (nI qs)) 15 ii (nI (kdO (bt qs)))) 13 1 (nI (qs + 1))) := ((CPf.w13 ⟨fun _ _ _ _ => rfl, rfl⟩).w15).w13
        rcases a2 with rfl | ⟨rs, vv, rfl⟩
        · exact hb.w13
        · exact (hb.w13).w16
      · exact (hR3.mv q2).w47
      · exact (((((RPf.w39 (uu := uu) ⟨fun _ _ _ => rfl, fun _ _ _ => rfl, rfl⟩ (Or.inl rfl)).w47).w39 (Or.inl rfl)).w39 (Or.inl rfl))).w47
    · right
      have w2 := w1 _ a2
      rw [if_neg (show ¬ nI vv ≤ 0 from nI_nle (by omega) (by omega))] at w2
      refine ⟨rs, _, _, _, v4, hL, a1, ?_, (hC3.mv rs).w16, w2, (hR3.mv rs).w47, ?_, ?_⟩
      · have hb : CPf tt (st1 (st1 (st1 tt 13 1 (nI qs)) 15 ii (nI (kdO (bt qs)))) 13 1 (nI (qs + 1))) := ((CPf.w13 ⟨fun _ _ _ _ => rfl, rfl⟩).w15).w13
        exact (hb.w13).w16
      · exact (((((RPf.w39 (uu := uu) ⟨fun _ _ _ => rfl, fun _ _ _ => rfl, rfl⟩ (Or.inl rfl)).w47).w39 (Or.inl rfl)).w39 (Or.inl rfl))).w47
      · refine hE.ad (fun jj hj => ?_) (fun jj hj => ?_) ?_
        · constructor
          · rw [st1_ne (by omega), st1_ne (by omega), st1_ne (by omega), st1_o (by omega), st1_ne (by omega)]
          · rw [st1_o (by omega), st1_ne (by omega), st1_ne (by omega), st1_ne (by omega), st1_ne (by omega)]
        · dsimp only
          rw [sr1_o (by omega), sr1_ne (by omega), sr1_ne (by omega), sr1_o (by omega), sr1_ne (by omega)]
        · have x1 : (st1 (st1 (st1 (st1 (st1 tt 13 1 (nI qs)) 15 ii (nI (kdO (bt qs)))) 13 1 (nI (qs + 1))) 13 1 (nI rs)) 16 ii (nI vv)) 15 ii = nI (kdO (bt qs)) := by
            rw [st1_ne (by omega), st1_ne (by omega), st1_ne (by omega), st1_s]
          have x2 : (sr1 (sr1 (sr1 (sr1 (sr1 uu 39 18 (nI qs)) 47 (2 * ii) (nI (kdO (bt qs)))) 39 18 (nI (qs + 1))) 39 18 (nI rs)) 47 (2 * ii + 1) (nI vv)).1 47 (2 * ii) = nI (kdO (bt qs)) := by
            rw [sr1_o (by omega), sr1_ne (by omega), sr1_ne (by omega), sr1_s]
          dsimp only
          rw [x1, x2, st1_s, sr1_s]
          exact ⟨rfl, rfl, ⟨_, hkd, rfl⟩, _, v1, v2, rfl⟩
  · rw [if_neg q] at hL w0
    left
    refine ⟨qs, (-20 : Int32) - nI qs, _, _, sr1 (sr1 uu 39 18 (nI qs)) 47 (2 * ii) (-1), s4, hL, by rw [if_neg (m20 (by omega)).1], CPf.w13 ⟨fun _ _ _ _ => rfl, rfl⟩, ?_, (h2.mv qs).w47, (RPf.w39 (uu := uu) ⟨fun _ _ _ => rfl, fun _ _ _ => rfl, rfl⟩ (Or.inl rfl)).w47⟩
    rw [w0]
    unfold f_X8_readOne_51
    simp only [ix_nI (show 2 * ii < 240 by omega) (show 240 < 2 ^ 31 by omega), nI_clamp (show 2 * ii < 2 ^ 31 by omega), nm_eq, sr1_s, if_neg hm]
theorem m_readP {tt : MM} {uu : SR} {bt : Nat → Nat} {ln nn : Nat} (hT : TB bt ln) (c1 : tt 13 2 = nI ln) (c2 : ∀ jj, jj < ln → tt 14 jj = nI (bt jj)) (r1 : uu.1 39 17 = nI ln) (r2 : ∀ jj, jj < ln → uu.1 46 jj = nI (bt jj)) (hn : 130 < nn) : (∃ qs t2 u2, okP bt ln qs ∧ f_X5_readPeople nn tt = some ((-20 : Int32) - nI qs, t2) ∧ f_X8_readPeople nn uu = some (0, u2) ∧ CPf tt t2 ∧ RPf uu u2 ∧ RT u2 bt ln qs) ∨ (∃ mm t2 u2, 1 ≤ mm ∧ mm ≤ 10 ∧ f_X5_readPeople nn tt = some (nI mm, t2) ∧ f_X8_readPeople nn uu = some (1, u2) ∧ CPf tt t2 ∧ RPf uu u2 ∧ EN PPp mm t2 u2 ∧ u2.1 39 19 = nI mm) := by
  have hl := hT.1
  have hC0 : CT (st1 tt 13 1 (nI 0)) bt ln 0 := ⟨by rw [st1_o (by omega)]; exact c1, by rw [st1_s], by rw [st1_ne (by omega)]; exact c2⟩
  have hR0 : RT (sr1 uu 39 18 (nI 0)) bt ln 0 := ⟨by rw [sr1_o (by omega)]; exact r1, by rw [sr1_s], by rw [sr1_ne (by omega)]; exact r2⟩
  obtain ⟨xx, yy, l1, l2, hX⟩ := lock22 (bb := lb_X5_readEntries_8 nn 0 (44 : Int32) (10 : Int32)) (cc := lb_X8_readPeople_7 nn) (fun ii v4 t2 v1 u2 => ii ≤ 9 ∧ v4 = nI ii ∧ v1 = nI ii ∧ CPf tt t2 ∧ RPf uu u2 ∧ EN PPp ii t2 u2 ∧ ∃ ps, ps ≤ ln ∧ CT t2 bt ln ps ∧ RT u2 bt ln ps) 10 (fun xx yy => (∃ qs t2 u2, okP bt ln qs ∧ xx = .inl ((-20 : Int32) - nI qs, t2) ∧ yy = .inl (0, u2) ∧ CPf tt t2 ∧ RPf uu u2 ∧ RT u2 bt ln qs) ∨ (∃ mm t2 u2, 1 ≤ mm ∧ mm ≤ 10 ∧ xx = .inl (nI mm, t2) ∧ yy = .inl (1, u2) ∧ CPf tt t2 ∧ RPf uu u2 ∧ EN PPp mm t2 u2 ∧ u2.1 39 19 = nI mm)) (by
    rintro ii v4 t2 v1 u2 hle ⟨hi9, rfl, rfl, hc, hr, hE, ps, hps, hC, hR⟩
    have gi : ¬ (10 : Int32) ≤ nI ii := nI_ge (b := 10) (by omega) (by omega)
    rcases m_one (nn := nn) hT hC hR hps (by omega) (show ii < 10 by omega) hE with ⟨qs, cd, t3, t4, u3, o1, a1, a2, a3, a4, a5, a6⟩ | ⟨rs, t3, t4, u3, hrs, a1, a2, a3, a4, a5, a6, a7, a8⟩
    · right
      have hq : qs ≤ ln := by omega
      refine ⟨.inl ((-20 : Int32) - nI qs, t4), .inl (0, u3), fun kk hk => it2_out ?_ kk (by omega), fun kk hk => it2_out ?_ kk (by omega), Or.inl ⟨qs, t4, u3, o1, rfl, rfl, ⟨fun kk b1 b2 b3 => (a3.1 kk b1 b2 b3).trans (hc.1 kk b1 b2 b3), a3.2.trans hc.2⟩, ⟨fun kk b1 b2 => (a6.1 kk b1 b2).trans (hr.1 kk b1 b2), fun jj b1 b2 => (a6.2.1 jj b1 b2).trans (hr.2.1 jj b1 b2), a6.2.2.trans hr.2.2⟩, a5⟩⟩
      · unfold lb_X5_readEntries_8
        rw [if_neg gi, a1, b1_eq]
        dsimp only
        by_cases q : cd = 0
        · rw [if_pos q] at a2
          rw [if_pos q, if_pos rfl, a2, b1_eq]
          unfold f_X5_readEntries_54_in8
          rw [if_neg (m20 (by omega)).1]
        · rw [if_neg q] at a2
          rw [if_neg q]
          have e1 : cd = (-20 : Int32) - nI qs := congrArg Prod.fst (Option.some.inj a2)
          have e2 : t3 = t4 := congrArg Prod.snd (Option.some.inj a2)
          rw [e1, e2]
          unfold f_X5_readEntries_54_in8
          rw [if_neg (m20 (by omega)).1]
      · unfold lb_X8_readPeople_7
        rw [if_neg gi, two_mul', a4, b1_eq, if_pos rfl]
    · have hR9 : RT (sr1 u3 39 19 (nI (ii + 1))) bt ln rs := a6.w19
      have hcc : CPf tt t4 := ⟨fun kk b1 b2 b3 => (a3.1 kk b1 b2 b3).trans (hc.1 kk b1 b2 b3), a3.2.trans hc.2⟩
      have hrr : RPf uu u3 := ⟨fun kk b1 b2 => (a7.1 kk b1 b2).trans (hr.1 kk b1 b2), fun jj b1 b2 => (a7.2.1 jj b1 b2).trans (hr.2.1 jj b1 b2), a7.2.2.trans hr.2.2⟩
      obtain ⟨q3, hs, e1, e2⟩ := m_next (nn := nn) hT a4 hR9 hrs (by omega)
      obtain ⟨s1, s2, s3, s4⟩ := hs
      have hE3 : EN PPp (ii + 1) (st1 t4 13 1 (nI q3)) (sr1 (sr1 u3 39 19 (nI (ii + 1))) 39 18 (nI q3)) := by
        intro jj hj
        rw [st1_ne (by omega), st1_ne (by omega), sr1_ne (by omega), sr1_ne (by omega)]
        exact a8 jj hj
      have bodyC : lb_X5_readEntries_8 nn 0 (44 : Int32) (10 : Int32) (nI ii) t2 = f_X5_readEntries_54_in8 nn t4 0 (44 : Int32) (10 : Int32) (nI ii) 0 := by
        unfold lb_X5_readEntries_8
        rw [if_neg gi, a1, b1_eq, if_pos rfl, if_pos rfl, a2, b1_eq]
      unfold f_X5_readEntries_54_in8 f_X5_readEntries_93_in8 f_X5_faultAt at bodyC
      rw [if_pos rfl, e1, b1_eq] at bodyC
      simp only [nx_m1 hT s2, b1_eq, nm_eq, st1_s, st1_st1, nI_1, show (44 : Int32) = nI 44 from rfl, nx_eq hT s2 44 (by omega)] at bodyC
      have bodyR : lb_X8_readPeople_7 nn (nI ii) u2 = if q3 < ln then (if q3 < ln ∧ bt q3 = 44 then (if nI ii = (9 : Int32) then some (.inl (.inl (0, sr1 (sr1 u3 39 19 (nI (ii + 1))) 39 18 (nI q3)))) else some (.inr (nI (ii + 1), sr1 (sr1 u3 39 19 (nI (ii + 1))) 39 18 (nI (q3 + 1))))) else some (.inl (.inl (0, sr1 (sr1 u3 39 19 (nI (ii + 1))) 39 18 (nI q3))))) else some (.inl (.inl (1, sr1 (sr1 u3 39 19 (nI (ii + 1))) 39 18 (nI q3)))) := by
        unfold lb_X8_readPeople_7
        rw [if_neg gi, two_mul', a5, b1_eq, if_neg n10', nm_eq, nI_1, e2, b1_eq]
        simp only [nx_pos hT s2, nm_eq, sr1_s, sr1_sr1, nI_1, show (44 : Int32) = nI 44 from rfl, nx_eq hT s2 44 (by omega)]
      have hcF : CPf tt (st1 t4 13 1 (nI q3)) := hcc.w13
      have hrF : RPf uu (sr1 (sr1 u3 39 19 (nI (ii + 1))) 39 18 (nI q3)) := (hrr.w39 (Or.inr rfl)).w39 (Or.inl rfl)
      by_cases q : q3 = ln
      · right
        rw [if_pos q] at bodyC
        rw [if_neg (by omega)] at bodyR
        refine ⟨_, _, fun kk hk => it2_out bodyC kk (by omega), fun kk hk => it2_out bodyR kk (by omega), Or.inr ⟨ii + 1, _, _, by omega, by omega, rfl, rfl, hcF, hrF, hE3, by rw [sr1_o (by omega), sr1_s]⟩⟩
      · rw [if_neg q] at bodyC
        rw [if_pos (by omega)] at bodyR
        by_cases q4 : q3 < ln ∧ bt q3 = 44
        · rw [if_pos q4] at bodyC bodyR
          by_cases q5 : ii = 9
          · right
            subst q5
            rw [if_pos (show nI 9 = (10 : Int32) - (1 : Int32) by decide)] at bodyC
            rw [if_pos (show nI 9 = (9 : Int32) by decide)] at bodyR
            exact ⟨_, _, fun kk hk => it2_out bodyC kk (by omega), fun kk hk => it2_out bodyR kk (by omega), Or.inl ⟨q3, _, _, s4, rfl, rfl, hcF, hrF, hR9.mv q3⟩⟩
          · left
            rw [if_neg (show ¬ nI ii = (10 : Int32) - (1 : Int32) from fun z => q5 ((nI_eq (b := 9) (by omega) (by omega)).mp z))] at bodyC
            rw [if_neg (show ¬ nI ii = (9 : Int32) from fun z => q5 ((nI_eq (b := 9) (by omega) (by omega)).mp z))] at bodyR
            refine ⟨by omega, _, _, _, _, bodyC, bodyR, by omega, rfl, rfl, hcc.w13, (hrr.w39 (Or.inr rfl)).w39 (Or.inl rfl), ?_, q3 + 1, by omega, a4.mv _, hR9.mv _⟩
            intro jj hj
            rw [st1_ne (by omega), st1_ne (by omega), sr1_ne (by omega), sr1_ne (by omega)]
            exact a8 jj hj
        · right
          rw [if_neg q4] at bodyC bodyR
          exact ⟨_, _, fun kk hk => it2_out bodyC kk (by omega), fun kk hk => it2_out bodyR kk (by omega), Or.inl ⟨q3, _, _, s4, rfl, rfl, hcF, hrF, hR9.mv q3⟩⟩) nn 0 (st1 tt 13 1 (nI 0)) 0 (sr1 uu 39 18 (nI 0)) (by omega) ⟨by omega, rfl, rfl, CPf.w13 ⟨fun _ _ _ _ => rfl, rfl⟩, RPf.w39 ⟨fun _ _ _ => rfl, fun _ _ _ => rfl, rfl⟩ (Or.inl rfl), fun jj hj => absurd hj (by omega), 0, by omega, hC0, hR0⟩
  have k1 : f_X5_readPeople nn tt = bR (some xx) (fun y => some y) (fun t_9 => b1 (f_X5_faultAt (t_9 13 1)) (fun y_10 => some (y_10, t_9))) := by
    unfold f_X5_readPeople f_X5_readEntries
    rw [nm_eq, show (it2 (lb_X5_readEntries_8 nn 0 (44 : Int32) (10 : Int32)) nn (0 : Int32) (st1 tt 13 1 (0 : Int32))) = some xx from l1]
    rcases hX with ⟨qs, t2, u2, -, rfl, -⟩ | ⟨mm, t2, u2, -, -, rfl, -⟩ <;> rfl
  have k2 : f_X8_readPeople nn uu = bR (some yy) (fun y => some y) (fun t_7 => some ((0 : Int32), t_7)) := by
    unfold f_X8_readPeople
    rw [nm_eq, show (it2 (lb_X8_readPeople_7 nn) nn (0 : Int32) (sr1 uu 39 18 (0 : Int32))) = some yy from l2]
  rcases hX with ⟨qs, t2, u2, h1, rfl, rfl, h4, h5, h6⟩ | ⟨mm, t2, u2, h1, h2, rfl, rfl, h5, h6, h7, h8⟩
  · exact Or.inl ⟨qs, t2, u2, h1, k1, k2, h4, h5, h6⟩
  · exact Or.inr ⟨mm, t2, u2, h1, h2, k1, k2, h5, h6, h7, h8⟩
