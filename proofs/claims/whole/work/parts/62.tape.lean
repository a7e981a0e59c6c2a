/-! letters and numbers on the tape, both at once -/
theorem chr_id : ∀ bb, bb < 128 → ((nI bb).toUInt32 % 65536).toInt32 = nI bb := by decide +kernel
theorem b8_id : ∀ bb, bb < 128 → (nI bb).toInt8.toInt32 = nI bb := by decide +kernel
def ltO (b0 b1' b2' b3' bb : Nat) : Nat := if bb = b0 then 0 else if bb = b1' then 1 else if bb = b2' then 2 else if bb = b3' then 3 else 9
theorem idx_go {nn kx b0 b1' b2' b3' bb : Nat} (hb : bb < 128) (hn : 5 < nn) (t0 : txv kx 0 = nI b0) (t1 : txv kx 1 = nI b1') (t2 : txv kx 2 = nI b2') (t3 : txv kx 3 = nI b3') (h0 : b0 < 128) (h1 : b1' < 128) (h2 : b2' < 128) (h3 : b3' < 128) : f_J0_indexOf_0f7a4 nn kx (((nI bb).toUInt32 % 65536).toInt32) = some (if ltO b0 b1' b2' b3' bb = 9 then -1 else nI (ltO b0 b1' b2' b3' bb)) := by
  obtain ⟨mm, rfl⟩ : ∃ mm, nn = mm + 5 := ⟨nn - 5, by omega⟩
  rw [chr_id bb hb]
  have l4 : f_J0_length_8abf5 kx = some 4 := by
    unfold f_J0_length_8abf5 f_J0_coder_7d493
    decide +kernel
  have l1 : f_J0_isLatin1_aae02 kx = some 1 := by
    unfold f_J0_isLatin1_aae02
    decide +kernel
  have ce : f_J1_canEncode_9a6ad (nI bb) = some 1 := by
    unfold f_J1_canEncode_9a6ad
    rw [if_neg (nI_pos (by omega)), if_neg (show ¬ (255 : Int32) < nI bb from nI_nlt (a := 255) (b := bb) (by omega) (by omega))]
  unfold f_J0_indexOf_0f7a4 f_J0_indexOf_7cf53 f_J1_indexOf_4cfef f_J1_indexOfChar_4cfef
  rw [l1, b1_eq, if_neg n10', l4, b1_eq, ce, b1_eq, if_neg n10']
  have e0 : ∀ (zz : Nat) (w4 : Int32), zz < 4 → lb_J1_indexOfChar_4cfef_7 (mm + 5) kx 4 w4 (nI zz) = if txv kx zz = w4 then some (.inl (.inl (nI zz))) else some (.inr (nI (zz + 1))) := by
    intro zz w4 hz
    unfold lb_J1_indexOfChar_4cfef_7
    rw [if_neg (show ¬ (4 : Int32) ≤ nI zz from nI_ge (b := 4) hz (by omega)), ix_nI hz (by omega), nI_clamp (show zz < 2 ^ 31 by omega), nm_eq, nI_1]
  have e4 : ∀ w4 : Int32, lb_J1_indexOfChar_4cfef_7 (mm + 5) kx 4 w4 (nI 4) = some (.inl (.inr ())) := by
    intro w4
    unfold lb_J1_indexOfChar_4cfef_7
    rw [if_pos (show (4 : Int32) ≤ nI 4 by decide)]
  have c0 := e0 0 (nI bb) (by omega)
  have c1 := e0 1 (nI bb) (by omega)
  have c2 := e0 2 (nI bb) (by omega)
  have c3 := e0 3 (nI bb) (by omega)
  have c4 := e4 (nI bb)
  rw [t0] at c0
  rw [t1] at c1
  rw [t2] at c2
  rw [t3] at c3
  simp only [nI_eq (show b0 < 2 ^ 31 by omega) (show bb < 2 ^ 31 by omega)] at c0
  simp only [nI_eq (show b1' < 2 ^ 31 by omega) (show bb < 2 ^ 31 by omega)] at c1
  simp only [nI_eq (show b2' < 2 ^ 31 by omega) (show bb < 2 ^ 31 by omega)] at c2
  simp only [nI_eq (show b3' < 2 ^ 31 by omega) (show bb < 2 ^ 31 by omega)] at c3
  simp only [nm_eq, b8_id bb hb, if_neg (show ¬ (0 : Int32) < 0 by decide), if_neg (show ¬ (4 : Int32) < 4 by decide), if_pos (show (0 : Int32) < 4 by decide)]
  unfold ltO
  have z0 : (0 : Int32) = nI 0 := rfl
  rw [z0]
  by_cases g0 : b0 = bb
  · rw [if_pos g0] at c0
    subst g0
    simp [it1, c0, bR, b1]
  · rw [if_neg g0] at c0
    have g0' : ¬ bb = b0 := fun z => g0 z.symm
    by_cases g1 : b1' = bb
    · rw [if_pos g1] at c1
      subst g1
      simp [it1, c0, c1, bR, b1, g0']
    · rw [if_neg g1] at c1
      have g1' : ¬ bb = b1' := fun z => g1 z.symm
      by_cases g2 : b2' = bb
      · rw [if_pos g2] at c2
        subst g2
        simp [it1, c0, c1, c2, bR, b1, g0', g1']
      · rw [if_neg g2] at c2
        have g2' : ¬ bb = b2' := fun z => g2 z.symm
        by_cases g3 : b3' = bb
        · rw [if_pos g3] at c3
          subst g3
          simp [it1, c0, c1, c2, c3, bR, b1, g0', g1', g2']
        · rw [if_neg g3] at c3
          have g3' : ¬ bb = b3' := fun z => g3 z.symm
          simp [it1, c0, c1, c2, c3, c4, bR, b1, g0', g1', g2', g3']
def kdO (bb : Nat) : Nat := ltO 103 99 115 98 bb
def acO (bb : Nat) : Nat := ltO 105 111 115 116 bb
theorem idx_kd {nn bb : Nat} (hb : bb < 128) (hn : 5 < nn) : f_J0_indexOf_0f7a4 nn 0 (((nI bb).toUInt32 % 65536).toInt32) = some (if kdO bb = 9 then -1 else nI (kdO bb)) := idx_go hb hn rfl rfl rfl rfl (by omega) (by omega) (by omega) (by omega)
theorem idx_ac {nn bb : Nat} (hb : bb < 128) (hn : 5 < nn) : f_J0_indexOf_0f7a4 nn 1 (((nI bb).toUInt32 % 65536).toInt32) = some (if acO bb = 9 then -1 else nI (acO bb)) := idx_go hb hn rfl rfl rfl rfl (by omega) (by omega) (by omega) (by omega)
theorem ltO_lt {b0 b1' b2' b3' bb : Nat} (h : ¬ ltO b0 b1' b2' b3' bb = 9) : ltO b0 b1' b2' b3' bb < 4 := by
  unfold ltO at h ⊢
  repeat' split
  all_goals first
    | omega
    | (exfalso; apply h; simp [*])
/-- where the byte is -/
abbrev okP (bt : Nat → Nat) (ln qs : Nat) : Prop := qs = ln ∨ (qs < ln ∧ bt qs ≠ 32)
theorem dig_m1 : f_X5_isDigit (-1 : Int32) = some 0 := by decide +kernel
theorem m_num {tt : MM} {uu : SR} {bt : Nat → Nat} {ln ps nn kx lo : Nat} (hT : TB bt ln) (h : CT tt bt ln ps) (h2 : RT uu bt ln ps) (hp : ps ≤ ln) (hn : 121 < nn) (hk : kx < 64) (hlo : lo ≤ 1) : ∃ qs, okP bt ln qs ∧ ps ≤ qs ∧ ((∃ t2, f_X5_readNumber nn tt (nI kx) (nI lo) (nI 99) = some ((-20 : Int32) - nI qs, t2) ∧ (t2 = st1 tt 13 1 (nI qs) ∨ ∃ rs vv, t2 = st1 (st1 tt 13 1 (nI rs)) 16 kx vv) ∧ f_X8_readNumber nn uu (nI lo) (nI 99) = some ((-1 : Int32), sr1 uu 39 18 (nI qs))) ∨ (∃ vv rs, lo ≤ vv ∧ vv ≤ 99 ∧ qs < rs ∧ rs ≤ ln ∧ f_X5_readNumber nn tt (nI kx) (nI lo) (nI 99) = some (0, st1 (st1 tt 13 1 (nI rs)) 16 kx (nI vv)) ∧ f_X8_readNumber nn uu (nI lo) (nI 99) = some (nI vv, sr1 uu 39 18 (nI rs)))) := by
  have hl := hT.1
  obtain ⟨qs, hs, e1, e2⟩ := m_next hT h h2 hp hn
  have hC := h.mv qs
  have hR := h2.mv qs
  obtain ⟨s1, s2, s3, s4⟩ := hs
  refine ⟨qs, s4, s1, ?_⟩
  obtain ⟨k1, g1, l1⟩ := C_nloop (v1 := nI kx) (v2 := nI lo) (v4 := nI qs) hT hC s2 hn
  obtain ⟨k2, vv, g2, hv1, hv2, hv3, l2⟩ := R_nloop (v1 := nI lo) (v2 := nI 99) (v4 := nI qs) hT hR s2 hn
  have ek := isDg_un g1 g2
  subst ek
  rw [st1_st1] at l1
  rw [sr1_sr1] at l2
  obtain ⟨d1, d2, d3⟩ := g1
  unfold f_X5_readNumber f_X8_readNumber f_X5_faultAt
  rw [e1, e2]
  simp only [b1_eq, nm_eq, hC.2.1, hR.2.1]
  rw [l2, b2_eq]
  unfold f_X8_readNumber_92
  rw [sr1_s]
  by_cases q0 : k1 = 0
  · subst q0
    have z1 : f_X5_isDigit (nxB bt ln qs) = some 0 := by
      unfold nxB
      by_cases q : qs = ln
      · rw [if_pos q]; exact dig_m1
      · have hnd : ¬ (48 ≤ bt qs ∧ bt qs ≤ 57) := by
          rcases d3 with d3 | d3
          · omega
          · exact d3.2
        rw [if_neg q, C_dig (by have := hT.2 qs (by omega); omega), if_neg hnd]
    left
    rw [z1, b1_eq, if_pos rfl, if_pos (show nI (qs + 0) = nI qs from rfl)]
    exact ⟨_, rfl, Or.inl rfl, rfl⟩
  · have dq : 48 ≤ bt qs ∧ bt qs ≤ 57 := d2 0 (by omega)
    have hql : qs < ln := by omega
    have z1 : f_X5_isDigit (nxB bt ln qs) = some 1 := by
      unfold nxB
      rw [if_neg (by omega), C_dig (by have := hT.2 qs hql; omega), if_pos dq]
    rw [z1, b1_eq, if_neg n10', l1, b2_eq]
    unfold f_X5_readNumber_92 f_X5_readNumber_112 f_X5_faultAt
    rw [ix_nI hk (by omega), nm_eq, nI_clamp (show kx < 2 ^ 31 by omega), if_neg (show ¬ nI (qs + k1) = nI qs from fun z => by have := (nI_eq (show qs + k1 < 2 ^ 31 by omega) (show qs < 2 ^ 31 by omega)).mp z; omega)]
    have hin : f_X8_in (nI vv).toInt64 (nI lo).toInt64 (nI 99).toInt64 = some (if lo ≤ vv ∧ vv ≤ 99 then 1 else 0) := by
      rw [nI_wid (show lo < 2 ^ 31 by omega), nI_wid (show 99 < 2 ^ 31 by omega), R_inI (nI vv) (by omega) (by omega), nI_toInt (by omega)]
      by_cases q : lo ≤ vv ∧ vv ≤ 99
      · rw [if_pos q, if_pos (by omega)]
      · rw [if_neg q, if_neg (by omega)]
    rw [hin]
    simp only [b1_eq, ifp01, sr1_sr1, nm_eq]
    by_cases q : lo ≤ vv ∧ vv ≤ 99
    · right
      have ev : nval bt qs k1 = vv := by
        by_cases q5 : nval bt qs k1 ≤ 999
        · exact (hv1 q5).symm
        · have := hv2 (by omega); omega
      rw [ev, if_neg (show ¬ 100 < vv by omega), if_pos q, if_neg (nI_nlt q.1 (by omega)), if_pos (nI_le q.2 (by omega))]
      exact ⟨vv, qs + k1, q.1, q.2, by omega, by omega, rfl, rfl⟩
    · left
      rw [if_neg q]
      generalize hw : (if 100 < nval bt qs k1 then 100 else nval bt qs k1) = ww
      have hww : ww ≤ 100 ∧ ¬ (lo ≤ ww ∧ ww ≤ 99) := by
        by_cases q5 : nval bt qs k1 ≤ 999
        · have := hv1 q5
          split at hw <;> omega
        · split at hw <;> omega
      by_cases q6 : ww < lo
      · rw [if_pos (nI_lt q6 (by omega))]
        exact ⟨_, rfl, Or.inr ⟨_, _, rfl⟩, rfl⟩
      · rw [if_neg (nI_nlt (by omega) (by omega)), if_neg (nI_ge (show 99 < ww by omega) (by omega))]
        exact ⟨_, rfl, Or.inr ⟨_, _, rfl⟩, rfl⟩
