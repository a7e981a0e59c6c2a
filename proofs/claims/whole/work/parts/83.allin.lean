/-! all in: the class's small methods -/
theorem cnt_cut {pp : Nat → Bool} {ii : Nat} : ∀ nn, ii ≤ nn → fa_cnt (fun jj => decide (jj < ii) && pp jj) nn = fa_cnt pp ii := by
  intro nn
  induction nn with
  | zero => intro h; rw [show ii = 0 by omega]; rfl
  | succ nn ih =>
    intro h
    by_cases q : ii = nn + 1
    · rw [q]
      exact fa_cnt_cong (fun kk hk => by rw [decide_eq_true hk]; rfl)
    · rw [fa_cnt_no (by rw [decide_eq_false (show ¬ nn < ii by omega)]; rfl)]
      exact ih (by omega)
theorem cnt_sb {aa bb : Nat} (h : sb aa bb) : ∀ nn, fa_cnt (fun jj => aa.testBit jj) nn ≤ fa_cnt (fun jj => bb.testBit jj) nn := by
  intro nn
  induction nn with
  | zero => exact Nat.le_refl _
  | succ nn ih =>
    rw [fa_cnt, fa_cnt]
    by_cases q : aa.testBit nn = true
    · rw [if_pos q, if_pos (h nn q)]; omega
    · rw [if_neg q]
      split <;> omega
theorem mul4 (kk : Nat) : (4 : Int32) * nI kk = nI (4 * kk) := by
  rw [show (4 : Int32) = iI 4 by decide, ← iI_nat kk, iI_mul, ← iI_nat]
  congr 1
theorem C_shift {tt : MM} {st ii : Nat} (h2 : tt 17 2 = nI st) (hs : st < 1024) (hi : ii < 10) (hr : rn st ii ≤ 3) : f_X0_shiftOf tt (nI ii) = some (nI (4 * (3 - rn st ii))) := by
  have hp := Nat.two_pow_pos ii
  have h3 : st % 2 ^ ii ≤ st := Nat.mod_le _ _
  have e1 : fa_cnt (fun jj => (st % 2 ^ ii).testBit jj) 10 = rn st ii := by
    rw [fa_cnt_cong (q := fun jj => decide (jj < ii) && st.testBit jj) (fun kk _ => by rw [Nat.testBit_mod_two_pow])]
    exact cnt_cut 10 (by omega)
  unfold f_X0_shiftOf
  rw [h2, bit_sh (show ii < 31 by omega), show nI (2 ^ ii) - (1 : Int32) = nI (2 ^ ii - 1) from sh_sub (bb := 1) (by omega), fa_mask, bc_ok _ (by omega), b1_eq, e1, show (3 : Int32) - nI (rn st ii) = nI (3 - rn st ii) from sh_sub (aa := 3) hr, mul4]
def sg (kk mm : Nat) : Nat → Nat := fun jj => if jj = kk then mm else 0
theorem q4n_sg {kk mm : Nat} (hk : kk < 4) : q4n (sg kk mm) = mm * 2 ^ (4 * (3 - kk)) := by
  rcases (show kk = 0 ∨ kk = 1 ∨ kk = 2 ∨ kk = 3 by omega) with rfl | rfl | rfl | rfl
  · show ((mm * 16 + 0) * 16 + 0) * 16 + 0 = mm * 2 ^ 12
    have : (2 : Nat) ^ 12 = 4096 := by decide
    omega
  · show ((0 * 16 + mm) * 16 + 0) * 16 + 0 = mm * 2 ^ 8
    have : (2 : Nat) ^ 8 = 256 := by decide
    omega
  · show ((0 * 16 + 0) * 16 + mm) * 16 + 0 = mm * 2 ^ 4
    have : (2 : Nat) ^ 4 = 16 := by decide
    omega
  · show ((0 * 16 + 0) * 16 + 0) * 16 + mm = mm * 2 ^ 0
    omega
def pD (st part mm : Nat) (ii : Nat) : Nat → Nat := fun kk => if kk < rn st ii ∧ part.testBit (pk st kk) = true then mm else 0
theorem pD_lt {st part mm ii kk : Nat} (hm : mm < 12) : pD st part mm ii kk < 16 := by
  unfold pD
  split <;> omega
theorem C_rowOf {tt : MM} {st part mm nn : Nat} (h2 : tt 17 2 = nI st) (hs : st < 1024) (h4 : rn st 10 ≤ 4) (hp : sb part st) (hm : mm < 12) (hn : 12 < nn) : f_X0_rowOf nn tt (nI part) (nI mm) = some (nI (q4n (pD st part mm 10))) := by
  have hpl := hp.le
  obtain ⟨xx, h1, h3⟩ := it2_inv (bb := lb_X0_rowOf_5 nn tt (nI part) (nI mm)) (fun ii v3 v4 => v3 = nI (q4n (pD st part mm ii)) ∧ v4 = nI ii) 10 (fun xx => xx = nI (q4n (pD st part mm 10))) (by
    rintro ii v3 v4 hle ⟨rfl, rfl⟩
    unfold lb_X0_rowOf_5
    by_cases q : ii < 10
    · rw [if_neg (show ¬ (10 : Int32) ≤ nI ii from nI_ge (b := 10) q (by omega))]
      simp only [bit_z (show part < 2 ^ 31 by omega) (show ii < 31 by omega)]
      by_cases q2 : part.testBit ii = true
      · have hb := hp ii q2
        have hr : rn st ii < rn st 10 := rn_lt q hb
        have er : rn st (ii + 1) = rn st ii + 1 := fa_cnt_yes (p := fun jj => st.testBit jj) hb
        have hpk := pk_rn hs hb
        have hsh : nI mm <<< (nI (4 * (3 - rn st ii)) &&& 31) = nI (q4n (sg (rn st ii) mm)) := by
          have hb2 : mm * 2 ^ (4 * (3 - rn st ii)) < 2 ^ 32 := by
            have e1 : 2 ^ (4 * (3 - rn st ii)) ≤ 2 ^ 12 := Nat.pow_le_pow_right (by decide) (by omega)
            have e2 : mm * 2 ^ (4 * (3 - rn st ii)) ≤ 12 * 2 ^ 12 := Nat.mul_le_mul (by omega) e1
            have e3 : (12 : Nat) * 2 ^ 12 < 2 ^ 32 := by decide
            omega
          rw [pk_shlN _ (4 * (3 - rn st ii)) (s_l _ (by omega)) hb2, q4n_sg (by omega)]
        rw [if_neg (fun z => by rw [q2] at z; exact absurd z (by decide)), C_shift h2 hs q (by omega), b1_eq, hsh, fa_or, nm_eq, nm_eq, nI_1]
        refine Or.inl ⟨q, _, _, rfl, ?_, rfl⟩
        rw [q4n_or (fun kk _ => pD_lt hm) (fun kk _ => by unfold sg; split <;> omega)]
        refine congrArg nI (q4n_cong (fun kk hk => ?_))
        unfold pD sg
        rw [er]
        by_cases q3 : kk = rn st ii
        · subst q3
          rw [if_neg (fun z => by omega), if_pos rfl, if_pos ⟨by omega, by rw [hpk]; exact q2⟩]
          simp
        · rw [if_neg q3]
          by_cases q4 : kk < rn st ii ∧ part.testBit (pk st kk) = true
          · rw [if_pos q4, if_pos ⟨by omega, q4.2⟩]
            simp
          · rw [if_neg q4, if_neg (fun z => q4 ⟨by omega, z.2⟩)]
            simp
      · rw [if_pos (by simpa using q2), nm_eq, nI_1]
        refine Or.inl ⟨q, _, _, rfl, ?_, rfl⟩
        refine congrArg nI (q4n_cong (fun kk hk => ?_))
        unfold pD
        by_cases q3 : st.testBit ii = true
        · have er : rn st (ii + 1) = rn st ii + 1 := fa_cnt_yes (p := fun jj => st.testBit jj) q3
          have hpk := pk_rn hs q3
          rw [er]
          by_cases q4 : kk = rn st ii
          · subst q4
            rw [if_neg (fun z => by omega), if_neg (fun z => q2 (by have := z.2; rw [hpk] at this; exact this))]
          · by_cases q5 : kk < rn st ii ∧ part.testBit (pk st kk) = true
            · rw [if_pos q5, if_pos ⟨by omega, q5.2⟩]
            · rw [if_neg q5, if_neg (fun z => q5 ⟨by omega, z.2⟩)]
        · have er : rn st (ii + 1) = rn st ii := fa_cnt_no (p := fun jj => st.testBit jj) (by simpa using q3)
          rw [er]
    · have e : ii = 10 := by omega
      subst e
      rw [if_pos (show (10 : Int32) ≤ nI 10 by decide)]
      exact Or.inr ⟨_, rfl, rfl⟩) nn 0 0 (by omega) ⟨rfl, rfl⟩
  unfold f_X0_rowOf
  rw [h1, b1_eq, h3]
theorem low_bit : ∀ bb, bb < 1024 → bb ≠ 0 → nI bb &&& (-nI bb) = nI (2 ^ fa_first (fun ii => bb.testBit ii) 10) := by decide +kernel
theorem C_mgt {tt : MM} {how part left : Nat} (h3 : tt 17 3 = nI how) (hh : how ≤ 2) (hl : left < 1024) (hp : part < 1024) : f_X0_mayGoTogether tt (nI part) (nI left) = some (if mgB how part left then 1 else 0) := by
  have ha : andn left part ≤ left := andn_sb.le
  unfold f_X0_mayGoTogether mgB
  rw [nI_nd, nm_eq, h3]
  by_cases q : andn left part = 0
  · rw [q, if_pos (show nI 0 = (0 : Int32) from rfl)]
    simp
  · rw [if_neg (nI_ne0 (by omega) (by omega)), low_bit _ (by omega) q, nm_eq]
    have hf := fa_first_le (fun ii => (andn left part).testBit ii) 10
    have hpw : 2 ^ fa_first (fun ii => (andn left part).testBit ii) 10 ≤ 2 ^ 10 := Nat.pow_le_pow_right (by decide) hf
    have hp2 : (2 : Nat) ^ 10 = 1024 := by decide
    rw [beq_false_of_ne q, Bool.false_or]
    rcases (show how = 0 ∨ how = 1 ∨ how = 2 by omega) with rfl | rfl | rfl
    · rw [if_neg (show ¬ nI 0 = (1 : Int32) by decide), if_neg (show ¬ nI 0 = (2 : Int32) by decide)]
      simp
    · rw [if_pos (show nI 1 = (1 : Int32) from rfl)]
      simp only [nI_leI (show 2 ^ fa_first (fun ii => (andn left part).testBit ii) 10 < 2 ^ 31 by omega) (show part < 2 ^ 31 by omega)]
      by_cases q2 : part < 2 ^ fa_first (fun ii => (andn left part).testBit ii) 10
      · rw [if_neg (by omega), decide_eq_true q2]
        rfl
      · rw [if_pos (by omega), decide_eq_false q2]
        rfl
    · rw [if_neg (show ¬ nI 2 = (1 : Int32) by decide), if_pos (show nI 2 = (2 : Int32) from rfl)]
      rfl
def sbn (ll : Nat) : Nat → Nat
  | 0 => ll
  | nn + 1 => (sbn ll nn - 1) &&& ll
theorem sbn15 : ∀ ll, ll < 1024 → fa_cnt (fun jj => ll.testBit jj) 10 ≤ 4 → sbn ll 15 = 0 := by decide +kernel
theorem sbn_sb {ll : Nat} : ∀ nn, sb (sbn ll nn) ll
  | 0 => sb.rf
  | _ + 1 => sb_r
