/-! weights at their ends -/
def rb (dd : WD) (kk : Nat) : Bool := (ridS dd).testBit kk
theorem rb_eq (dd : WD) (kk : Nat) : rb dd kk = (decide (kk < dN dd) && decide (dp dd kk < 12)) := setOf_bit _ _ _
theorem rb_t {dd : WD} {kk : Nat} (h : rb dd kk = true) : kk < dN dd ∧ dp dd kk < 12 := by
  rw [rb_eq] at h
  simpa using h
theorem rb_f {dd : WD} {kk : Nat} (h : rb dd kk = false) (hk : kk < dN dd) : 12 ≤ dp dd kk := by
  rw [rb_eq] at h
  simp at h
  exact h hk
theorem rb_m {dd : WD} {kk : Nat} (h1 : kk < dN dd) (h2 : dp dd kk < 12) : rb dd kk = true := by
  rw [rb_eq]
  simp [h1, h2]
def rk (dd : WD) (kk : Nat) : Nat := fa_cnt (rb dd) kk
theorem rk_N (dd : WD) {kk : Nat} (h : dN dd ≤ kk) : rk dd kk = rk dd (dN dd) := by
  unfold rk
  induction kk with
  | zero =>
    have : dN dd = 0 := by omega
    rw [this]
  | succ kk ih =>
    by_cases q : dN dd = kk + 1
    · rw [q]
    · rw [fa_cnt_no (by rw [rb_eq]; simp; omega)]
      exact ih (by omega)
def wtD (dd : WD) (ww : Nat → Nat) : WD := (dN dd, dk dd, ww, dp dd, dsn dd, dsd dd, dmi dd, dli dd)
def endW (dd : WD) (sl ee kk : Nat) : Nat := if ee.testBit (rk dd kk) then dw dd kk + sl else dw dd kk - sl
def vx (dd : WD) (sl ee : Nat) : Nat → Int := ldA (wtD dd (endW dd sl ee))
theorem ldA_wt {dd : WD} {ww : Nat → Nat} {cc : Nat} (hc : cc < 12) : ldA (wtD dd ww) cc = (dsd dd cc : Int) + (nsum (fun kk => if dp dd kk = cc then ww kk else 0) (dN dd) : Int) := ldA_pf (wtD dd ww) hc
theorem wt_ok {dd : WD} {ww : Nat → Nat} (hO : DOk dd) (hw : ∀ kk, kk < dN dd → ww kk ≤ 108) : ldOk (ldA (wtD dd ww)) := by
  refine ⟨fun cc _ => by unfold ldA ldm; omega, ?_⟩
  have h0 := hO.1
  have h1 := csum_lm (wtD dd ww) (ridS (wtD dd ww)) (dN dd)
  have h2 := nsum_bd (ff := ww) (mm := 108) (dN dd) hw
  have h3 := csum_const (xx := 99) (ff := fun cc => (dsd dd cc : Int)) 12 (fun jj hj => by have := hO.2.2.1 jj hj; omega)
  have h4 : csum (fun cc => (nsum (lm (wtD dd ww) (ridS (wtD dd ww)) cc) (dN dd) : Int)) 12 ≤ (nsum ww (dN dd) : Int) := h1
  show csum (fun cc => (dsd dd cc : Int) + (nsum (lm (wtD dd ww) (ridS (wtD dd ww)) cc) (dN dd) : Int)) 12 ≤ 2400
  rw [csum_add]
  omega
theorem vx_ok {dd : WD} {sl ee : Nat} (hO : DOk dd) (hs : sl ≤ 9) : ldOk (vx dd sl ee) := wt_ok hO (fun kk hk => by
  have := (hO.2.1 kk hk).2.2.1
  unfold endW
  split <;> omega)
def up1 (ww : Nat → Nat) (kk yy : Nat) : Nat → Nat := fun jj => if jj = kk then yy else ww jj
theorem ldA_up {dd : WD} {ww : Nat → Nat} {kk yy cc : Nat} (hk : kk < dN dd) (hc : cc < 12) : ldA (wtD dd (up1 ww kk yy)) cc = addL (ldA (wtD dd ww)) (dp dd kk) ((yy : Int) - (ww kk : Int)) cc := by
  have h1 := nsum_one (ff := fun jj => if dp dd jj = cc then up1 ww kk yy jj else 0) (gg := fun jj => if dp dd jj = cc then ww jj else 0) (ii := kk) (dN dd) (fun jj _ hne => by
    unfold up1
    rw [if_neg hne])
  rw [if_pos hk] at h1
  rw [ldA_wt hc, h1]
  unfold addL
  rw [ldA_wt hc]
  unfold up1
  rw [if_pos rfl]
  by_cases q : dp dd kk = cc
  · rw [if_pos q, if_pos q, if_pos q.symm]
    omega
  · rw [if_neg q, if_neg q, if_neg (fun z => q z.symm)]
    omega
theorem one_end {dd : WD} {ww : Nat → Nat} {kk lo hi : Nat} (hk : kk < dN dd) (hp : dp dd kk < 12) (h1 : lo ≤ ww kk) (h2 : ww kk ≤ hi) : ∃ yy, (yy = lo ∨ yy = hi) ∧ phL (ldA (wtD dd ww)) ≤ phL (ldA (wtD dd (up1 ww kk yy))) := by
  obtain ⟨be, hbe⟩ := phL_add (ld := ldA (wtD dd ww)) hp
  by_cases q : 0 ≤ be
  · refine ⟨hi, Or.inr rfl, ?_⟩
    rw [phL_cong (fun cc hc => ldA_up hk hc), hbe]
    have e1 := Int.mul_nonneg (show 0 ≤ (hi : Int) - (ww kk : Int) by omega) q
    have e2 : 0 ≤ ((hi : Int) - (ww kk : Int)) * ((hi : Int) - (ww kk : Int)) := sq_pos
    generalize ((hi : Int) - (ww kk : Int)) * be = x1 at e1 ⊢
    generalize ((hi : Int) - (ww kk : Int)) * ((hi : Int) - (ww kk : Int)) = x2 at e2 ⊢
    omega
  · refine ⟨lo, Or.inl rfl, ?_⟩
    rw [phL_cong (fun cc hc => ldA_up hk hc), hbe]
    have e1 := Int.mul_nonneg (show 0 ≤ (ww kk : Int) - (lo : Int) by omega) (show 0 ≤ -be by omega)
    have e3 : ((ww kk : Int) - (lo : Int)) * -be = ((lo : Int) - (ww kk : Int)) * be := by grind
    have e2 : 0 ≤ ((lo : Int) - (ww kk : Int)) * ((lo : Int) - (ww kk : Int)) := sq_pos
    rw [e3] at e1
    generalize ((lo : Int) - (ww kk : Int)) * be = x1 at e1 ⊢
    generalize ((lo : Int) - (ww kk : Int)) * ((lo : Int) - (ww kk : Int)) = x2 at e2 ⊢
    omega
theorem all_ends {dd : WD} (sl : Nat) : ∀ jj, jj ≤ dN dd → ∃ ww : Nat → Nat, (∀ kk, kk < jj → rb dd kk = true → ww kk = dw dd kk - sl ∨ ww kk = dw dd kk + sl) ∧ (∀ kk, jj ≤ kk → ww kk = dw dd kk) ∧ phL (ldA dd) ≤ phL (ldA (wtD dd ww)) := by
  intro jj
  induction jj with
  | zero => exact fun _ => ⟨dw dd, fun kk hk => absurd hk (by omega), fun _ _ => rfl, Int.le_refl _⟩
  | succ jj ih =>
    intro hj
    obtain ⟨ww, h1, h2, h3⟩ := ih (by omega)
    by_cases q : rb dd jj = true
    · obtain ⟨q1, q2⟩ := rb_t q
      have e := h2 jj (Nat.le_refl _)
      obtain ⟨yy, hy, h4⟩ := one_end (ww := ww) (lo := dw dd jj - sl) (hi := dw dd jj + sl) q1 q2 (by omega) (by omega)
      refine ⟨up1 ww jj yy, fun kk hk hr => ?_, fun kk hk => ?_, Int.le_trans h3 h4⟩
      · unfold up1
        by_cases q3 : kk = jj
        · rw [if_pos q3, q3]; exact hy
        · rw [if_neg q3]; exact h1 kk (by omega) hr
      · unfold up1
        rw [if_neg (by omega)]
        exact h2 kk (by omega)
    · refine ⟨ww, fun kk hk hr => ?_, fun kk hk => h2 kk (by omega), h3⟩
      by_cases q3 : kk = jj
      · rw [q3] at hr; exact absurd hr q
      · exact h1 kk (by omega) hr
theorem as_bits {dd : WD} {sl : Nat} {ww : Nat → Nat} : ∀ jj, jj ≤ dN dd → (∀ kk, kk < jj → rb dd kk = true → ww kk = dw dd kk - sl ∨ ww kk = dw dd kk + sl) → ∃ ee, ee < 2 ^ rk dd jj ∧ ∀ kk, kk < jj → rb dd kk = true → endW dd sl ee kk = ww kk := by
  intro jj
  induction jj with
  | zero => exact fun _ _ => ⟨0, by simp [rk, fa_cnt], fun kk hk => absurd hk (by omega)⟩
  | succ jj ih =>
    intro hj h1
    obtain ⟨ee, h2, h3⟩ := ih (by omega) (fun kk hk => h1 kk (by omega))
    by_cases q : rb dd jj = true
    · have er : rk dd (jj + 1) = rk dd jj + 1 := fa_cnt_yes q
      have h4 : 2 ^ (rk dd jj + 1) = 2 * 2 ^ rk dd jj := by rw [Nat.pow_succ]; omega
      rw [er, h4]
      rcases h1 jj (by omega) q with z | z
      · refine ⟨ee, by omega, fun kk hk hr => ?_⟩
        by_cases q3 : kk = jj
        · subst q3
          unfold endW
          rw [Nat.testBit_lt_two_pow h2, if_neg (by decide), z]
        · exact h3 kk (by omega) hr
      · have h5 := Nat.two_pow_pos (rk dd jj)
        have h6 : ee ||| 2 ^ rk dd jj < 2 ^ (rk dd jj + 1) := Nat.or_lt_two_pow (by omega) (by omega)
        refine ⟨ee ||| 2 ^ rk dd jj, by omega, fun kk hk hr => ?_⟩
        by_cases q3 : kk = jj
        · subst q3
          unfold endW
          rw [Nat.testBit_or, Nat.testBit_two_pow_self, Bool.or_true, if_pos rfl, z]
        · have h7 : rk dd kk < rk dd jj := cnt_mono (by omega) hr
          rw [← h3 kk (by omega) hr]
          unfold endW
          rw [Nat.testBit_or, Nat.testBit_two_pow, decide_eq_false (show ¬ rk dd jj = rk dd kk by omega), Bool.or_false]
    · have q' : rb dd jj = false := by simpa using q
      have er : rk dd (jj + 1) = rk dd jj := fa_cnt_no q'
      rw [er]
      refine ⟨ee, h2, fun kk hk hr => ?_⟩
      by_cases q3 : kk = jj
      · rw [q3] at hr; exact absurd hr q
      · exact h3 kk (by omega) hr
/-- an end is no less far out of true than all weights as they are -/
theorem vx_ex (dd : WD) (sl : Nat) : ∃ ee, ee < 2 ^ rk dd (dN dd) ∧ phL (ldA dd) ≤ phL (vx dd sl ee) := by
  obtain ⟨ww, h1, h2, h3⟩ := all_ends (dd := dd) sl (dN dd) (Nat.le_refl _)
  obtain ⟨ee, h4, h5⟩ := as_bits (dN dd) (Nat.le_refl _) h1
  refine ⟨ee, h4, ?_⟩
  have e : phL (vx dd sl ee) = phL (ldA (wtD dd ww)) := phL_cong (fun cc hc => by
    unfold vx
    rw [ldA_wt hc, ldA_wt hc, nsum_cong (dN dd) (fun kk hk => ?_)]
    by_cases q : dp dd kk = cc
    · rw [if_pos q, if_pos q]
      exact h5 kk hk (rb_m hk (by omega))
    · rw [if_neg q, if_neg q])
  rw [e]
  exact h3
/-- the sum over those who ride, listed, is the sum over all -/
theorem sum_list {pp : Nat → Bool} {rl gg : Nat → Nat} {mm : Nat} (h : ∀ kk, kk < mm → pp kk = true → rl (fa_cnt pp kk) = kk) : ∀ kk, kk ≤ mm → nsum (fun jj => gg (rl jj)) (fa_cnt pp kk) = nsum (fun jj => if pp jj then gg jj else 0) kk := by
  intro kk
  induction kk with
  | zero => exact fun _ => rfl
  | succ kk ih =>
    intro hk
    have h1 := ih (by omega)
    rw [nsum]
    by_cases q : pp kk = true
    · rw [fa_cnt_yes q, nsum, h1, h kk (by omega) q, if_pos q]
    · have q' : pp kk = false := by simpa using q
      rw [fa_cnt_no q', h1, if_neg q, Nat.add_zero]
theorem cnt_surj {pp : Nat → Bool} : ∀ mm jj, jj < fa_cnt pp mm → ∃ kk, kk < mm ∧ pp kk = true ∧ fa_cnt pp kk = jj := by
  intro mm
  induction mm with
  | zero => intro jj hj; exact absurd hj (by simp [fa_cnt])
  | succ mm ih =>
    intro jj hj
    by_cases q : pp mm = true
    · rw [fa_cnt_yes q] at hj
      by_cases q2 : jj = fa_cnt pp mm
      · exact ⟨mm, by omega, q, q2.symm⟩
      · obtain ⟨kk, h1, h2, h3⟩ := ih jj (by omega)
        exact ⟨kk, by omega, h2, h3⟩
    · have q' : pp mm = false := by simpa using q
      rw [fa_cnt_no q'] at hj
      obtain ⟨kk, h1, h2, h3⟩ := ih jj hj
      exact ⟨kk, by omega, h2, h3⟩
