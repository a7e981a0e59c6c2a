/-! the order of a and b times the root of three, made linear -/
def ph (aa bb : Int) : Int := aa * 408855776 + bb * 708158977
theorem irr3 : ∀ (bb aa : Nat), aa * aa = 3 * (bb * bb) → bb = 0 := by
  intro bb
  induction bb using Nat.strongRecOn with
  | ind bb ih =>
    intro aa h
    by_cases h0 : bb = 0
    · exact h0
    · have h3 : aa % 3 = 0 := by
        have e : (aa * aa) % 3 = 0 := by rw [h]; omega
        rw [Nat.mul_mod] at e
        have : aa % 3 < 3 := Nat.mod_lt _ (by decide)
        rcases (show aa % 3 = 0 ∨ aa % 3 = 1 ∨ aa % 3 = 2 by omega) with q | q | q
        · exact q
        · rw [q] at e; exact absurd e (by decide)
        · rw [q] at e; exact absurd e (by decide)
      obtain ⟨cc, rfl⟩ : ∃ cc, aa = 3 * cc := ⟨aa / 3, by omega⟩
      have e2 : bb * bb = 3 * (cc * cc) := by
        have : 3 * cc * (3 * cc) = 9 * (cc * cc) := by grind
        omega
      have hb : 0 < bb * bb := Nat.mul_pos (by omega) (by omega)
      have hlt : cc < bb := by
        apply Nat.lt_of_not_le
        intro hle
        have := Nat.mul_le_mul hle hle
        omega
      have h5 := ih cc hlt bb e2
      subst h5
      omega
theorem irrI {aa bb : Int} (h : aa * aa = 3 * (bb * bb)) : bb = 0 := by
  have h1 := Int.natAbs_mul_self' aa
  have h2 := Int.natAbs_mul_self' bb
  have e : ((aa.natAbs * aa.natAbs : Nat) : Int) = ((3 * (bb.natAbs * bb.natAbs) : Nat) : Int) := by
    rw [Int.natCast_mul, Int.natCast_mul, Int.natCast_mul, h1, h2]
    exact h
  have h3 := irr3 _ _ (Int.ofNat.inj e)
  exact Int.natAbs_eq_zero.mp h3
theorem sq_pos {aa : Int} : 0 ≤ aa * aa := by
  rcases Int.le_total 0 aa with h | h
  · exact Int.mul_nonneg h h
  · have h6 := Int.mul_nonneg (show 0 ≤ -aa by omega) (show 0 ≤ -aa by omega)
    have h7 : -aa * -aa = aa * aa := by grind
    omega
theorem abv_ph {aa bb : Int} (h2 : small bb) : abv aa bb ↔ 0 < ph aa bb := by
  obtain ⟨u1, u2⟩ := h2
  have hb2 := sq_bd (aa := bb) (mm := 200000000) (by omega) (by omega)
  have ha2 : 0 ≤ aa * aa := sq_pos
  have g3 : 3 * bb * bb = 3 * (bb * bb) := by grind
  have eA : (aa * 408855776) * (aa * 408855776) = aa * aa * 167163045568562176 := by grind
  have eB : (bb * 708158977) * (bb * 708158977) = bb * bb * 501489136705686529 := by grind
  have nA : -(aa * 408855776) * -(aa * 408855776) = (aa * 408855776) * (aa * 408855776) := by grind
  have nB : -(bb * 708158977) * -(bb * 708158977) = (bb * 708158977) * (bb * 708158977) := by grind
  unfold abv ph
  rw [g3]
  rcases Int.lt_trichotomy aa 0 with ha | ha | ha
  · rcases Int.lt_trichotomy bb 0 with hb | hb | hb
    · omega
    · omega
    · have ni : aa * aa ≠ 3 * (bb * bb) := fun z => by have := irrI z; omega
      constructor
      · intro h
        have h3 : aa * aa < 3 * (bb * bb) := by omega
        apply Int.not_le.mp
        intro hle
        have h4 := Int.mul_self_le_mul_self (a := bb * 708158977) (b := -(aa * 408855776)) (by omega) (by omega)
        omega
      · intro h
        refine Or.inr (Or.inr ⟨ha, hb, ?_⟩)
        apply Int.not_le.mp
        intro hle
        have h4 := Int.mul_self_le_mul_self (a := -(aa * 408855776)) (b := bb * 708158977) (by omega) (by omega)
        omega
  · omega
  · rcases Int.lt_trichotomy bb 0 with hb | hb | hb
    · constructor
      · intro h
        have h3 : 3 * (bb * bb) < aa * aa := by omega
        apply Int.not_le.mp
        intro hle
        have h4 := Int.mul_self_le_mul_self (a := aa * 408855776) (b := -(bb * 708158977)) (by omega) (by omega)
        omega
      · intro h
        refine Or.inr (Or.inl ⟨ha, hb, ?_⟩)
        apply Int.not_le.mp
        intro hle
        have h4 := Int.mul_self_le_mul_self (a := -(bb * 708158977)) (b := aa * 408855776) (by omega) (by omega)
        have hp : 0 < bb * bb := by
          have h6 := Int.mul_pos (show 0 < -bb by omega) (show 0 < -bb by omega)
          have h7 : -bb * -bb = bb * bb := by grind
          omega
        omega
    · omega
    · omega
theorem ph_0 {aa bb : Int} (h2 : small bb) (h : ph aa bb = 0) : aa = 0 ∧ bb = 0 := by
  obtain ⟨u1, u2⟩ := h2
  have hb2 := sq_bd (aa := bb) (mm := 200000000) (by omega) (by omega)
  unfold ph at h
  have e0 : aa * 408855776 = -(bb * 708158977) := by
    generalize aa * 408855776 = x1 at h ⊢
    generalize bb * 708158977 = x2 at h ⊢
    omega
  have eA : (aa * 408855776) * (aa * 408855776) = aa * aa * 167163045568562176 := by grind
  have eB : (bb * 708158977) * (bb * 708158977) = bb * bb * 501489136705686529 := by grind
  have nB : -(bb * 708158977) * -(bb * 708158977) = (bb * 708158977) * (bb * 708158977) := by grind
  rw [e0, nB, eB] at eA
  have l1 : bb * bb * 501489136705686529 ≤ aa * aa * 167163045568562176 := Int.le_of_eq eA
  have l2 : aa * aa * 167163045568562176 ≤ bb * bb * 501489136705686529 := Int.le_of_eq eA.symm
  clear eA eB nB
  have h3 : bb * bb = 0 := by
    generalize bb * bb = yy at hb2 l1 l2 ⊢
    generalize aa * aa = xx at l1 l2
    rcases Int.lt_trichotomy xx (3 * yy) with q | q | q
    · omega
    · subst q
      omega
    · omega
  have h4 : bb = 0 := by
    rcases Int.mul_eq_zero.mp h3 with z | z <;> exact z
  subst h4
  exact ⟨by omega, rfl⟩
noncomputable def phL (ld : Nat → Int) : Int := ph (sqA ld) (sqB ld)
theorem sq_sm {l1 l2 : Nat → Int} (h1 : ldOk l1) (h2 : ldOk l2) : small (sqA l1 - sqA l2) ∧ small (sqB l1 - sqB l2) := by
  have a1 := sqA_bd h1
  have a2 := sqA_bd h2
  have b1' := sqB_bd h1
  have b2' := sqB_bd h2
  unfold small
  omega
theorem gt_ph {l1 l2 : Nat → Int} (h1 : ldOk l1) (h2 : ldOk l2) : abv (sqA l1 - sqA l2) (sqB l1 - sqB l2) ↔ phL l2 < phL l1 := by
  rw [abv_ph (sq_sm h1 h2).2]
  unfold phL ph
  omega
theorem eq_ph {l1 l2 : Nat → Int} (h1 : ldOk l1) (h2 : ldOk l2) (h : phL l1 = phL l2) : sqA l1 = sqA l2 ∧ sqB l1 = sqB l2 := by
  have h3 := ph_0 (aa := sqA l1 - sqA l2) (sq_sm h1 h2).2 (by
    unfold phL ph at h
    unfold ph
    rw [Int.sub_mul, Int.sub_mul]
    generalize sqA l1 * 408855776 = x1 at h ⊢
    generalize sqA l2 * 408855776 = x2 at h ⊢
    generalize sqB l1 * 708158977 = x3 at h ⊢
    generalize sqB l2 * 708158977 = x4 at h ⊢
    omega)
  omega
theorem phL_cong {ld le : Nat → Int} (h : ∀ cc, cc < 12 → ld cc = le cc) : phL ld = phL le := by
  unfold phL sqA sqB
  rw [carS_cong h, carS_cong h, carS_cong h, carS_cong h]
theorem tab_sq : ∀ cc, cc < 12 → tabI 1 cc * tabI 1 cc + 3 * (tabI 2 cc * tabI 2 cc) + tabI 3 cc * tabI 3 cc + 3 * (tabI 4 cc * tabI 4 cc) = 4 ∧ tabI 1 cc * tabI 2 cc + tabI 3 cc * tabI 4 cc = 0 := by decide +kernel
theorem phL_add {ld : Nat → Int} {cc : Nat} (hc : cc < 12) : ∃ be : Int, ∀ xx : Int, phL (addL ld cc xx) = phL ld + xx * be + 1635423104 * (xx * xx) := by
  obtain ⟨h4, h0⟩ := tab_sq cc hc
  refine ⟨(2 * (carS ld 0 * tabI 1 cc + 3 * (carS ld 1 * tabI 2 cc) + carS ld 2 * tabI 3 cc + 3 * (carS ld 3 * tabI 4 cc))) * 408855776 + (2 * (carS ld 0 * tabI 2 cc + carS ld 1 * tabI 1 cc + carS ld 2 * tabI 4 cc + carS ld 3 * tabI 3 cc)) * 708158977, fun xx => ?_⟩
  unfold phL ph sqA sqB
  rw [carS_add hc, carS_add hc, carS_add hc, carS_add hc]
  show ((carS ld 0 + xx * tabI 1 cc) * (carS ld 0 + xx * tabI 1 cc) + 3 * (carS ld 1 + xx * tabI 2 cc) * (carS ld 1 + xx * tabI 2 cc) + (carS ld 2 + xx * tabI 3 cc) * (carS ld 2 + xx * tabI 3 cc) + 3 * (carS ld 3 + xx * tabI 4 cc) * (carS ld 3 + xx * tabI 4 cc)) * 408855776 + 2 * ((carS ld 0 + xx * tabI 1 cc) * (carS ld 1 + xx * tabI 2 cc) + (carS ld 2 + xx * tabI 3 cc) * (carS ld 3 + xx * tabI 4 cc)) * 708158977 = _
  generalize carS ld 0 = w0
  generalize carS ld 1 = w1
  generalize carS ld 2 = w2
  generalize carS ld 3 = w3
  generalize tabI 1 cc = y1 at h4 h0 ⊢
  generalize tabI 2 cc = y2 at h4 h0 ⊢
  generalize tabI 3 cc = y3 at h4 h0 ⊢
  generalize tabI 4 cc = y4 at h4 h0 ⊢
  have k1 : xx * xx * (y1 * y1 + 3 * (y2 * y2) + y3 * y3 + 3 * (y4 * y4)) = xx * xx * 4 := by rw [h4]
  have k2 : xx * xx * (y1 * y2 + y3 * y4) = 0 := by rw [h0]; exact Int.mul_zero _
  grind
/-! counting bits -/
theorem bc_ok : ∀ mm, mm < 1024 → f_J6_bitCount_0f7a4 (nI mm) = some (nI (fa_cnt (fun jj => mm.testBit jj) 10)) := by decide +kernel
theorem on_ok : ∀ mm, mm < 1024 → it2 (lb_X8_ones_4 0) 11 (0 : Int32) (nI mm) = some (nI (fa_cnt (fun jj => mm.testBit jj) 10)) := by decide +kernel
theorem it2_mono {A1 A2 X : Type} {bb : A1 → A2 → Option (X ⊕ (A1 × A2))} : ∀ (kk : Nat) (a1 : A1) (a2 : A2) (xx : X), it2 bb kk a1 a2 = some xx → ∀ nn, kk ≤ nn → it2 bb nn a1 a2 = some xx := by
  intro kk
  induction kk with
  | zero =>
    intro a1 a2 xx h
    simp [it2] at h
  | succ kk ih =>
    intro a1 a2 xx h nn hn
    cases nn with
    | zero => omega
    | succ nn =>
      cases hb : bb a1 a2 with
      | none => simp [it2, hb] at h
      | some yy =>
        cases yy with
        | inl zz => simp [it2, hb] at h ⊢; exact h
        | inr zz =>
          obtain ⟨p1, p2⟩ := zz
          simp [it2, hb] at h ⊢
          exact ih p1 p2 xx h nn (by omega)
theorem R_ones {mm nn : Nat} (hm : mm < 1024) (hn : 11 ≤ nn) : f_X8_ones nn (nI mm) = some (nI (fa_cnt (fun jj => mm.testBit jj) 10)) := by
  unfold f_X8_ones
  have h1 := it2_mono 11 (0 : Int32) (nI mm) _ (on_ok mm hm) nn hn
  rw [show it2 (lb_X8_ones_4 nn) nn (0 : Int32) (nI mm) = _ from h1]
  rfl
theorem cnt_mono {pp : Nat → Bool} {aa bb : Nat} (h : aa < bb) (hp : pp aa = true) : fa_cnt pp aa < fa_cnt pp bb := by
  induction bb with
  | zero => omega
  | succ bb ih =>
    rw [fa_cnt]
    by_cases q : aa = bb
    · subst q
      rw [if_pos hp]
      omega
    · have := ih (by omega)
      split <;> omega
