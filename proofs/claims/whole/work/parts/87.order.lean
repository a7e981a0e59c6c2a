/-! all in: in order, together -/
def rel (how aa bb : Nat) : Prop := how = 0 ∨ (how = 1 ∧ aa ≤ bb) ∨ (how = 2 ∧ aa = bb)
def arP (how : Nat) (ta : Nat → Nat) (nn : Nat) : Prop := ∀ kk, 1 ≤ kk → kk < nn → rel how (ta (kk - 1)) (ta kk)
theorem arP_up {how nn : Nat} {ta : Nat → Nat} (h : arP how ta nn) : ∀ bb aa, aa < bb → bb < nn → rel how (ta aa) (ta bb) := by
  intro bb
  induction bb with
  | zero => intro aa h1; omega
  | succ bb ih =>
    intro aa h1 h2
    have h3 := h (bb + 1) (by omega) h2
    rw [show bb + 1 - 1 = bb by omega] at h3
    by_cases q : aa = bb
    · rw [q]; exact h3
    · have h4 := ih aa (by omega) (by omega)
      unfold rel at h3 h4 ⊢
      omega
def CB (dd : WD) (st : Nat) (ta : Nat → Nat) (nn : Nat) : Prop := ∀ mm, mm < nn → grp st ta mm ≠ 0 → fitB dd (whoAt dd ((ft dd + mm) % 12) ||| grp st ta mm) = true ∧ evB (LD dd st ta (mm + 1)) (dli dd) = true
theorem rn_inj {st ii jj : Nat} (hi : st.testBit ii = true) (hj : st.testBit jj = true) (h : rn st ii < rn st jj) : ii < jj := by
  apply Nat.lt_of_not_le
  intro z
  rcases Nat.lt_or_eq_of_le z with y | y
  · have := rn_lt y hj
    omega
  · rw [y] at h
    omega
theorem first_le {bb ii : Nat} (hb : bb.testBit ii = true) : fa_first (fun jj => bb.testBit jj) 10 ≤ ii := by
  apply Nat.le_of_not_lt
  intro z
  have := fa_first_no (fun jj => bb.testBit jj) 10 ii z
  have h2 : bb.testBit ii = false := this
  rw [hb] at h2
  exact absurd h2 (by decide)
theorem big_bit {bb ii : Nat} (hb : bb.testBit ii = true) : 2 ^ ii ≤ bb := by
  apply Nat.le_of_not_lt
  intro z
  rw [Nat.testBit_lt_two_pow z] at hb
  exact absurd hb (by decide)
theorem small_bits {bb nn : Nat} (h : ∀ ii, bb.testBit ii = true → ii < nn) : bb < 2 ^ nn := by
  apply Nat.lt_of_not_le
  intro z
  obtain ⟨ii, h1, h2⟩ := Nat.exists_ge_and_testBit_of_ge_two_pow z
  have := h ii h2
  omega
theorem mg_iff {st how : Nat} {ta : Nat → Nat} (hs : st < 1024) (hh : how ≤ 2) (h12 : ∀ kk, kk < rn st 10 → ta kk < 12) : (∀ mm, mm < 12 → grp st ta mm ≠ 0 → mgB how (grp st ta mm) (lft st ta mm) = true) ↔ arP how ta (rn st 10) := by
  constructor
  · intro h kk k1 k2
    obtain ⟨a1, a2, a3⟩ := pk_ok hs (show kk - 1 < rn st 10 by omega)
    obtain ⟨d1, d2, d3⟩ := pk_ok hs k2
    have hij : pk st (kk - 1) < pk st kk := rn_inj a1 d1 (by omega)
    have t1 := h12 (kk - 1) (by omega)
    have t2 := h12 kk k2
    unfold rel
    rcases (show how = 0 ∨ how = 1 ∨ how = 2 by omega) with rfl | rfl | rfl
    · exact Or.inl rfl
    · right
      left
      refine ⟨rfl, ?_⟩
      apply Nat.le_of_not_lt
      intro z
      have hj : (grp st ta (ta kk)).testBit (pk st kk) = true := (grp_t hs).mpr ⟨d1, by rw [d2]⟩
      have hi : (andn (lft st ta (ta kk)) (grp st ta (ta kk))).testBit (pk st (kk - 1)) = true := andn_t.mpr ⟨(lft_t hs).mpr ⟨a1, by rw [a2]; omega⟩, fun y => by have := ((grp_t hs).mp y).2; rw [a2] at this; omega⟩
      have hm := h (ta kk) t2 (bit_nz hj)
      unfold mgB at hm
      rw [beq_false_of_ne (bit_nz hi)] at hm
      have hm2 : grp st ta (ta kk) < 2 ^ fa_first (fun ii => (andn (lft st ta (ta kk)) (grp st ta (ta kk))).testBit ii) 10 := by simpa using hm
      have hf := first_le hi
      have h5 := big_bit hj
      have h6 : 2 ^ fa_first (fun ii => (andn (lft st ta (ta kk)) (grp st ta (ta kk))).testBit ii) 10 ≤ 2 ^ pk st kk := Nat.pow_le_pow_right (by decide) (by omega)
      omega
    · right
      right
      refine ⟨rfl, ?_⟩
      have no : ∀ mm ii jj, mm < 12 → (grp st ta mm).testBit ii = true → (andn (lft st ta mm) (grp st ta mm)).testBit jj = true → False := by
        intro mm ii jj hm hi hj
        have hm := h mm hm (bit_nz hi)
        unfold mgB at hm
        rw [beq_false_of_ne (bit_nz hj)] at hm
        simp at hm
      rcases Nat.lt_trichotomy (ta (kk - 1)) (ta kk) with z | z | z
      · exact (no (ta (kk - 1)) (pk st (kk - 1)) (pk st kk) t1 ((grp_t hs).mpr ⟨a1, by rw [a2]⟩) (andn_t.mpr ⟨(lft_t hs).mpr ⟨d1, by rw [d2]; omega⟩, fun y => by have := ((grp_t hs).mp y).2; rw [d2] at this; omega⟩)).elim
      · exact z
      · exact (no (ta kk) (pk st kk) (pk st (kk - 1)) t2 ((grp_t hs).mpr ⟨d1, by rw [d2]⟩) (andn_t.mpr ⟨(lft_t hs).mpr ⟨a1, by rw [a2]; omega⟩, fun y => by have := ((grp_t hs).mp y).2; rw [a2] at this; omega⟩)).elim
  · intro h mm hm hg
    unfold mgB
    by_cases q : andn (lft st ta mm) (grp st ta mm) = 0
    · rw [q]
      rfl
    · rw [beq_false_of_ne q, Bool.false_or]
      obtain ⟨i0, hi0⟩ := nz_bit hg
      obtain ⟨g1, g2⟩ := (grp_t hs).mp hi0
      rcases (show how = 0 ∨ how = 1 ∨ how = 2 by omega) with rfl | rfl | rfl
      · simp
      · have hlt : grp st ta mm < 2 ^ fa_first (fun ii => (andn (lft st ta mm) (grp st ta mm)).testBit ii) 10 := by
          apply small_bits
          intro ii hi
          obtain ⟨z1, z2⟩ := (grp_t hs).mp hi
          obtain ⟨j0, hj0⟩ := nz_bit q
          have hj1 := ((lft_t hs).mp (andn_t.mp hj0).1).1
          have hfl := first_le hj0
          have hj10 := bit10 hs hj1
          have hfy : (andn (lft st ta mm) (grp st ta mm)).testBit (fa_first (fun ii => (andn (lft st ta mm) (grp st ta mm)).testBit ii) 10) = true := fa_first_yes (fun ii => (andn (lft st ta mm) (grp st ta mm)).testBit ii) 10 (by omega)
          generalize fa_first (fun ii => (andn (lft st ta mm) (grp st ta mm)).testBit ii) 10 = ff at hfy
          obtain ⟨y1, y2⟩ := andn_t.mp hfy
          obtain ⟨y3, y4⟩ := (lft_t hs).mp y1
          have y5 : ta (rn st ff) ≠ mm := fun e => y2 ((grp_t hs).mpr ⟨y3, e⟩)
          apply Nat.lt_of_not_le
          intro z
          rcases Nat.lt_or_eq_of_le z with x | x
          · have h7 := arP_up h (rn st ii) (rn st ff) (rn_lt x y3) (rn_lt (bit10 hs z1) z1)
            unfold rel at h7
            omega
          · rw [x] at y5
            exact y5 z2
        rw [decide_eq_true hlt]
        rfl
      · exfalso
        obtain ⟨j0, hj0⟩ := nz_bit q
        obtain ⟨y1, y2⟩ := andn_t.mp hj0
        obtain ⟨y3, y4⟩ := (lft_t hs).mp y1
        have y5 : ta (rn st j0) ≠ mm := fun e => y2 ((grp_t hs).mpr ⟨y3, e⟩)
        have r1 := rn_lt (bit10 hs g1) g1
        have r2 := rn_lt (bit10 hs y3) y3
        rcases Nat.lt_trichotomy (rn st i0) (rn st j0) with z | z | z
        · have h7 := arP_up h _ _ z r2
          unfold rel at h7
          omega
        · rw [z] at g2
          exact y5 g2
        · have h7 := arP_up h _ _ z r1
          unfold rel at h7
          omega
theorem VW_iff {dd : WD} {st how : Nat} {ta : Nat → Nat} (hs : st < 1024) (hh : how ≤ 2) (h12 : ∀ kk, kk < rn st 10 → ta kk < 12) : VW dd st how ta ↔ (arP how ta (rn st 10) ∧ CB dd st ta 12) := by
  rw [← mg_iff hs hh h12]
  constructor
  · intro h
    exact ⟨fun mm hm hg => (h.2 mm hm hg).1, fun mm hm hg => (h.2 mm hm hg).2⟩
  · intro h
    exact ⟨h12, fun mm hm hg => ⟨h.1 mm hm hg, h.2 mm hm hg⟩⟩
/-! rows of minutes in their order -/
def ix12 (ta : Nat → Nat) : Nat → Nat
  | 0 => 0
  | kk + 1 => ix12 ta kk * 12 + ta kk
theorem ix12_lt {ta : Nat → Nat} : ∀ kk, (∀ jj, jj < kk → ta jj < 12) → ix12 ta kk < 12 ^ kk
  | 0, _ => by simp [ix12]
  | kk + 1, h => by
    have h1 := ix12_lt kk (fun jj hj => h jj (by omega))
    have h2 := h kk (by omega)
    rw [ix12, Nat.pow_succ]
    omega
theorem ix12_inj {ta tb : Nat → Nat} : ∀ kk, (∀ jj, jj < kk → ta jj < 12) → (∀ jj, jj < kk → tb jj < 12) → ix12 ta kk = ix12 tb kk → ∀ jj, jj < kk → ta jj = tb jj
  | 0, _, _, _ => fun jj hj => by omega
  | kk + 1, h1, h2, h3 => fun jj hj => by
    rw [ix12, ix12] at h3
    have g1 := h1 kk (by omega)
    have g2 := h2 kk (by omega)
    by_cases q : jj = kk
    · rw [q]; omega
    · exact ix12_inj kk (fun xx hx => h1 xx (by omega)) (fun xx hx => h2 xx (by omega)) (by omega) jj (by omega)
theorem ix12_cong {ta tb : Nat → Nat} : ∀ kk, (∀ jj, jj < kk → ta jj = tb jj) → ix12 ta kk = ix12 tb kk
  | 0, _ => rfl
  | kk + 1, h => by rw [ix12, ix12, ix12_cong kk (fun jj hj => h jj (by omega)), h kk (by omega)]
/-- the first in order is the least number -/
theorem ix_le {st : Nat} {ta tb : Nat → Nat} (h4 : rn st 10 ≤ 4) (ha : ∀ kk, kk < rn st 10 → ta kk < 12) (hb : ∀ kk, kk < rn st 10 → tb kk < 12) (h : ix12 ta (rn st 10) ≤ ix12 tb (rn st 10)) : q4n (dg st ta) ≤ q4n (dg st tb) := by
  have ea : ∀ kk, dg st ta kk = if kk < rn st 10 then ta kk else 0 := fun kk => by
    unfold dg
    by_cases q : kk < rn st 10
    · rw [if_pos ⟨q, ha kk q⟩, if_pos q]
    · rw [if_neg (fun z => q z.1), if_neg q]
  have eb : ∀ kk, dg st tb kk = if kk < rn st 10 then tb kk else 0 := fun kk => by
    unfold dg
    by_cases q : kk < rn st 10
    · rw [if_pos ⟨q, hb kk q⟩, if_pos q]
    · rw [if_neg (fun z => q z.1), if_neg q]
  unfold q4n
  rw [ea 0, ea 1, ea 2, ea 3, eb 0, eb 1, eb 2, eb 3]
  generalize rn st 10 = ww at h4 ha hb h ⊢
  rcases (show ww = 0 ∨ ww = 1 ∨ ww = 2 ∨ ww = 3 ∨ ww = 4 by omega) with rfl | rfl | rfl | rfl | rfl
  · simp
  · have a0 := ha 0 (by omega)
    have b0 := hb 0 (by omega)
    simp [ix12] at h
    simp
    omega
  · have a0 := ha 0 (by omega)
    have b0 := hb 0 (by omega)
    have a1 := ha 1 (by omega)
    have b1' := hb 1 (by omega)
    simp [ix12] at h
    simp
    omega
  · have a0 := ha 0 (by omega)
    have b0 := hb 0 (by omega)
    have a1 := ha 1 (by omega)
    have b1' := hb 1 (by omega)
    have a2 := ha 2 (by omega)
    have b2' := hb 2 (by omega)
    simp [ix12] at h
    simp
    omega
  · have a0 := ha 0 (by omega)
    have b0 := hb 0 (by omega)
    have a1 := ha 1 (by omega)
    have b1' := hb 1 (by omega)
    have a2 := ha 2 (by omega)
    have b2' := hb 2 (by omega)
    have a3 := ha 3 (by omega)
    have b3' := hb 3 (by omega)
    simp [ix12] at h
    simp
    omega
