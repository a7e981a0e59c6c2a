/-! all in: ways as rows of minutes, by the order of those who are asked for -/
def rn (st ii : Nat) : Nat := fa_cnt (fun jj => st.testBit jj) ii
def pk (st kk : Nat) : Nat := fa_first (fun ii => st.testBit ii && (rn st ii == kk)) 10
theorem bit10 {st ii : Nat} (h : st < 1024) (hb : st.testBit ii = true) : ii < 10 := by
  apply Nat.lt_of_not_le
  intro hle
  have h1 : (2 : Nat) ^ 10 ≤ 2 ^ ii := Nat.pow_le_pow_right (by decide) hle
  have h2 : (2 : Nat) ^ 10 = 1024 := by decide
  rw [Nat.testBit_lt_two_pow (show st < 2 ^ ii by omega)] at hb
  exact absurd hb (by decide)
theorem rn_lt {st ii jj : Nat} (h : ii < jj) (hb : st.testBit ii = true) : rn st ii < rn st jj := cnt_mono h hb
theorem pk_rn {st ii : Nat} (h : st < 1024) (hb : st.testBit ii = true) : pk st (rn st ii) = ii := by
  have hi := bit10 h hb
  have hp : (fun jj => st.testBit jj && (rn st jj == rn st ii)) ii = true := by simp [hb]
  have h1 : pk st (rn st ii) ≤ ii := by
    apply Nat.le_of_not_lt
    intro z
    have := fa_first_no (fun jj => st.testBit jj && (rn st jj == rn st ii)) 10 ii z
    exact absurd (hp.symm.trans this) (by decide)
  have h2 := fa_first_yes (fun jj => st.testBit jj && (rn st jj == rn st ii)) 10 (show pk st (rn st ii) < 10 by omega)
  have h3 : st.testBit (pk st (rn st ii)) = true ∧ rn st (pk st (rn st ii)) = rn st ii := by
    have h4 : (st.testBit (pk st (rn st ii)) && (rn st (pk st (rn st ii)) == rn st ii)) = true := h2
    simpa using h4
  rcases Nat.lt_or_eq_of_le h1 with z | z
  · have := rn_lt z h3.1
    omega
  · exact z
theorem pk_ok {st kk : Nat} (h : st < 1024) (hk : kk < rn st 10) : st.testBit (pk st kk) = true ∧ rn st (pk st kk) = kk ∧ pk st kk < 10 := by
  obtain ⟨ii, h1, h2, h3⟩ := cnt_surj 10 kk hk
  have h4 : pk st kk = ii := by rw [← h3]; exact pk_rn h h2
  rw [h4]
  exact ⟨h2, h3, h1⟩
def grp (st : Nat) (ta : Nat → Nat) (mm : Nat) : Nat := setOf (fun ii => st.testBit ii && (ta (rn st ii) == mm)) 10
def lft (st : Nat) (ta : Nat → Nat) (mm : Nat) : Nat := setOf (fun ii => st.testBit ii && decide (mm ≤ ta (rn st ii))) 10
theorem grp_t {st mm ii : Nat} {ta : Nat → Nat} (h : st < 1024) : (grp st ta mm).testBit ii = true ↔ (st.testBit ii = true ∧ ta (rn st ii) = mm) := by
  unfold grp
  rw [setOf_bit]
  constructor
  · intro z
    simp at z
    exact z.2
  · rintro ⟨z1, z2⟩
    have := bit10 h z1
    simp [z1, z2, this]
theorem lft_t {st mm ii : Nat} {ta : Nat → Nat} (h : st < 1024) : (lft st ta mm).testBit ii = true ↔ (st.testBit ii = true ∧ mm ≤ ta (rn st ii)) := by
  unfold lft
  rw [setOf_bit]
  constructor
  · intro z
    simp at z
    exact z.2
  · rintro ⟨z1, z2⟩
    have := bit10 h z1
    simp [z1, z2, this]
theorem eq_bits {aa bb : Nat} (h : ∀ ii, aa.testBit ii = true ↔ bb.testBit ii = true) : aa = bb := by
  apply Nat.eq_of_testBit_eq
  intro ii
  have h1 := h ii
  cases ha : aa.testBit ii <;> cases hb : bb.testBit ii
  · rfl
  · rw [ha, hb] at h1; exact absurd (h1.mpr rfl) (by decide)
  · rw [ha, hb] at h1; exact absurd (h1.mp rfl) (by decide)
  · rfl
theorem andn_t {aa bb ii : Nat} : (andn aa bb).testBit ii = true ↔ (aa.testBit ii = true ∧ ¬ bb.testBit ii = true) := by
  rw [andn_b]
  simp
theorem grp_lt {st mm : Nat} {ta : Nat → Nat} : grp st ta mm < 1024 := setOf_1024 _ (Nat.le_refl _)
theorem lft_lt {st mm : Nat} {ta : Nat → Nat} : lft st ta mm < 1024 := setOf_1024 _ (Nat.le_refl _)
def mgB (how gg left : Nat) : Bool := (andn left gg == 0) || ((how == 1) && decide (gg < 2 ^ fa_first (fun ii => (andn left gg).testBit ii) 10)) || (how == 0)
def bD (dd : WD) (st : Nat) (ta : Nat → Nat) (mm : Nat) : WD := (dN dd, dk dd, dw dd, (fun ii => if st.testBit ii = true ∧ ta (rn st ii) < mm then (ft dd + ta (rn st ii)) % 12 else dp dd ii), dsn dd, dsd dd, dmi dd, dli dd)
def LD (dd : WD) (st : Nat) (ta : Nat → Nat) (mm : Nat) : Nat → Int := ldA (bD dd st ta mm)
def WT (dd : WD) (st : Nat) : Prop := st < 1024 ∧ ∀ ii, st.testBit ii = true → ii < dN dd ∧ dp dd ii = 12
theorem bD_Ok {dd : WD} {st mm : Nat} {ta : Nat → Nat} (hO : DOk dd) : DOk (bD dd st ta mm) := by
  refine ⟨hO.1, fun jj hj => ?_, hO.2.2.1, hO.2.2.2.1, hO.2.2.2.2⟩
  obtain ⟨q1, q2, q3, q4, q5⟩ := hO.2.1 jj hj
  refine ⟨q1, q2, q3, ?_, q5⟩
  show (if st.testBit jj = true ∧ ta (rn st jj) < mm then (ft dd + ta (rn st jj)) % 12 else dp dd jj) ≤ 13
  split
  · omega
  · exact q4
theorem LD_Ok {dd : WD} {st mm : Nat} {ta : Nat → Nat} (hO : DOk dd) : ldOk (LD dd st ta mm) := ldm_Ok (bD_Ok hO) _
theorem nsum_add (ff gg : Nat → Nat) : ∀ kk, nsum (fun jj => ff jj + gg jj) kk = nsum ff kk + nsum gg kk
  | 0 => rfl
  | kk + 1 => by rw [nsum, nsum, nsum, nsum_add ff gg kk]; omega
theorem nsum_z : ∀ kk, nsum (fun _ => 0) kk = 0
  | 0 => rfl
  | kk + 1 => by rw [nsum, nsum_z kk]
theorem LD_step {dd : WD} {st mm cc : Nat} {ta : Nat → Nat} (hW : WT dd st) (hc : cc < 12) : addL (LD dd st ta mm) ((ft dd + mm) % 12) (wsum dd (grp st ta mm) : Int) cc = LD dd st ta (mm + 1) cc := by
  unfold addL LD
  rw [ldA_pf _ hc, ldA_pf _ hc]
  show (if cc = (ft dd + mm) % 12 then (dsd dd cc : Int) + (nsum (pf (bD dd st ta mm) cc) (dN dd) : Int) + (wsum dd (grp st ta mm) : Int) else (dsd dd cc : Int) + (nsum (pf (bD dd st ta mm) cc) (dN dd) : Int)) = (dsd dd cc : Int) + (nsum (pf (bD dd st ta (mm + 1)) cc) (dN dd) : Int)
  have e1 : nsum (pf (bD dd st ta (mm + 1)) cc) (dN dd) = nsum (fun ii => pf (bD dd st ta mm) cc ii + (if cc = (ft dd + mm) % 12 then wf dd (grp st ta mm) ii else 0)) (dN dd) := nsum_cong (dN dd) (fun ii hi => by
    show (if (if st.testBit ii = true ∧ ta (rn st ii) < mm + 1 then (ft dd + ta (rn st ii)) % 12 else dp dd ii) = cc then dw dd ii else 0) = (if (if st.testBit ii = true ∧ ta (rn st ii) < mm then (ft dd + ta (rn st ii)) % 12 else dp dd ii) = cc then dw dd ii else 0) + (if cc = (ft dd + mm) % 12 then (if (grp st ta mm).testBit ii = true then dw dd ii else 0) else 0)
    have hg := grp_t (ii := ii) (mm := mm) (ta := ta) hW.1
    by_cases q1 : st.testBit ii = true
    · have hp := (hW.2 ii q1).2
      rcases Nat.lt_trichotomy (ta (rn st ii)) mm with z | z | z
      · have hn : ¬ (grp st ta mm).testBit ii = true := fun y => by have := (hg.mp y).2; omega
        rw [if_pos (show st.testBit ii = true ∧ ta (rn st ii) < mm + 1 from ⟨q1, by omega⟩), if_pos (show st.testBit ii = true ∧ ta (rn st ii) < mm from ⟨q1, z⟩), if_neg hn, ite_self, Nat.add_zero]
      · rw [if_pos (show st.testBit ii = true ∧ ta (rn st ii) < mm + 1 from ⟨q1, by omega⟩), if_neg (show ¬ (st.testBit ii = true ∧ ta (rn st ii) < mm) from fun y => by omega), if_pos (hg.mpr ⟨q1, z⟩), z, hp, if_neg (show ¬ 12 = cc by omega)]
        by_cases q2 : (ft dd + mm) % 12 = cc
        · rw [if_pos q2, if_pos q2.symm]; omega
        · rw [if_neg q2, if_neg (fun y => q2 y.symm)]
      · have hn : ¬ (grp st ta mm).testBit ii = true := fun y => by have := (hg.mp y).2; omega
        rw [if_neg (show ¬ (st.testBit ii = true ∧ ta (rn st ii) < mm + 1) from fun y => by omega), if_neg (show ¬ (st.testBit ii = true ∧ ta (rn st ii) < mm) from fun y => by omega), if_neg hn, ite_self, Nat.add_zero]
    · have hn : ¬ (grp st ta mm).testBit ii = true := fun y => q1 (hg.mp y).1
      rw [if_neg (show ¬ (st.testBit ii = true ∧ ta (rn st ii) < mm + 1) from fun y => q1 y.1), if_neg (show ¬ (st.testBit ii = true ∧ ta (rn st ii) < mm) from fun y => q1 y.1), if_neg hn, ite_self, Nat.add_zero])
  rw [e1, nsum_add, Int.natCast_add]
  by_cases q : cc = (ft dd + mm) % 12
  · rw [if_pos q]
    have e2 : nsum (fun ii => if cc = (ft dd + mm) % 12 then wf dd (grp st ta mm) ii else 0) (dN dd) = wsum dd (grp st ta mm) := nsum_cong (dN dd) (fun ii _ => by rw [if_pos q])
    rw [e2]
    omega
  · rw [if_neg q]
    have e2 : nsum (fun ii => if cc = (ft dd + mm) % 12 then wf dd (grp st ta mm) ii else 0) (dN dd) = 0 := (nsum_cong (dN dd) (fun ii _ => by rw [if_neg q])).trans (nsum_z _)
    rw [e2]
    omega
theorem LD_0 {dd : WD} {st : Nat} {ta : Nat → Nat} : LD dd st ta 0 = ldA dd := by
  unfold LD bD
  have e : (fun ii => if st.testBit ii = true ∧ ta (rn st ii) < 0 then (ft dd + ta (rn st ii)) % 12 else dp dd ii) = dp dd := by
    funext ii
    rw [if_neg (fun z => by omega)]
  rw [e]
def cd (dd : WD) (st how : Nat) (ta : Nat → Nat) (mm : Nat) : Prop := mgB how (grp st ta mm) (lft st ta mm) = true ∧ fitB dd (whoAt dd ((ft dd + mm) % 12) ||| grp st ta mm) = true ∧ evB (LD dd st ta (mm + 1)) (dli dd) = true
def VW (dd : WD) (st how : Nat) (ta : Nat → Nat) : Prop := (∀ kk, kk < rn st 10 → ta kk < 12) ∧ ∀ mm, mm < 12 → grp st ta mm ≠ 0 → cd dd st how ta mm
/-- two rows that are alike below a minute -/
def alike (st mm : Nat) (ta tb : Nat → Nat) : Prop := ∀ kk, kk < rn st 10 → (ta kk < mm → tb kk = ta kk) ∧ (¬ ta kk < mm → ¬ tb kk < mm)
theorem al_bit {st mm ii : Nat} {ta tb : Nat → Nat} (h : alike st mm ta tb) (hs : st < 1024) (hb : st.testBit ii = true) : (ta (rn st ii) < mm → tb (rn st ii) = ta (rn st ii)) ∧ (¬ ta (rn st ii) < mm → ¬ tb (rn st ii) < mm) := h _ (rn_lt (bit10 hs hb) hb)
theorem al_grp {st mm m2 : Nat} {ta tb : Nat → Nat} (h : alike st mm ta tb) (hs : st < 1024) (hm : m2 < mm) : grp st tb m2 = grp st ta m2 := eq_bits (fun ii => by
  rw [grp_t hs, grp_t hs]
  constructor
  · rintro ⟨z1, z2⟩
    have := al_bit h hs z1
    refine ⟨z1, ?_⟩
    by_cases q : ta (rn st ii) < mm
    · have := this.1 q; omega
    · have := this.2 q; omega
  · rintro ⟨z1, z2⟩
    have := (al_bit h hs z1).1 (by omega)
    exact ⟨z1, by omega⟩)
theorem al_lft {st mm m2 : Nat} {ta tb : Nat → Nat} (h : alike st mm ta tb) (hs : st < 1024) (hm : m2 ≤ mm) : lft st tb m2 = lft st ta m2 := eq_bits (fun ii => by
  rw [lft_t hs, lft_t hs]
  constructor
  · rintro ⟨z1, z2⟩
    have := al_bit h hs z1
    refine ⟨z1, ?_⟩
    by_cases q : ta (rn st ii) < mm
    · have := this.1 q; omega
    · omega
  · rintro ⟨z1, z2⟩
    have := al_bit h hs z1
    refine ⟨z1, ?_⟩
    by_cases q : ta (rn st ii) < mm
    · have := this.1 q; omega
    · have := this.2 q; omega)
theorem al_LD {dd : WD} {st mm m2 : Nat} {ta tb : Nat → Nat} (h : alike st mm ta tb) (hs : st < 1024) (hm : m2 ≤ mm) : LD dd st tb m2 = LD dd st ta m2 := by
  unfold LD bD
  have e : (fun ii => if st.testBit ii = true ∧ tb (rn st ii) < m2 then (ft dd + tb (rn st ii)) % 12 else dp dd ii) = (fun ii => if st.testBit ii = true ∧ ta (rn st ii) < m2 then (ft dd + ta (rn st ii)) % 12 else dp dd ii) := by
    funext ii
    by_cases q1 : st.testBit ii = true
    · have hb := al_bit h hs q1
      by_cases q2 : ta (rn st ii) < mm
      · rw [hb.1 q2]
      · have := hb.2 q2
        rw [if_neg (fun z => by omega), if_neg (fun z => by omega)]
    · rw [if_neg (fun z => q1 z.1), if_neg (fun z => q1 z.1)]
  rw [e]
theorem al_cd {dd : WD} {st how mm m2 : Nat} {ta tb : Nat → Nat} (h : alike st mm ta tb) (hs : st < 1024) (hm : m2 < mm) : cd dd st how tb m2 ↔ cd dd st how ta m2 := by
  unfold cd
  rw [al_grp h hs hm, al_lft h hs (by omega), al_LD h hs (by omega)]
theorem al_VW {dd : WD} {st how : Nat} {ta tb : Nat → Nat} (h : alike st 12 ta tb) (hs : st < 1024) (hv : VW dd st how ta) : VW dd st how tb := by
  refine ⟨fun kk hk => ?_, fun mm hm hg => ?_⟩
  · have := (h kk hk).1 (hv.1 kk hk)
    have := hv.1 kk hk
    omega
  · rw [al_grp h hs hm] at hg
    exact (al_cd h hs hm).mpr (hv.2 mm hm hg)
/-! numbers of four digits -/
def q4n (ff : Nat → Nat) : Nat := ((ff 0 * 16 + ff 1) * 16 + ff 2) * 16 + ff 3
theorem or_dig {aa bb cc ee : Nat} (hb : bb < 16) (he : ee < 16) : (aa * 16 + bb) ||| (cc * 16 + ee) = (aa ||| cc) * 16 + (bb ||| ee) := by
  have h1 : aa * 16 + bb = 2 ^ 4 * aa ||| bb := by rw [← Nat.two_pow_add_eq_or_of_lt (i := 4) hb aa]; omega
  have h2 : cc * 16 + ee = 2 ^ 4 * cc ||| ee := by rw [← Nat.two_pow_add_eq_or_of_lt (i := 4) he cc]; omega
  have h3 : bb ||| ee < 2 ^ 4 := Nat.or_lt_two_pow hb he
  have h4 : 2 ^ 4 * aa ||| 2 ^ 4 * cc = 2 ^ 4 * (aa ||| cc) := by
    have := Nat.shiftLeft_or_distrib (a := aa) (b := cc) (i := 4)
    rw [Nat.shiftLeft_eq, Nat.shiftLeft_eq, Nat.shiftLeft_eq] at this
    rw [Nat.mul_comm, Nat.mul_comm (2 ^ 4) cc, ← this, Nat.mul_comm]
  have h5 : (aa ||| cc) * 16 + (bb ||| ee) = 2 ^ 4 * (aa ||| cc) ||| (bb ||| ee) := by rw [← Nat.two_pow_add_eq_or_of_lt h3]; omega
  rw [h1, h2, h5, ← h4]
  apply Nat.eq_of_testBit_eq
  intro ii
  simp only [Nat.testBit_or]
  cases (2 ^ 4 * aa).testBit ii <;> cases bb.testBit ii <;> cases (2 ^ 4 * cc).testBit ii <;> cases ee.testBit ii <;> rfl
theorem q4n_or {ff gg : Nat → Nat} (hf : ∀ kk, kk < 4 → ff kk < 16) (hg : ∀ kk, kk < 4 → gg kk < 16) : q4n ff ||| q4n gg = q4n (fun kk => ff kk ||| gg kk) := by
  unfold q4n
  rw [or_dig (hf 3 (by omega)) (hg 3 (by omega)), or_dig (hf 2 (by omega)) (hg 2 (by omega)), or_dig (hf 1 (by omega)) (hg 1 (by omega))]
theorem q4n_cong {ff gg : Nat → Nat} (h : ∀ kk, kk < 4 → ff kk = gg kk) : q4n ff = q4n gg := by
  unfold q4n
  rw [h 0 (by omega), h 1 (by omega), h 2 (by omega), h 3 (by omega)]
theorem q4n_lt {ff : Nat → Nat} (hf : ∀ kk, kk < 4 → ff kk < 16) : q4n ff < 65536 := by
  have h0 := hf 0 (by omega)
  have h1 := hf 1 (by omega)
  have h2 := hf 2 (by omega)
  have h3 := hf 3 (by omega)
  unfold q4n
  omega
def dg (st : Nat) (ta : Nat → Nat) (kk : Nat) : Nat := if kk < rn st 10 ∧ ta kk < 12 then ta kk else 0
theorem dg_lt (st : Nat) (ta : Nat → Nat) (kk : Nat) : dg st ta kk < 16 := by
  unfold dg
  split <;> omega
def mxN (ta : Nat → Nat) : Nat → Nat
  | 0 => 0
  | kk + 1 => if ta kk ≤ mxN ta kk then mxN ta kk else ta kk
theorem mx_ge {ta : Nat → Nat} : ∀ kk jj, jj < kk → ta jj ≤ mxN ta kk := by
  intro kk
  induction kk with
  | zero => intro jj hj; omega
  | succ kk ih =>
    intro jj hj
    rw [mxN]
    by_cases q : jj = kk
    · subst q
      split <;> omega
    · have := ih jj (by omega)
      split <;> omega
theorem mx_le {ta : Nat → Nat} {bb : Nat} : ∀ kk, (∀ jj, jj < kk → ta jj ≤ bb) → mxN ta kk ≤ bb := by
  intro kk
  induction kk with
  | zero => intro _; rw [mxN]; omega
  | succ kk ih =>
    intro h
    have h1 := ih (fun jj hj => h jj (by omega))
    have h2 := h kk (by omega)
    rw [mxN]
    split <;> omega
theorem mx_cong {ta tb : Nat → Nat} : ∀ kk, (∀ jj, jj < kk → ta jj = tb jj) → mxN ta kk = mxN tb kk
  | 0, _ => rfl
  | kk + 1, h => by rw [mxN, mxN, mx_cong kk (fun jj hj => h jj (by omega)), h kk (by omega)]
def val (st : Nat) (ta : Nat → Nat) : Nat := mxN ta (rn st 10) * 65536 + q4n (dg st ta)
theorem val_cong {st : Nat} {ta tb : Nat → Nat} (h : ∀ kk, kk < rn st 10 → ta kk = tb kk) : val st ta = val st tb := by
  unfold val
  rw [mx_cong _ h, q4n_cong (ff := dg st ta) (gg := dg st tb) (fun kk _ => by
    unfold dg
    by_cases q : kk < rn st 10
    · rw [h kk q]
    · rw [if_neg (fun z => q z.1), if_neg (fun z => q z.1)])]
