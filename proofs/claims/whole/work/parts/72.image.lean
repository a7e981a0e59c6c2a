/-! image, restore -/
def CWk (k0 : Nat) (tt : MM) (dd : WD) : Prop := tt k0 5 = nI (dN dd) ∧ (∀ ii, ii < dN dd → tt (k0 + 1) ii = nI (dk dd ii)) ∧ (∀ ii, ii < dN dd → tt (k0 + 2) ii = nI (dw dd ii)) ∧ (∀ ii, ii < dN dd → tt (k0 + 3) ii = nI (dp dd ii)) ∧ (∀ ii, ii < dN dd → tt (k0 + 4) ii = nI (dsn dd ii)) ∧ (∀ cc, cc < 12 → tt (k0 + 5) cc = nI (dsd dd cc)) ∧ tt k0 6 = nI (dmi dd) ∧ tt k0 7 = nI (dli dd)
theorem CWk_1 {tt : MM} {dd : WD} : CWk 1 tt dd ↔ CW tt dd := Iff.rfl
theorem cp_step (ss : MM) (ka kb mm : Nat) : ∃ s2, stA ss kb (va_cpy (ss ka) (ss kb) 0 0 mm) = s2 ∧ (∀ kk, kk ≠ kb → s2 kk = ss kk) ∧ (∀ jj, jj < mm → s2 kb jj = ss ka jj) := by
  refine ⟨_, rfl, fun kk hk => stA_ne _ _ hk, fun jj hj => ?_⟩
  rw [stA_same, pk_cpy_in (by omega) (by omega)]
  congr 1
  omega
theorem C_become {tt : MM} {k0 k1 : Nat} {dd : WD} (hd : k0 + 6 ≤ k1 ∨ k1 + 6 ≤ k0) (hC : CWk k1 tt dd) (hN : dN dd ≤ 10) : ∃ t2, f_X6_become tt k0 k1 = some t2 ∧ (∀ kk, kk < k0 ∨ k0 + 5 < kk → t2 kk = tt kk) ∧ CWk k0 t2 dd := by
  obtain ⟨c1, c2, c3, c4, c5, c6, c7, c8⟩ := hC
  have hcp10 : ∀ {B : Type} (aa : Option B), cpk (0 : Int32) (0 : Int32) (10 : Int32) 10 10 aa = aa := by
    intro B aa
    unfold cpk
    rw [if_neg (by decide)]
  have hcp12 : ∀ {B : Type} (aa : Option B), cpk (0 : Int32) (0 : Int32) (12 : Int32) 12 12 aa = aa := by
    intro B aa
    unfold cpk
    rw [if_neg (by decide)]
  have e10 : (10 : Int32).toNatClampNeg = 10 := by decide
  have e12 : (12 : Int32).toNatClampNeg = 12 := by decide
  have e00 : (0 : Int32).toNatClampNeg = 0 := by decide
  obtain ⟨t1, e1, p1, q1⟩ := cp_step tt (k1 + 1) (k0 + 1) 10
  obtain ⟨t2, e2, p2, q2⟩ := cp_step t1 (k1 + 2) (k0 + 2) 10
  obtain ⟨t3, e3, p3, q3⟩ := cp_step t2 (k1 + 3) (k0 + 3) 10
  obtain ⟨t4, e4, p4, q4⟩ := cp_step t3 (k1 + 4) (k0 + 4) 10
  obtain ⟨t5, e5, p5, q5⟩ := cp_step t4 (k1 + 5) (k0 + 5) 12
  have out : ∀ kk, kk < k0 + 1 ∨ k0 + 5 < kk → t5 kk = tt kk := fun kk hk => by
    rw [p5 kk (by omega), p4 kk (by omega), p3 kk (by omega), p2 kk (by omega), p1 kk (by omega)]
  have hk1 : t5 k1 = tt k1 := out k1 (by omega)
  refine ⟨st1 (st1 (st1 t5 k0 5 (t5 k1 5)) k0 6 (t5 k1 6)) k0 7 (t5 k1 7), ?_, fun kk hk => ?_, ?_⟩
  · unfold f_X6_become
    rw [e10, e12, e00, hcp10, nm_eq, e1, hcp10, nm_eq, e2, hcp10, nm_eq, e3, hcp10, nm_eq, e4, hcp12, nm_eq, e5, nm_eq, nm_eq, nm_eq, st1_ne (show k1 ≠ k0 by omega), st1_ne (show k1 ≠ k0 by omega), st1_ne (show k1 ≠ k0 by omega)]
  · rw [st1_ne (by omega), st1_ne (by omega), st1_ne (by omega)]
    exact out kk (by omega)
  · unfold CWk
    rw [st1_ne (show k0 + 1 ≠ k0 by omega), st1_ne (show k0 + 2 ≠ k0 by omega), st1_ne (show k0 + 3 ≠ k0 by omega), st1_ne (show k0 + 4 ≠ k0 by omega), st1_ne (show k0 + 5 ≠ k0 by omega)]
    rw [st1_ne (show k0 + 1 ≠ k0 by omega), st1_ne (show k0 + 2 ≠ k0 by omega), st1_ne (show k0 + 3 ≠ k0 by omega), st1_ne (show k0 + 4 ≠ k0 by omega), st1_ne (show k0 + 5 ≠ k0 by omega)]
    rw [st1_ne (show k0 + 1 ≠ k0 by omega), st1_ne (show k0 + 2 ≠ k0 by omega), st1_ne (show k0 + 3 ≠ k0 by omega), st1_ne (show k0 + 4 ≠ k0 by omega), st1_ne (show k0 + 5 ≠ k0 by omega)]
    refine ⟨?_, fun ii hi => ?_, fun ii hi => ?_, fun ii hi => ?_, fun ii hi => ?_, fun cc hc => ?_, ?_, ?_⟩
    · rw [st1_o (by omega), st1_o (by omega), st1_s, hk1]; exact c1
    · rw [p5 _ (by omega), p4 _ (by omega), p3 _ (by omega), p2 _ (by omega), q1 ii (by omega)]; exact c2 ii hi
    · rw [p5 _ (by omega), p4 _ (by omega), p3 _ (by omega), q2 ii (by omega), p1 _ (by omega)]; exact c3 ii hi
    · rw [p5 _ (by omega), p4 _ (by omega), q3 ii (by omega), p2 _ (by omega), p1 _ (by omega)]; exact c4 ii hi
    · rw [p5 _ (by omega), q4 ii (by omega), p3 _ (by omega), p2 _ (by omega), p1 _ (by omega)]; exact c5 ii hi
    · rw [q5 cc (by omega), p4 _ (by omega), p3 _ (by omega), p2 _ (by omega), p1 _ (by omega)]; exact c6 cc hc
    · rw [st1_o (by omega), st1_s, hk1]; exact c7
    · rw [st1_s, hk1]; exact c8
/-! the reference's row of all that is carried -/
def lcA (kk : Nat) : Nat := if kk < 40 then 40 + kk / 10 else if kk < 52 then 44 else 39
def lcB (kk : Nat) : Nat := if kk < 40 then kk % 10 else if kk < 52 then kk - 40 else if kk = 52 then 4 else if kk = 53 then 6 else if kk = 54 then 7 else 8
theorem lc_inj : ∀ aa, aa < 56 → ∀ bb, bb < 56 → lcA aa = lcA bb → lcB aa = lcB bb → aa = bb := by decide +kernel
theorem sr1_self (uu : SR) (kk jj : Nat) : sr1 uu kk jj (uu.1 kk jj) = uu := sr1_id rfl
theorem sr1_get {uu : SR} {kk jj xx yy : Nat} {vv : Int32} : (sr1 uu kk jj vv).1 xx yy = if xx = kk ∧ yy = jj then vv else uu.1 xx yy := by
  by_cases q : xx = kk
  · subst q
    rw [sr1_at]
    by_cases q2 : yy = jj
    · rw [if_pos q2, if_pos ⟨rfl, q2⟩]
    · rw [if_neg q2, if_neg (fun z => q2 z.2)]
  · rw [sr1_ne q, if_neg (fun z => q z.1)]
theorem R_car40 {aa bb : Nat} (ha : aa < 4) (hb : bb < 10) : ¬ (40 : Int32) ≤ nI (10 * aa + bb) ∧ nI (10 * aa + bb) - nI (10 * aa + bb) / (10 : Int32) * (10 : Int32) = nI bb ∧ nI (10 * aa + bb) / (10 : Int32) = nI aa := by
  refine ⟨nI_ge (b := 40) (by omega) (by omega), ?_, ?_⟩
  · have h := pk_rem (a := 10 * aa + bb) (d := 10) (by omega) (by omega) (by omega)
    rw [show (10 * aa + bb) % 10 = bb by omega] at h
    exact h
  · have h := pk_div (a := 10 * aa + bb) (d := 10) (by omega) (by omega) (by omega)
    rw [show (10 * aa + bb) / 10 = aa by omega] at h
    exact h
theorem R_car0 {uu : SR} {kk : Nat} (hk : kk < 56) : f_X8_carried uu (nI kk) (0 : Int32) (0 : Int32) = some (uu.1 (lcA kk) (lcB kk), uu) := by
  by_cases q : kk < 40
  · obtain ⟨aa, bb, ha, hb, rfl⟩ : ∃ aa bb, aa < 4 ∧ bb < 10 ∧ kk = 10 * aa + bb := ⟨kk / 10, kk % 10, by omega, by omega, by omega⟩
    obtain ⟨z1, z2, z3⟩ := R_car40 ha hb
    have eA : lcA (10 * aa + bb) = 40 + aa := by unfold lcA; rw [if_pos q]; omega
    have eB : lcB (10 * aa + bb) = bb := by unfold lcB; rw [if_pos q]; omega
    rw [eA, eB]
    unfold f_X8_carried
    rw [if_neg z1, z2, z3, nm_eq, nm_eq]
    simp only [f_X8_carried_44, f_X8_carried_72, f_X8_carried_100, f_X8_carried_128, if_pos (rfl : (0 : Int32) = 0), ix_nI hb (show 10 < 2 ^ 31 by omega), nI_clamp (show bb < 2 ^ 31 by omega), nm_eq, sr1_self]
    rcases (show aa = 0 ∨ aa = 1 ∨ aa = 2 ∨ aa = 3 by omega) with rfl | rfl | rfl | rfl <;> rfl
  · by_cases q2 : kk < 52
    · have eA : lcA kk = 44 := by unfold lcA; rw [if_neg q, if_pos q2]
      have eB : lcB kk = kk - 40 := by unfold lcB; rw [if_neg q, if_pos q2]
      rw [eA, eB]
      have e1 : nI kk - (40 : Int32) = nI (kk - 40) := sh_sub (bb := 40) (by omega)
      unfold f_X8_carried
      rw [if_pos (show (40 : Int32) ≤ nI kk from nI_le (a := 40) (by omega) (by omega)), if_neg (show ¬ (52 : Int32) ≤ nI kk from nI_ge (b := 52) q2 (by omega)), if_pos rfl, e1]
      simp only [ix_nI (show kk - 40 < 12 by omega) (show 12 < 2 ^ 31 by omega), nI_clamp (show kk - 40 < 2 ^ 31 by omega), nm_eq, sr1_self]
    · unfold f_X8_carried
      rw [if_pos (show (40 : Int32) ≤ nI kk from nI_le (a := 40) (by omega) (by omega)), if_pos (show (52 : Int32) ≤ nI kk from nI_le (a := 52) (by omega) (by omega))]
      simp only [f_X8_carried_245, f_X8_carried_267, f_X8_carried_289, f_X8_carried_311, if_pos (rfl : (0 : Int32) = 0), nm_eq, sr1_self]
      rcases (show kk = 52 ∨ kk = 53 ∨ kk = 54 ∨ kk = 55 by omega) with rfl | rfl | rfl | rfl <;> rfl
theorem R_car1 {uu : SR} {kk : Nat} (hk : kk < 56) (vv : Int32) : ∃ rr, f_X8_carried uu (nI kk) vv (1 : Int32) = some (rr, sr1 uu (lcA kk) (lcB kk) vv) := by
  by_cases q : kk < 40
  · obtain ⟨aa, bb, ha, hb, rfl⟩ : ∃ aa bb, aa < 4 ∧ bb < 10 ∧ kk = 10 * aa + bb := ⟨kk / 10, kk % 10, by omega, by omega, by omega⟩
    obtain ⟨z1, z2, z3⟩ := R_car40 ha hb
    have eA : lcA (10 * aa + bb) = 40 + aa := by unfold lcA; rw [if_pos q]; omega
    have eB : lcB (10 * aa + bb) = bb := by unfold lcB; rw [if_pos q]; omega
    rw [eA, eB]
    unfold f_X8_carried
    rw [if_neg z1, z2, z3, nm_eq, nm_eq]
    have n0 : ∀ xx : Nat, xx < 4 → ((nI xx = (0 : Int32)) ↔ xx = 0) := fun xx hx => nI_eq (b := 0) (by omega) (by omega)
    have n1 : ∀ xx : Nat, xx < 4 → ((nI xx = (1 : Int32)) ↔ xx = 1) := fun xx hx => nI_eq (b := 1) (by omega) (by omega)
    have n2 : ∀ xx : Nat, xx < 4 → ((nI xx = (2 : Int32)) ↔ xx = 2) := fun xx hx => nI_eq (b := 2) (by omega) (by omega)
    have n3 : ∀ xx : Nat, xx < 4 → ((nI xx = (3 : Int32)) ↔ xx = 3) := fun xx hx => nI_eq (b := 3) (by omega) (by omega)
    simp only [f_X8_carried_44, f_X8_carried_72, f_X8_carried_100, f_X8_carried_128, if_neg n10', ix_nI hb (show 10 < 2 ^ 31 by omega), nI_clamp (show bb < 2 ^ 31 by omega), nm_eq, n0 aa ha, n1 aa ha, n2 aa ha, n3 aa ha]
    rcases (show aa = 0 ∨ aa = 1 ∨ aa = 2 ∨ aa = 3 by omega) with rfl | rfl | rfl | rfl
    · simp only [if_true, if_false, reduceCtorEq, Nat.reduceEqDiff, Nat.add_zero, sr1_self]
      exact ⟨_, rfl⟩
    · simp only [if_true, if_false, reduceCtorEq, Nat.reduceEqDiff, Nat.reduceAdd, sr1_self, sr1_ne (show 41 ≠ 40 by omega), sr1_ne (show 42 ≠ 40 by omega), sr1_ne (show 43 ≠ 40 by omega)]
      exact ⟨_, rfl⟩
    · simp only [if_true, if_false, reduceCtorEq, Nat.reduceEqDiff, Nat.reduceAdd, sr1_self]
      exact ⟨_, rfl⟩
    · simp only [if_true, if_false, reduceCtorEq, Nat.reduceEqDiff, Nat.reduceAdd, sr1_self]
      exact ⟨_, rfl⟩
  · by_cases q2 : kk < 52
    · have eA : lcA kk = 44 := by unfold lcA; rw [if_neg q, if_pos q2]
      have eB : lcB kk = kk - 40 := by unfold lcB; rw [if_neg q, if_pos q2]
      rw [eA, eB]
      have e1 : nI kk - (40 : Int32) = nI (kk - 40) := sh_sub (bb := 40) (by omega)
      unfold f_X8_carried
      rw [if_pos (show (40 : Int32) ≤ nI kk from nI_le (a := 40) (by omega) (by omega)), if_neg (show ¬ (52 : Int32) ≤ nI kk from nI_ge (b := 52) q2 (by omega)), if_neg n10', e1]
      simp only [ix_nI (show kk - 40 < 12 by omega) (show 12 < 2 ^ 31 by omega), nI_clamp (show kk - 40 < 2 ^ 31 by omega), nm_eq]
      exact ⟨_, rfl⟩
    · unfold f_X8_carried
      rw [if_pos (show (40 : Int32) ≤ nI kk from nI_le (a := 40) (by omega) (by omega)), if_pos (show (52 : Int32) ≤ nI kk from nI_le (a := 52) (by omega) (by omega))]
      have n2 : (nI kk = (52 : Int32)) ↔ kk = 52 := nI_eq (b := 52) (by omega) (by omega)
      have n3 : (nI kk = (53 : Int32)) ↔ kk = 53 := nI_eq (b := 53) (by omega) (by omega)
      have n4 : (nI kk = (54 : Int32)) ↔ kk = 54 := nI_eq (b := 54) (by omega) (by omega)
      have n5 : (nI kk = (55 : Int32)) ↔ kk = 55 := nI_eq (b := 55) (by omega) (by omega)
      simp only [f_X8_carried_245, f_X8_carried_267, f_X8_carried_289, f_X8_carried_311, if_neg n10', nm_eq, n2, n3, n4, n5]
      rcases (show kk = 52 ∨ kk = 53 ∨ kk = 54 ∨ kk = 55 by omega) with rfl | rfl | rfl | rfl
      · rw [show lcA 52 = 39 from rfl, show lcB 52 = 4 from rfl]
        simp only [if_true, if_false, Nat.reduceEqDiff, sr1_self]
        exact ⟨_, rfl⟩
      · rw [show lcA 53 = 39 from rfl, show lcB 53 = 6 from rfl]
        simp only [if_true, if_false, Nat.reduceEqDiff, sr1_self]
        exact ⟨_, rfl⟩
      · rw [show lcA 54 = 39 from rfl, show lcB 54 = 7 from rfl]
        simp only [if_true, if_false, Nat.reduceEqDiff, sr1_self]
        exact ⟨_, rfl⟩
      · rw [show lcA 55 = 39 from rfl, show lcB 55 = 8 from rfl]
        simp only [if_true, if_false, Nat.reduceEqDiff, sr1_self]
        exact ⟨_, rfl⟩
def KR (uu : SR) (dd : WD) : Prop := uu.1 53 52 = nI (dN dd) ∧ (∀ ii, ii < dN dd → uu.1 53 ii = nI (dk dd ii)) ∧ (∀ ii, ii < dN dd → uu.1 53 (10 + ii) = nI (dw dd ii)) ∧ (∀ ii, ii < dN dd → uu.1 53 (20 + ii) = nI (dp dd ii)) ∧ (∀ ii, ii < dN dd → uu.1 53 (30 + ii) = if dp dd ii = 12 then -4 else nI (dsn dd ii)) ∧ (∀ cc, cc < 12 → uu.1 53 (40 + cc) = nI (dsd dd cc)) ∧ uu.1 53 54 = nI (dmi dd) ∧ uu.1 53 53 = nI (dli dd) ∧ uu.1 53 55 = nI (dmi dd % 12)
/-- if the row holds what is carried in one state, and the other has this row, both are of one wheel -/
theorem KR_of {uu ww : SR} {dd : WD} (h : RW uu dd) (hN : dN dd ≤ 10) (hh : ∀ kk, kk < 56 → ww.1 53 kk = uu.1 (lcA kk) (lcB kk)) : KR ww dd := by
  obtain ⟨c1, c2, c3, c4, c5, c6, c7, c8, c9⟩ := h
  refine ⟨(hh 52 (by omega)).trans c1, fun ii hi => ?_, fun ii hi => ?_, fun ii hi => ?_, fun ii hi => ?_, fun cc hc => ?_, (hh 54 (by omega)).trans c7, (hh 53 (by omega)).trans c8, (hh 55 (by omega)).trans c9⟩
  · rw [hh ii (by omega), show lcA ii = 40 by unfold lcA; rw [if_pos (by omega)]; omega, show lcB ii = ii by unfold lcB; rw [if_pos (by omega)]; omega]
    exact c2 ii hi
  · rw [hh (10 + ii) (by omega), show lcA (10 + ii) = 41 by unfold lcA; rw [if_pos (by omega)]; omega, show lcB (10 + ii) = ii by unfold lcB; rw [if_pos (by omega)]; omega]
    exact c3 ii hi
  · rw [hh (20 + ii) (by omega), show lcA (20 + ii) = 42 by unfold lcA; rw [if_pos (by omega)]; omega, show lcB (20 + ii) = ii by unfold lcB; rw [if_pos (by omega)]; omega]
    exact c4 ii hi
  · rw [hh (30 + ii) (by omega), show lcA (30 + ii) = 43 by unfold lcA; rw [if_pos (by omega)]; omega, show lcB (30 + ii) = ii by unfold lcB; rw [if_pos (by omega)]; omega]
    exact c5 ii hi
  · rw [hh (40 + cc) (by omega), show lcA (40 + cc) = 44 by unfold lcA; rw [if_neg (by omega), if_pos (by omega)], show lcB (40 + cc) = cc by unfold lcB; rw [if_neg (by omega), if_pos (by omega)]; omega]
    exact c6 cc hc
theorem RW_of {uu ww : SR} {dd : WD} (h : KR uu dd) (hN : dN dd ≤ 10) (hh : ∀ kk, kk < 56 → ww.1 (lcA kk) (lcB kk) = uu.1 53 kk) : RW ww dd := by
  obtain ⟨c1, c2, c3, c4, c5, c6, c7, c8, c9⟩ := h
  refine ⟨(hh 52 (by omega)).trans c1, fun ii hi => ?_, fun ii hi => ?_, fun ii hi => ?_, fun ii hi => ?_, fun cc hc => ?_, (hh 54 (by omega)).trans c7, (hh 53 (by omega)).trans c8, (hh 55 (by omega)).trans c9⟩
  · have e := hh ii (by omega)
    rw [show lcA ii = 40 by unfold lcA; rw [if_pos (by omega)]; omega, show lcB ii = ii by unfold lcB; rw [if_pos (by omega)]; omega] at e
    exact e.trans (c2 ii hi)
  · have e := hh (10 + ii) (by omega)
    rw [show lcA (10 + ii) = 41 by unfold lcA; rw [if_pos (by omega)]; omega, show lcB (10 + ii) = ii by unfold lcB; rw [if_pos (by omega)]; omega] at e
    exact e.trans (c3 ii hi)
  · have e := hh (20 + ii) (by omega)
    rw [show lcA (20 + ii) = 42 by unfold lcA; rw [if_pos (by omega)]; omega, show lcB (20 + ii) = ii by unfold lcB; rw [if_pos (by omega)]; omega] at e
    exact e.trans (c4 ii hi)
  · have e := hh (30 + ii) (by omega)
    rw [show lcA (30 + ii) = 43 by unfold lcA; rw [if_pos (by omega)]; omega, show lcB (30 + ii) = ii by unfold lcB; rw [if_pos (by omega)]; omega] at e
    exact e.trans (c5 ii hi)
  · have e := hh (40 + cc) (by omega)
    rw [show lcA (40 + cc) = 44 by unfold lcA; rw [if_neg (by omega), if_pos (by omega)], show lcB (40 + cc) = cc by unfold lcB; rw [if_neg (by omega), if_pos (by omega)]; omega] at e
    exact e.trans (c6 cc hc)
theorem lcA_ne : ∀ kk, kk < 56 → lcA kk ≠ 53 ∧ lcA kk ≤ 44 ∧ 39 ≤ lcA kk ∧ (lcA kk = 39 → lcB kk = 4 ∨ lcB kk = 6 ∨ lcB kk = 7 ∨ lcB kk = 8) := by decide +kernel
theorem R_image {uu : SR} {nn : Nat} (hn : 60 < nn) : ∃ w2, it2 (lb_X8_image_2 nn) nn (0 : Int32) uu = some w2 ∧ (∀ kk, kk ≠ 53 → w2.1 kk = uu.1 kk) ∧ (∀ kk, kk < 56 → w2.1 53 kk = uu.1 (lcA kk) (lcB kk)) :=
  it2_inv (bb := lb_X8_image_2 nn) (fun kx v1 w2 => v1 = nI kx ∧ (∀ kk, kk ≠ 53 → w2.1 kk = uu.1 kk) ∧ (∀ kk, kk < kx → w2.1 53 kk = uu.1 (lcA kk) (lcB kk))) 56 (fun w2 => (∀ kk, kk ≠ 53 → w2.1 kk = uu.1 kk) ∧ (∀ kk, kk < 56 → w2.1 53 kk = uu.1 (lcA kk) (lcB kk))) (by
    rintro kx v1 w2 hle ⟨rfl, f1, f2⟩
    unfold lb_X8_image_2
    by_cases q : kx < 56
    · rw [if_neg (show ¬ (56 : Int32) ≤ nI kx from nI_ge (b := 56) q (by omega)), R_car0 q, b1_eq, ix_nI q (by omega), nI_clamp (show kx < 2 ^ 31 by omega), nm_eq, nm_eq, nI_1]
      refine Or.inl ⟨q, _, _, rfl, rfl, fun kk hk => by rw [sr1_ne hk]; exact f1 kk hk, fun kk hk => ?_⟩
      rw [sr1_at]
      by_cases q2 : kk = kx
      · rw [if_pos q2, f1 _ (lcA_ne kx q).1, q2]
      · rw [if_neg q2]; exact f2 kk (by omega)
    · have e : kx = 56 := by omega
      subst e
      rw [if_pos (show (56 : Int32) ≤ nI 56 by decide)]
      exact Or.inr ⟨_, rfl, f1, f2⟩) nn 0 uu (by omega) ⟨rfl, fun _ _ => rfl, fun kk hk => absurd hk (by omega)⟩
theorem R_restore {uu : SR} {nn : Nat} (hn : 60 < nn) : ∃ w2, it2 (lb_X8_restore_12 nn) nn (0 : Int32) uu = some w2 ∧ (∀ kk, ¬ (39 ≤ kk ∧ kk ≤ 44) → w2.1 kk = uu.1 kk) ∧ (∀ jj, ¬ (jj = 4 ∨ jj = 6 ∨ jj = 7 ∨ jj = 8) → w2.1 39 jj = uu.1 39 jj) ∧ (∀ kk, kk < 56 → w2.1 (lcA kk) (lcB kk) = uu.1 53 kk) :=
  it2_inv (bb := lb_X8_restore_12 nn) (fun kx v1 w2 => v1 = nI kx ∧ (∀ kk, ¬ (39 ≤ kk ∧ kk ≤ 44) → w2.1 kk = uu.1 kk) ∧ (∀ jj, ¬ (jj = 4 ∨ jj = 6 ∨ jj = 7 ∨ jj = 8) → w2.1 39 jj = uu.1 39 jj) ∧ (∀ kk, kk < kx → w2.1 (lcA kk) (lcB kk) = uu.1 53 kk)) 56 (fun w2 => (∀ kk, ¬ (39 ≤ kk ∧ kk ≤ 44) → w2.1 kk = uu.1 kk) ∧ (∀ jj, ¬ (jj = 4 ∨ jj = 6 ∨ jj = 7 ∨ jj = 8) → w2.1 39 jj = uu.1 39 jj) ∧ (∀ kk, kk < 56 → w2.1 (lcA kk) (lcB kk) = uu.1 53 kk)) (by
    rintro kx v1 w2 hle ⟨rfl, f1, f2, f3⟩
    unfold lb_X8_restore_12
    by_cases q : kx < 56
    · obtain ⟨rr, e1⟩ := R_car1 (uu := w2) q (w2.1 53 kx)
      obtain ⟨z1, z2, z3, z4⟩ := lcA_ne kx q
      rw [if_neg (show ¬ (56 : Int32) ≤ nI kx from nI_ge (b := 56) q (by omega)), ix_nI q (by omega), nI_clamp (show kx < 2 ^ 31 by omega), e1, b1_eq, nm_eq, nI_1]
      refine Or.inl ⟨q, _, _, rfl, rfl, fun kk hk => ?_, fun jj hj => ?_, fun kk hk => ?_⟩
      · rw [sr1_ne (by omega)]; exact f1 kk hk
      · rw [sr1_get, if_neg (fun z => hj (by rw [z.2]; exact z4 z.1.symm))]; exact f2 jj hj
      · rw [sr1_get]
        by_cases q2 : kk = kx
        · rw [if_pos ⟨by rw [q2], by rw [q2]⟩, f1 53 (by omega), q2]
        · rw [if_neg (fun z => q2 (lc_inj kk (by omega) kx q z.1 z.2))]; exact f3 kk (by omega)
    · have e : kx = 56 := by omega
      subst e
      rw [if_pos (show (56 : Int32) ≤ nI 56 by decide)]
      exact Or.inr ⟨_, rfl, f1, f2, f3⟩) nn 0 uu (by omega) ⟨rfl, fun _ _ => rfl, fun _ _ => rfl, fun kk hk => absurd hk (by omega)⟩
def IM (tt : MM) (uu : SR) : Prop := (tt 0 9 = 0 ∧ uu.1 39 29 = 0) ∨ (tt 0 9 = 1 ∧ uu.1 39 29 = 1 ∧ ∃ dd, CWk 7 tt dd ∧ KR uu dd ∧ DOk dd ∧ ∀ cc, cc < 12 → fitB dd (whoAt dd cc) = true)
theorem IM.cong {tt ww : MM} {uu zz : SR} (h : IM tt uu) (h0 : ww 0 = tt 0) (h1 : ∀ kk, 7 ≤ kk → kk ≤ 12 → ww kk = tt kk) (h2 : zz.1 39 29 = uu.1 39 29) (h3 : zz.1 53 = uu.1 53) : IM ww zz := by
  unfold IM CWk KR at h ⊢
  rw [h0, h1 7 (by omega) (by omega), h1 (7 + 1) (by omega) (by omega), h1 (7 + 2) (by omega) (by omega), h1 (7 + 3) (by omega) (by omega), h1 (7 + 4) (by omega) (by omega), h1 (7 + 5) (by omega) (by omega), h2, h3]
  exact h
theorem m_image {tt : MM} {uu : SR} {dd : WD} {nn : Nat} (h : WR tt uu dd) (hn : 60 < nn) : ∃ vv t2 u2, f_X7_image tt = some (vv, t2) ∧ f_X8_image nn uu = some (vv, u2) ∧ IM t2 u2 ∧ (∀ kk, 1 ≤ kk → ¬ (7 ≤ kk ∧ kk ≤ 12) → t2 kk = tt kk) ∧ (∀ kk, kk ≠ 39 → kk ≠ 53 → u2.1 kk = uu.1 kk) ∧ (∀ jj, jj ≠ 29 → u2.1 39 jj = uu.1 39 jj) := by
  obtain ⟨hC, hR, hO, hfit⟩ := h
  obtain ⟨t2, e1, f1, k1⟩ := C_become (k0 := 7) (k1 := 1) (by omega) (CWk_1.mpr hC) hO.1
  obtain ⟨w2, e2, g1, g2⟩ := R_image (uu := uu) hn
  unfold f_X7_image f_X8_image
  rw [e1, e2, b1_eq, b1_eq, nm_eq, nm_eq]
  refine ⟨_, _, _, rfl, rfl, Or.inr ⟨by rw [st1_s], by rw [sr1_s], dd, ?_, ?_, hO, hfit⟩, fun kk h1 h2 => ?_, fun kk h1 h2 => ?_, fun jj hj => ?_⟩
  · unfold CWk at k1 ⊢
    rw [st1_ne (show 7 ≠ 0 by omega), st1_ne (show 7 + 1 ≠ 0 by omega), st1_ne (show 7 + 2 ≠ 0 by omega), st1_ne (show 7 + 3 ≠ 0 by omega), st1_ne (show 7 + 4 ≠ 0 by omega), st1_ne (show 7 + 5 ≠ 0 by omega)]
    exact k1
  · have k2 := KR_of (ww := w2) hR hO.1 g2
    unfold KR at k2 ⊢
    rw [sr1_ne (show 53 ≠ 39 by omega)]
    exact k2
  · rw [st1_ne (by omega)]; exact f1 kk (by omega)
  · rw [sr1_ne h1]; exact g1 kk h2
  · rw [sr1_o hj, g1 39 (by omega)]
theorem m_restore {tt : MM} {uu : SR} {dd : WD} {nn : Nat} (h : WR tt uu dd) (hI : IM tt uu) (hn : 60 < nn) : Good tt uu (f_X7_restore tt) (f_X8_restore nn uu) := by
  unfold f_X7_restore f_X8_restore
  rcases hI with ⟨i1, i2⟩ | ⟨i1, i2, d2, k1, k2, hO2, hf2⟩
  · rw [i1, i2, if_pos rfl, if_pos rfl]
    exact ⟨_, _, _, dd, rfl, rfl, h, CRest.rf, RRest.rf⟩
  · obtain ⟨t2, e1, f1, k3⟩ := C_become (k0 := 1) (k1 := 7) (by omega) k1 hO2.1
    obtain ⟨w2, e2, g1, g2, g3⟩ := R_restore (uu := uu) hn
    rw [i1, i2, if_neg n10', if_neg n10', e1, e2, b1_eq, b1_eq]
    exact ⟨_, _, _, d2, rfl, rfl, ⟨CWk_1.mp k3, RW_of k2 hO2.1 g3, hO2, hf2⟩, ⟨fun kk hk => f1 kk (by unfold CK at hk; omega), by rw [f1 13 (by omega)]⟩, ⟨fun kk hk => g1 kk (by omega), g2 17 (by omega), g2 29 (by omega)⟩⟩
