/-! all in: what is told so far of a way -/
def ND (st mm : Nat) (ro : Nat → Nat) : Prop := ∀ kk, kk < rn st 10 → ro kk < mm ∨ ro kk = 99
def upR (st : Nat) (ro : Nat → Nat) (gg mm : Nat) : Nat → Nat := fun kk => if gg.testBit (pk st kk) = true then mm else ro kk
def PW (dd : WD) (st how mm : Nat) (ro : Nat → Nat) : Prop := ∀ m2, m2 < mm → grp st ro m2 ≠ 0 → cd dd st how ro m2
def SP (dd : WD) (st how mm : Nat) (ro : Nat → Nat) (b1' b2' : Nat) : Prop := b2' ≤ b1' ∧ (∀ ta, alike st mm ro ta → VW dd st how ta → b2' ≤ val st ta) ∧ (b2' = b1' ∨ ∃ ta, alike st mm ro ta ∧ VW dd st how ta ∧ b2' = val st ta)
theorem up_b {st gg mm ii : Nat} {ro : Nat → Nat} (hs : st < 1024) (hb : st.testBit ii = true) : upR st ro gg mm (rn st ii) = if gg.testBit ii = true then mm else ro (rn st ii) := by
  unfold upR
  rw [pk_rn hs hb]
theorem lft_sb {st mm : Nat} {ta : Nat → Nat} (hs : st < 1024) : sb (lft st ta mm) st := fun _ h => ((lft_t hs).mp h).1
theorem grp_sb {st mm : Nat} {ta : Nat → Nat} (hs : st < 1024) : sb (grp st ta mm) (lft st ta mm) := fun ii h => by
  have := (grp_t hs).mp h
  exact (lft_t hs).mpr ⟨this.1, by omega⟩
theorem nz_bit {aa : Nat} (h : aa ≠ 0) : ∃ ii, aa.testBit ii = true := by
  apply Classical.byContradiction
  intro z
  apply h
  apply Nat.eq_of_testBit_eq
  intro ii
  rw [Nat.zero_testBit]
  cases hb : aa.testBit ii
  · rfl
  · exact absurd ⟨ii, hb⟩ z
theorem bit_nz {aa ii : Nat} (h : aa.testBit ii = true) : aa ≠ 0 := fun z => by
  rw [z, Nat.zero_testBit] at h
  exact absurd h (by decide)
theorem al_up {st gg mm : Nat} {ro : Nat → Nat} (hs : st < 1024) (hg : sb gg (lft st ro mm)) : alike st mm ro (upR st ro gg mm) := by
  intro kk hk
  obtain ⟨h1, h2, h3⟩ := pk_ok hs hk
  unfold upR
  refine ⟨fun z => ?_, fun z => ?_⟩
  · rw [if_neg (fun y => ?_)]
    have := ((lft_t hs).mp (hg _ y)).2
    rw [h2] at this
    omega
  · split
    · omega
    · exact z
theorem grp_up {st gg mm : Nat} {ro : Nat → Nat} (hs : st < 1024) (hg : sb gg (lft st ro mm)) (hN : ND st mm ro) (hm : mm ≤ 12) : grp st (upR st ro gg mm) mm = gg := eq_bits (fun ii => by
  rw [grp_t hs]
  constructor
  · rintro ⟨z1, z2⟩
    rw [up_b hs z1] at z2
    by_cases q : gg.testBit ii = true
    · exact q
    · rw [if_neg q] at z2
      have := hN _ (rn_lt (bit10 hs z1) z1)
      omega
  · intro z
    have z1 := ((lft_t hs).mp (hg _ z)).1
    exact ⟨z1, by rw [up_b hs z1, if_pos z]⟩)
theorem lft_up {st gg mm : Nat} {ro : Nat → Nat} (hs : st < 1024) (hN : ND st mm ro) (hm : mm ≤ 12) : lft st (upR st ro gg mm) (mm + 1) = andn (lft st ro mm) gg := eq_bits (fun ii => by
  rw [lft_t hs, andn_t, lft_t hs]
  constructor
  · rintro ⟨z1, z2⟩
    rw [up_b hs z1] at z2
    by_cases q : gg.testBit ii = true
    · rw [if_pos q] at z2; omega
    · rw [if_neg q] at z2
      exact ⟨⟨z1, by omega⟩, q⟩
  · rintro ⟨⟨z1, z2⟩, z3⟩
    refine ⟨z1, ?_⟩
    rw [up_b hs z1, if_neg z3]
    have := hN _ (rn_lt (bit10 hs z1) z1)
    omega)
theorem ND_up {st gg mm : Nat} {ro : Nat → Nat} (hN : ND st mm ro) : ND st (mm + 1) (upR st ro gg mm) := by
  intro kk hk
  have := hN kk hk
  unfold upR
  split <;> omega
theorem al_dn {st gg mm : Nat} {ro ta : Nat → Nat} (hs : st < 1024) (hg : sb gg (lft st ro mm)) (h : alike st (mm + 1) (upR st ro gg mm) ta) : alike st mm ro ta := by
  intro kk hk
  obtain ⟨h1, h2⟩ := h kk hk
  obtain ⟨h3, h4⟩ := al_up hs hg kk hk
  refine ⟨fun z => ?_, fun z => ?_⟩
  · have e := h3 z
    rw [e] at h1
    exact h1 (by omega)
  · have e := h4 z
    by_cases q : upR st ro gg mm kk < mm + 1
    · have := h1 q; omega
    · have := h2 q; omega
theorem al_in {st gg mm : Nat} {ro ta : Nat → Nat} (hs : st < 1024) (hN : ND st mm ro) (hm : mm ≤ 12) (h : alike st mm ro ta) (he : grp st ta mm = gg) : alike st (mm + 1) (upR st ro gg mm) ta := by
  intro kk hk
  obtain ⟨h1, h2, h3⟩ := pk_ok hs hk
  obtain ⟨h4, h5⟩ := h kk hk
  have hn := hN kk hk
  unfold upR
  by_cases q : gg.testBit (pk st kk) = true
  · rw [if_pos q]
    rw [← he] at q
    have := ((grp_t hs).mp q).2
    rw [h2] at this
    exact ⟨fun _ => this, fun z => by omega⟩
  · rw [if_neg q]
    refine ⟨fun z => h4 (by omega), fun z => ?_⟩
    have h6 := h5 (by omega)
    intro y
    apply q
    rw [← he]
    exact (grp_t hs).mpr ⟨h1, by rw [h2]; omega⟩
theorem nob_l {st mm : Nat} {ro : Nat → Nat} (hs : st < 1024) (hN : ND st mm ro) (hm : mm ≤ 12) : lft st ro (mm + 1) = lft st ro mm := eq_bits (fun ii => by
  rw [lft_t hs, lft_t hs]
  constructor
  · rintro ⟨z1, z2⟩
    exact ⟨z1, by omega⟩
  · rintro ⟨z1, z2⟩
    have := hN _ (rn_lt (bit10 hs z1) z1)
    exact ⟨z1, by omega⟩)
theorem nob_g {st mm : Nat} {ro : Nat → Nat} (hs : st < 1024) (hN : ND st mm ro) (hm : mm ≤ 12) : grp st ro mm = 0 := by
  apply Classical.byContradiction
  intro z
  obtain ⟨ii, hb⟩ := nz_bit z
  obtain ⟨z1, z2⟩ := (grp_t hs).mp hb
  have := hN _ (rn_lt (bit10 hs z1) z1)
  omega
theorem nob_LD {dd : WD} {st mm : Nat} {ro : Nat → Nat} (hs : st < 1024) (hN : ND st mm ro) (hm : mm ≤ 12) : LD dd st ro (mm + 1) = LD dd st ro mm := by
  unfold LD bD
  have e : (fun ii => if st.testBit ii = true ∧ ro (rn st ii) < mm + 1 then (ft dd + ro (rn st ii)) % 12 else dp dd ii) = (fun ii => if st.testBit ii = true ∧ ro (rn st ii) < mm then (ft dd + ro (rn st ii)) % 12 else dp dd ii) := by
    funext ii
    by_cases q1 : st.testBit ii = true
    · have := hN _ (rn_lt (bit10 hs q1) q1)
      by_cases q2 : ro (rn st ii) < mm
      · rw [if_pos ⟨q1, by omega⟩, if_pos ⟨q1, q2⟩]
      · rw [if_neg (fun z => by omega), if_neg (fun z => by omega)]
    · rw [if_neg (fun z => q1 z.1), if_neg (fun z => q1 z.1)]
  rw [e]
theorem nob_in {st mm : Nat} {ro ta : Nat → Nat} (hs : st < 1024) (hN : ND st mm ro) (hm : mm ≤ 12) (h : alike st mm ro ta) (he : grp st ta mm = 0) : alike st (mm + 1) ro ta := by
  intro kk hk
  obtain ⟨h1, h2, h3⟩ := pk_ok hs hk
  obtain ⟨h4, h5⟩ := h kk hk
  have hn := hN kk hk
  refine ⟨fun z => h4 (by omega), fun z => ?_⟩
  have h6 := h5 (by omega)
  intro y
  exact bit_nz ((grp_t (mm := mm) (ta := ta) hs).mpr ⟨h1, by rw [h2]; omega⟩) he
theorem nob_dn {st mm : Nat} {ro ta : Nat → Nat} (h : alike st (mm + 1) ro ta) : alike st mm ro ta := by
  intro kk hk
  obtain ⟨h1, h2⟩ := h kk hk
  refine ⟨fun z => h1 (by omega), fun z => ?_⟩
  by_cases q : ro kk < mm + 1
  · have := h1 q; omega
  · have := h2 q; omega
theorem nob_ND {st mm : Nat} {ro : Nat → Nat} (hN : ND st mm ro) : ND st (mm + 1) ro := fun kk hk => by
  have := hN kk hk
  omega
theorem dg_up {st gg mm : Nat} {ro : Nat → Nat} (hs : st < 1024) (hg : sb gg (lft st ro mm)) (hN : ND st mm ro) (hm : mm < 12) : q4n (dg st ro) ||| q4n (pD st gg mm 10) = q4n (dg st (upR st ro gg mm)) := by
  rw [q4n_or (fun kk _ => dg_lt st ro kk) (fun kk _ => pD_lt hm)]
  refine q4n_cong (fun kk hk => ?_)
  unfold dg pD upR
  by_cases q : kk < rn st 10
  · obtain ⟨h1, h2, h3⟩ := pk_ok hs q
    have hn := hN kk q
    by_cases q2 : gg.testBit (pk st kk) = true
    · have := ((lft_t hs).mp (hg _ q2)).2
      rw [h2] at this
      rw [if_neg (fun z => by omega), if_pos ⟨q, q2⟩, if_pos q2, if_pos ⟨q, hm⟩]
      simp
    · rw [if_neg (show ¬ (kk < rn st 10 ∧ gg.testBit (pk st kk) = true) from fun z => q2 z.2), if_neg q2]
      simp
  · rw [if_neg (fun z => q z.1), if_neg (fun z => q z.1), if_neg (fun z => q z.1)]
    rfl
/-- all who are left get in now -/
theorem up_all {st mm : Nat} {ro : Nat → Nat} (hs : st < 1024) (hN : ND st mm ro) (hm : mm ≤ 12) : ∀ kk, kk < rn st 10 → upR st ro (lft st ro mm) mm kk ≤ mm := by
  intro kk hk
  obtain ⟨h1, h2, h3⟩ := pk_ok hs hk
  have hn := hN kk hk
  unfold upR
  by_cases q : (lft st ro mm).testBit (pk st kk) = true
  · rw [if_pos q]; omega
  · rw [if_neg q]
    rcases hn with z | z
    · omega
    · exact absurd ((lft_t hs).mpr ⟨h1, by rw [h2]; omega⟩) q
theorem mx_up {st mm : Nat} {ro : Nat → Nat} (hs : st < 1024) (hN : ND st mm ro) (hm : mm ≤ 12) (hl : lft st ro mm ≠ 0) : mxN (upR st ro (lft st ro mm) mm) (rn st 10) = mm := by
  have h1 := mx_le (rn st 10) (up_all hs hN hm)
  obtain ⟨ii, hb⟩ := nz_bit hl
  have hst := lft_sb hs ii hb
  have h2 := mx_ge (ta := upR st ro (lft st ro mm) mm) (rn st 10) (rn st ii) (rn_lt (bit10 hs hst) hst)
  rw [up_b hs hst, if_pos hb] at h2
  omega
theorem sb_ne {aa bb : Nat} (h : sb aa bb) (hn : aa ≠ bb) : andn bb aa ≠ 0 := fun z => by
  apply hn
  apply eq_bits
  intro ii
  refine ⟨h ii, fun y => ?_⟩
  apply Classical.byContradiction
  intro x
  exact bit_nz (andn_t.mpr ⟨y, x⟩) z
theorem VW_end {dd : WD} {st how mm : Nat} {ro : Nat → Nat} (hs : st < 1024) (hN : ND st mm ro) (hm : mm < 12) (hP : PW dd st how mm ro) (hc : cd dd st how (upR st ro (lft st ro mm) mm) mm) : VW dd st how (upR st ro (lft st ro mm) mm) := by
  have hall := up_all hs hN (show mm ≤ 12 by omega)
  have hal := al_up (gg := lft st ro mm) hs sb.rf
  refine ⟨fun kk hk => by have := hall kk hk; omega, fun m2 h2 hg => ?_⟩
  rcases Nat.lt_trichotomy m2 mm with z | z | z
  · rw [al_grp hal hs z] at hg
    exact (al_cd hal hs z).mpr (hP m2 z hg)
  · rw [z]; exact hc
  · exfalso
    obtain ⟨ii, hb⟩ := nz_bit hg
    obtain ⟨z1, z2⟩ := (grp_t hs).mp hb
    have := hall _ (rn_lt (bit10 hs z1) z1)
    omega
theorem PW_up {dd : WD} {st how gg mm : Nat} {ro : Nat → Nat} (hs : st < 1024) (hg : sb gg (lft st ro mm)) (hP : PW dd st how mm ro) (hc : cd dd st how (upR st ro gg mm) mm) : PW dd st how (mm + 1) (upR st ro gg mm) := by
  intro m2 h2 hgr
  by_cases z : m2 = mm
  · rw [z]; exact hc
  · have hal := al_up hs hg
    rw [al_grp hal hs (by omega)] at hgr
    exact (al_cd hal hs (by omega)).mpr (hP m2 (by omega) hgr)
theorem al_val {st mm : Nat} {ro ta : Nat → Nat} (h : alike st (mm + 1) ro ta) (hall : ∀ kk, kk < rn st 10 → ro kk ≤ mm) : val st ta = val st ro := val_cong (fun kk hk => (h kk hk).1 (by have := hall kk hk; omega))
theorem val_ge {st mm : Nat} {ro ta : Nat → Nat} (hs : st < 1024) (hl : lft st ro mm ≠ 0) (h : alike st mm ro ta) : mm * 65536 ≤ val st ta := by
  obtain ⟨ii, hb⟩ := nz_bit hl
  obtain ⟨z1, z2⟩ := (lft_t hs).mp hb
  have h1 := (al_bit h hs z1).2 (by omega)
  have h2 := mx_ge (ta := ta) (rn st 10) (rn st ii) (rn_lt (bit10 hs z1) z1)
  unfold val
  have h3 : mm ≤ mxN ta (rn st 10) := by omega
  have h4 : mm * 65536 ≤ mxN ta (rn st 10) * 65536 := Nat.mul_le_mul_right _ h3
  exact Nat.le_trans h4 (Nat.le_add_right _ _)
