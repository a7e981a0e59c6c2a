/-! all in: the class's search -/
def FI (tt ww : MM) : Prop := (∀ jj, jj ≠ 17 → jj ≠ 18 → ww jj = tt jj) ∧ (∀ jj, jj ≠ 4 → ww 17 jj = tt 17 jj)
theorem FI.rf {tt : MM} : FI tt tt := ⟨fun _ _ _ => rfl, fun _ _ => rfl⟩
theorem FI.tr {tt vv ww : MM} (h1 : FI tt vv) (h2 : FI vv ww) : FI tt ww := ⟨fun jj a1 a2 => (h2.1 jj a1 a2).trans (h1.1 jj a1 a2), fun jj a1 => (h2.2 jj a1).trans (h1.2 jj a1)⟩
theorem FI.s18 {tt ww : MM} {gg : Nat → Int32} (h : FI tt ww) : FI tt (stA ww 18 gg) := ⟨fun jj a1 a2 => by rw [stA_ne _ _ a2]; exact h.1 jj a1 a2, fun jj a1 => by rw [stA_ne _ _ (by omega)]; exact h.2 jj a1⟩
theorem FI.s174 {tt ww : MM} {vv : Int32} (h : FI tt ww) : FI tt (st1 ww 17 4 vv) := ⟨fun jj a1 a2 => by rw [st1_ne a1]; exact h.1 jj a1 a2, fun jj a1 => by rw [st1_o a1]; exact h.2 jj a1⟩
theorem CW.fi {tt ww : MM} {dd : WD} (h : CW tt dd) (hf : FI tt ww) : CW ww dd := by
  unfold CW at h ⊢
  rw [hf.1 1 (by omega) (by omega), hf.1 2 (by omega) (by omega), hf.1 3 (by omega) (by omega), hf.1 4 (by omega) (by omega), hf.1 5 (by omega) (by omega), hf.1 6 (by omega) (by omega)]
  exact h
def GO (dd : WD) (st how nn : Nat) (rec : MM → Int32 → Int32 → Int32 → Option MM) (mm : Nat) : Prop := ∀ (ro : Nat → Nat) (tt : MM) (bs : Nat), ND st mm ro → PW dd st how mm ro → lft st ro mm ≠ 0 → CW tt dd → tt 17 2 = nI st → tt 17 3 = nI how → tt 17 4 = nI bs → bs ≤ 786432 → BalF (tt 18) (LD dd st ro mm) → ∃ t2 b2', rec tt (nI mm) (nI (lft st ro mm)) (nI (q4n (dg st ro))) = some t2 ∧ FI tt t2 ∧ t2 17 4 = nI b2' ∧ BalF (t2 18) (LD dd st ro mm) ∧ SP dd st how mm ro bs b2'
theorem wsum_le {dd : WD} (hO : DOk dd) (mm : Nat) : wsum dd mm ≤ 990 := by
  have h1 := nsum_bd (ff := wf dd mm) (mm := 99) (dN dd) (fun ii hi => by
    have := (hO.2.1 ii hi).2.2.1
    unfold wf
    split <;> omega)
  have := hO.1
  unfold wsum
  omega
theorem sh16 {mm aa : Nat} (hm : mm < 12) (ha : aa < 65536) : (nI mm <<< ((16 : Int32) &&& 31)) ||| nI aa = nI (mm * 65536 + aa) := by
  have h1 : mm * 2 ^ 16 < 2 ^ 32 := by
    have : (2 : Nat) ^ 16 = 65536 := by decide
    omega
  rw [pk_shlN ((16 : Int32) &&& 31) 16 (by decide) h1, Nat.mul_comm mm, fa_or_sum mm (show aa < 2 ^ 16 from ha)]
theorem C_putIn {tt : MM} {dd : WD} {st how nn mm bs xx : Nat} {ro : Nat → Nat} {rec : MM → Int32 → Int32 → Int32 → Option MM} (hW : WT dd st) (hO : DOk dd) (h4 : rn st 10 ≤ 4) (hn : 20 < nn) (hrec : GO dd st how nn rec (mm + 1)) (hm : mm < 12) (hN : ND st mm ro) (hP : PW dd st how mm ro) (hx0 : xx ≠ 0) (hx : sb xx (lft st ro mm)) (hmg : mgB how xx (lft st ro mm) = true) (hfit : fitB dd (whoAt dd ((ft dd + mm) % 12) ||| xx) = true) (hC : CW tt dd) (k2 : tt 17 2 = nI st) (k3 : tt 17 3 = nI how) (k4 : tt 17 4 = nI bs) (hbs : bs ≤ 786432) (hB : BalF (tt 18) (LD dd st ro mm)) : ∃ t2 b2', f_X0_putIn nn rec tt (nI mm) (nI (lft st ro mm)) (nI (q4n (dg st ro))) (nI xx) = some t2 ∧ FI tt t2 ∧ t2 17 4 = nI b2' ∧ BalF (t2 18) (LD dd st ro mm) ∧ b2' ≤ bs ∧ (∀ ta, alike st mm ro ta → VW dd st how ta → grp st ta mm = xx → b2' ≤ val st ta) ∧ (b2' = bs ∨ ∃ ta, alike st mm ro ta ∧ VW dd st how ta ∧ b2' = val st ta) := by
  have hs := hW.1
  have hxl := hx.le
  have hll : lft st ro mm < 1024 := lft_lt
  have hxst : sb xx st := hx.tr (lft_sb hs)
  have hcc : (ft dd + mm) % 12 < 12 := Nat.mod_lt _ (by decide)
  have hft := ft_lt dd
  have hal := al_up hs hx
  have hgu := grp_up hs hx hN (show mm ≤ 12 by omega)
  have hlu : lft st (upR st ro xx mm) mm = lft st ro mm := al_lft hal hs (Nat.le_refl _)
  have hLm : LD dd st (upR st ro xx mm) mm = LD dd st ro mm := al_LD hal hs (Nat.le_refl _)
  have hstep : ∀ cc, cc < 12 → addL (LD dd st ro mm) ((ft dd + mm) % 12) (wsum dd xx : Int) cc = LD dd st (upR st ro xx mm) (mm + 1) cc := fun cc hc => by
    have h9 := LD_step (ta := upR st ro xx mm) (mm := mm) hW hc
    rw [hLm, hgu] at h9
    exact h9
  have hws := wsum_le hO xx
  obtain ⟨g1, e1, B1⟩ := C_hang2 (tt := tt) (kb := 18) (xx := (wsum dd xx : Int)) hB hcc
  have B1 := B1.cong hstep
  rw [iI_nat] at e1
  have ev := C_even (tt := stA tt 18 g1) (kb := 18) (li := dli dd) (by rw [stA_same]; exact B1) (LD_Ok hO) hO.2.2.2.2
  have k7 : stA tt 18 g1 1 7 = nI (dli dd) := by rw [stA_ne _ _ (by omega)]; exact hC.2.2.2.2.2.2.2
  have back : ∀ t3 : MM, BalF (t3 18) (LD dd st (upR st ro xx mm) (mm + 1)) → ∃ gg, f_X0_putIn_106 nn rec t3 (nI ((ft dd + mm) % 12)) (nI (wsum dd xx)) = some (stA t3 18 gg) ∧ BalF gg (LD dd st ro mm) := by
    intro t3 hB3
    obtain ⟨gg, e, B⟩ := C_hang2 (tt := t3) (kb := 18) (xx := -(wsum dd xx : Int)) hB3 hcc
    refine ⟨gg, ?_, B.cong (fun cc hc => ?_)⟩
    · unfold f_X0_putIn_106
      rw [← iI_nat (wsum dd xx), iI_neg, e]
      rfl
    · have h9 := hstep cc hc
      unfold addL at h9 ⊢
      by_cases q : cc = (ft dd + mm) % 12
      · rw [if_pos q] at h9 ⊢
        omega
      · rw [if_neg q] at h9 ⊢
        omega
  have erem : (nI (ft dd) + nI mm) - (nI (ft dd) + nI mm) / (12 : Int32) * (12 : Int32) = nI ((ft dd + mm) % 12) := by
    rw [nI_add]
    exact pk_rem (a := ft dd + mm) (d := 12) (by omega) (by omega) (by omega)
  unfold f_X0_putIn
  rw [C_foot hC hO, b1_eq, erem, nm_eq, C_weight hC hO (by omega) (show xx < 2 ^ 31 by omega), b1_eq, e1, b1_eq, k7, ev, b1_eq, if01]
  by_cases q : evB (LD dd st (upR st ro xx mm) (mm + 1)) (dli dd) = true
  · have hcd : cd dd st how (upR st ro xx mm) mm := ⟨by rw [hgu, hlu]; exact hmg, by rw [hgu]; exact hfit, q⟩
    have kk2 : stA tt 18 g1 17 2 = nI st := by rw [stA_ne _ _ (by omega)]; exact k2
    rw [if_pos q, C_rowOf kk2 hs h4 hxst hm (by omega), b1_eq, fa_or, dg_up hs hx hN hm, nm_eq]
    by_cases q2 : xx = lft st ro mm
    · rw [if_pos (show nI xx = nI (lft st ro mm) by rw [q2]), nm_eq]
      have hval : val st (upR st ro xx mm) = mm * 65536 + q4n (dg st (upR st ro xx mm)) := by
        unfold val
        rw [q2, mx_up hs hN (by omega) (by rw [← q2]; exact hx0)]
      have hq4 : q4n (dg st (upR st ro xx mm)) < 65536 := q4n_lt (fun kk _ => dg_lt _ _ _)
      have hvl : val st (upR st ro xx mm) < 786432 := by rw [hval]; omega
      have k44 : stA tt 18 g1 17 4 = nI bs := by rw [stA_ne _ _ (by omega)]; exact k4
      have hmin : (if nI (val st (upR st ro xx mm)) < nI bs then nI (val st (upR st ro xx mm)) else nI bs) = nI (if val st (upR st ro xx mm) < bs then val st (upR st ro xx mm) else bs) := by
        by_cases q3 : val st (upR st ro xx mm) < bs
        · rw [if_pos q3, if_pos (nI_lt q3 (by omega))]
        · rw [if_neg q3, if_neg (nI_nlt (by omega) (by omega))]
      rw [k44, sh16 hm hq4, ← hval, hmin]
      obtain ⟨g2, e2, B2⟩ := back (st1 (stA tt 18 g1) 17 4 (nI (if val st (upR st ro xx mm) < bs then val st (upR st ro xx mm) else bs))) (by rw [st1_ne (by omega), stA_same]; exact B1)
      rw [e2]
      have hall : ∀ kk, kk < rn st 10 → upR st ro xx mm kk ≤ mm := by rw [q2]; exact up_all hs hN (by omega)
      refine ⟨_, (if val st (upR st ro xx mm) < bs then val st (upR st ro xx mm) else bs), rfl, (FI.rf.s18.s174).s18, by rw [stA_ne _ _ (by omega), st1_s], by rw [stA_same]; exact B2, ?_, fun ta t1 t2 t3 => ?_, ?_⟩
      · split <;> omega
      · rw [al_val (al_in hs hN (by omega) t1 t3) hall]
        split <;> omega
      · by_cases q3 : val st (upR st ro xx mm) < bs
        · rw [if_pos q3]
          refine Or.inr ⟨upR st ro xx mm, hal, ?_, rfl⟩
          rw [q2] at hcd ⊢
          exact VW_end hs hN hm hP hcd
        · rw [if_neg q3]
          exact Or.inl rfl
    · rw [if_neg (show ¬ nI xx = nI (lft st ro mm) from fun z => q2 ((nI_eq (by omega) (by omega)).mp z)), nI_1, nI_nd]
      have hlf := lft_up (gg := xx) hs hN (show mm ≤ 12 by omega)
      obtain ⟨t3, b3', e3, F3', h34, B3, s1, s2, s3⟩ := hrec (upR st ro xx mm) (stA tt 18 g1) bs (ND_up hN) (PW_up hs hx hP hcd) (by rw [hlf]; exact sb_ne hx q2) (CW_stA hC (by omega)) kk2 (by rw [stA_ne _ _ (by omega)]; exact k3) (by rw [stA_ne _ _ (by omega)]; exact k4) hbs (by rw [stA_same]; exact B1)
      rw [hlf] at e3
      obtain ⟨g2, e2, B2⟩ := back t3 B3
      rw [e3, b1_eq, e2]
      refine ⟨_, b3', rfl, (FI.rf.s18.tr F3').s18, by rw [stA_ne _ _ (by omega)]; exact h34, by rw [stA_same]; exact B2, s1, fun ta t1 t2 t3 => s2 ta (al_in hs hN (by omega) t1 t3) t2, ?_⟩
      rcases s3 with s3 | ⟨ta, t1, t2, t3⟩
      · exact Or.inl s3
      · exact Or.inr ⟨ta, al_dn hs hx t1, t2, t3⟩
  · rw [if_neg q]
    obtain ⟨g2, e2, B2⟩ := back (stA tt 18 g1) (by rw [stA_same]; exact B1)
    rw [e2]
    refine ⟨_, bs, rfl, FI.rf.s18.s18, by rw [stA_ne _ _ (by omega), stA_ne _ _ (by omega)]; exact k4, by rw [stA_same]; exact B2, Nat.le_refl _, fun ta t1 t2 t3 => ?_, Or.inl rfl⟩
    have h8 := (t2.2 mm hm (by rw [t3]; exact hx0)).2.2
    rw [al_LD (al_in hs hN (by omega) t1 t3) hs (Nat.le_refl _)] at h8
    exact absurd h8 q
