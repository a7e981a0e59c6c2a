/-! least -/
noncomputable def okS (dd : WD) (ld : Nat → Int) (cc mm : Nat) : Bool := decide (dsd dd cc + mm ≤ 99) && evB (addL ld cc (mm : Int)) (dli dd)
theorem addL_Ok {ld : Nat → Int} {cc mm : Nat} (h1 : ∀ jj, jj < 12 → 0 ≤ ld jj) (h2 : csum ld 12 ≤ 2178) (hc : cc < 12) (hm : mm ≤ 99) : ldOk (addL ld cc (mm : Int)) := by
  refine ⟨fun jj hj => ?_, ?_⟩
  · have := h1 jj hj
    unfold addL
    split <;> omega
  · rw [csum_addL1 ld cc _ hc]
    omega
theorem C_helps {t0 : MM} {dd : WD} {ld : Nat → Int} {gg : Nat → Int32} {cc mm : Nat} (hC : CW t0 dd) (hO : DOk dd) (hB : BalF gg ld) (h1 : ∀ jj, jj < 12 → 0 ≤ ld jj) (h2 : csum ld 12 ≤ 2178) (hc : cc < 12) (hm : mm ≤ 99) : ∃ g2, f_X7_helpsBySand (stA t0 28 gg) (nI cc) (nI mm) = some (if okS dd ld cc mm then 1 else 0, stA t0 28 g2) ∧ BalF g2 ld := by
  have hs := hO.2.2.1 cc hc
  have k6 : stA t0 28 gg 6 cc = nI (dsd dd cc) := by rw [stA_ne _ _ (by omega)]; exact hC.2.2.2.2.2.1 cc hc
  unfold f_X7_helpsBySand okS
  rw [ix_nI hc (by omega), nI_clamp (show cc < 2 ^ 31 by omega), k6, nI_add]
  by_cases q : dsd dd cc + mm ≤ 99
  · obtain ⟨g1, e1, B1⟩ := C_hang (tt := t0) (kb := 28) (xx := (mm : Int)) hB hc
    obtain ⟨g2, e2, B2⟩ := C_hang (tt := t0) (kb := 28) (xx := -(mm : Int)) B1 hc
    have k7 : stA t0 28 g1 1 7 = nI (dli dd) := by rw [stA_ne _ _ (by omega)]; exact hC.2.2.2.2.2.2.2
    have ev := C_even (tt := stA t0 28 g1) (kb := 28) (li := dli dd) (by rw [stA_same]; exact B1) (addL_Ok h1 h2 hc hm) hO.2.2.2.2
    rw [if_pos (show nI (dsd dd cc + mm) ≤ (99 : Int32) from nI_le (b := 99) q (by omega)), ← iI_nat mm, e1, b1_eq, k7, ev, b1_eq, iI_neg, e2, b1_eq, bz_01]
    refine ⟨g2, by simp [q], B2.cong (fun jj _ => ?_)⟩
    unfold addL
    by_cases q2 : jj = cc
    · rw [if_pos q2, if_pos q2]; omega
    · rw [if_neg q2, if_neg q2]
  · rw [if_neg (show ¬ nI (dsd dd cc + mm) ≤ (99 : Int32) from nI_ge (a := 99) (by omega) (by omega))]
    exact ⟨gg, by simp [q], hB⟩
theorem C_least1 {t0 : MM} {dd : WD} {ld : Nat → Int} {gg : Nat → Int32} {mm nn : Nat} {v2 : Int32} (hC : CW t0 dd) (hO : DOk dd) (hB : BalF gg ld) (h1 : ∀ jj, jj < 12 → 0 ≤ ld jj) (h2 : csum ld 12 ≤ 2178) (hm : mm ≤ 99) (hn : 13 < nn) : ∃ xx, it2 (lb_X7_least_96 nn v2 (nI mm)) nn (0 : Int32) (stA t0 28 gg) = some xx ∧ ((∃ g2, xx = .inr (stA t0 28 g2) ∧ BalF g2 ld ∧ ∀ cc, cc < 12 → okS dd ld cc mm = false) ∨ (∃ g2 cc, cc < 12 ∧ okS dd ld cc mm = true ∧ (∀ ce, ce < cc → okS dd ld ce mm = false) ∧ xx = .inl (if v2 = 0 then nI mm else nI cc, stA t0 28 g2))) :=
  it2_inv (bb := lb_X7_least_96 nn v2 (nI mm)) (fun kx v5 t2 => v5 = nI kx ∧ (∃ g2, t2 = stA t0 28 g2 ∧ BalF g2 ld) ∧ ∀ ce, ce < kx → okS dd ld ce mm = false) 12 (fun xx => (∃ g2, xx = .inr (stA t0 28 g2) ∧ BalF g2 ld ∧ ∀ cc, cc < 12 → okS dd ld cc mm = false) ∨ (∃ g2 cc, cc < 12 ∧ okS dd ld cc mm = true ∧ (∀ ce, ce < cc → okS dd ld ce mm = false) ∧ xx = .inl (if v2 = 0 then nI mm else nI cc, stA t0 28 g2))) (by
    rintro kx v5 t2 hle ⟨rfl, ⟨g1, rfl, B1⟩, hno⟩
    unfold lb_X7_least_96
    by_cases q : kx < 12
    · obtain ⟨g2, e1, B2⟩ := C_helps hC hO B1 h1 h2 q hm
      rw [if_neg (show ¬ (12 : Int32) ≤ nI kx from nI_ge (b := 12) q (by omega)), e1, b1_eq]
      simp only [if01]
      by_cases q2 : okS dd ld kx mm = true
      · rw [if_pos q2]
        right
        by_cases q3 : v2 = 0
        · rw [if_pos q3]
          exact ⟨_, rfl, Or.inr ⟨g2, kx, q, q2, hno, by rw [if_pos q3]⟩⟩
        · rw [if_neg q3]
          exact ⟨_, rfl, Or.inr ⟨g2, kx, q, q2, hno, by rw [if_neg q3]⟩⟩
      · rw [if_neg q2, nm_eq, nI_1]
        refine Or.inl ⟨q, _, _, rfl, rfl, ⟨g2, rfl, B2⟩, fun ce hce => ?_⟩
        by_cases q3 : ce = kx
        · rw [q3]; simpa using q2
        · exact hno ce (by omega)
    · have e : kx = 12 := by omega
      subst e
      rw [if_pos (show (12 : Int32) ≤ nI 12 by decide)]
      exact Or.inr ⟨_, rfl, Or.inl ⟨g1, rfl, B1, hno⟩⟩) nn 0 (stA t0 28 gg) (by omega) ⟨rfl, ⟨gg, rfl, hB⟩, fun ce hce => absurd hce (by omega)⟩
/-- the first sand and the first car of it -/
def fstS (pp : Nat → Nat → Bool) (mm cc : Nat) : Prop := mm ≤ 99 ∧ cc < 12 ∧ pp cc mm = true ∧ (∀ mf ce, mf < mm → ce < 12 → pp ce mf = false) ∧ (∀ ce, ce < cc → pp ce mm = false)
theorem fstS_un {pp : Nat → Nat → Bool} {m1 c1 m2 c2 : Nat} (h1 : fstS pp m1 c1) (h2 : fstS pp m2 c2) : m1 = m2 ∧ c1 = c2 := by
  obtain ⟨a1, a2, a3, a4, a5⟩ := h1
  obtain ⟨d1, d2, d3, d4, d5⟩ := h2
  have e : m1 = m2 := by
    rcases Nat.lt_trichotomy m1 m2 with q | q | q
    · have := d4 m1 c1 q a2
      rw [a3] at this
      exact absurd this (by decide)
    · exact q
    · have := a4 m2 c2 q d2
      rw [d3] at this
      exact absurd this (by decide)
  subst e
  refine ⟨rfl, ?_⟩
  rcases Nat.lt_trichotomy c1 c2 with q | q | q
  · have := d5 c1 q
    rw [a3] at this
    exact absurd this (by decide)
  · exact q
  · have := a5 c2 q
    rw [d3] at this
    exact absurd this (by decide)
theorem C_least2 {t0 : MM} {dd : WD} {ld : Nat → Int} {gg : Nat → Int32} {nn : Nat} {v2 : Int32} (hC : CW t0 dd) (hO : DOk dd) (hB : BalF gg ld) (h1 : ∀ jj, jj < 12 → 0 ≤ ld jj) (h2 : csum ld 12 ≤ 2178) (hn : 110 < nn) : ∃ xx, it2 (lb_X7_least_86 nn v2) nn (0 : Int32) (stA t0 28 gg) = some xx ∧ ((∃ g2, xx = .inr (stA t0 28 g2) ∧ ∀ mm cc, mm ≤ 99 → cc < 12 → okS dd ld cc mm = false) ∨ (∃ g2 mm cc, fstS (okS dd ld) mm cc ∧ xx = .inl (if v2 = 0 then nI mm else nI cc, stA t0 28 g2))) :=
  it2_inv (bb := lb_X7_least_86 nn v2) (fun kx v4 t2 => v4 = nI kx ∧ (∃ g2, t2 = stA t0 28 g2 ∧ BalF g2 ld) ∧ ∀ mf ce, mf < kx → ce < 12 → okS dd ld ce mf = false) 100 (fun xx => (∃ g2, xx = .inr (stA t0 28 g2) ∧ ∀ mm cc, mm ≤ 99 → cc < 12 → okS dd ld cc mm = false) ∨ (∃ g2 mm cc, fstS (okS dd ld) mm cc ∧ xx = .inl (if v2 = 0 then nI mm else nI cc, stA t0 28 g2))) (by
    rintro kx v4 t2 hle ⟨rfl, ⟨g1, rfl, B1⟩, hno⟩
    unfold lb_X7_least_86
    by_cases q : kx < 100
    · rw [if_neg (show ¬ (99 : Int32) < nI kx from nI_nlt (a := 99) (by omega) (by omega))]
      obtain ⟨xx, e1, hx⟩ := C_least1 (v2 := v2) (nn := nn) hC hO B1 h1 h2 (show kx ≤ 99 by omega) (by omega)
      rw [e1]
      rcases hx with ⟨g2, rfl, B2, hn2⟩ | ⟨g2, cc, hc, hok, hn2, rfl⟩
      · rw [bR_k, nm_eq, nI_1]
        refine Or.inl ⟨q, _, _, rfl, rfl, ⟨g2, rfl, B2⟩, fun mf ce h3 h4 => ?_⟩
        by_cases q3 : mf = kx
        · rw [q3]; exact hn2 ce h4
        · exact hno mf ce (by omega) h4
      · rw [bR_r]
        exact Or.inr ⟨_, rfl, Or.inr ⟨g2, kx, cc, ⟨by omega, hc, hok, hno, hn2⟩, rfl⟩⟩
    · have e : kx = 100 := by omega
      subst e
      rw [if_pos (show (99 : Int32) < nI 100 by decide)]
      exact Or.inr ⟨_, rfl, Or.inl ⟨g1, rfl, fun mm cc h3 h4 => hno mm cc (by omega) h4⟩⟩) nn 0 (stA t0 28 gg) (by omega) ⟨rfl, ⟨gg, rfl, hB⟩, fun mf ce h3 _ => absurd h3 (by omega)⟩
theorem R_least1 {u1 u0 : SR} {dd : WD} {nn cc l0 : Nat} {v1 v2 v3 b0 : Int32} (hR : RX u1 dd) (hO : DOk dd) (hF0 : RFr u1 u0) (hc : cc < 12) (hl : l0 ≤ 100) (hn : 110 < nn) : ∃ xx, it4 (lb_X8_least_79 nn v1 v2 v3 (nI cc)) nn b0 (nI l0) (0 : Int32) u0 = some xx ∧ ∃ u2, RFr u1 u2 ∧ ((xx = (b0, nI l0, u2) ∧ ∀ mm, mm < l0 → okS dd (ldA dd) cc mm = false) ∨ (∃ mm, mm < l0 ∧ xx = (nI cc, nI mm, u2) ∧ okS dd (ldA dd) cc mm = true ∧ ∀ mf, mf < mm → okS dd (ldA dd) cc mf = false)) :=
  it4_inv (bb := lb_X8_least_79 nn v1 v2 v3 (nI cc)) (fun kx v4 v5 v7 u2 => v7 = nI kx ∧ RFr u1 u2 ∧ ((v4 = b0 ∧ v5 = nI l0 ∧ kx ≤ l0 ∧ ∀ mf, mf < kx → okS dd (ldA dd) cc mf = false) ∨ (∃ mm, kx = mm + 1 ∧ mm < l0 ∧ v4 = nI cc ∧ v5 = nI mm ∧ okS dd (ldA dd) cc mm = true ∧ ∀ mf, mf < mm → okS dd (ldA dd) cc mf = false))) 101 (fun xx => ∃ u2, RFr u1 u2 ∧ ((xx = (b0, nI l0, u2) ∧ ∀ mm, mm < l0 → okS dd (ldA dd) cc mm = false) ∨ (∃ mm, mm < l0 ∧ xx = (nI cc, nI mm, u2) ∧ okS dd (ldA dd) cc mm = true ∧ ∀ mf, mf < mm → okS dd (ldA dd) cc mf = false))) (by
    rintro kx v4 v5 v7 u2 hle ⟨rfl, hF, hcase⟩
    unfold lb_X8_least_79
    rcases hcase with ⟨rfl, rfl, hkl, hno⟩ | ⟨mm, rfl, hml, rfl, rfl, hok, hno⟩
    · by_cases q : kx < l0
      · have hs := hO.2.2.1 cc hc
        have hX2 := hR.fr hF
        have k44 : u2.1 44 cc = nI (dsd dd cc) := hX2.2.2.2.2.2.1 cc hc
        rw [if_neg (nI_ge q (by omega)), ix_nI hc (by omega), nI_clamp (show cc < 2 ^ 31 by omega), k44, nI_add]
        by_cases q2 : dsd dd cc + kx ≤ 99
        · rw [if_neg (show ¬ (100 : Int32) ≤ nI (dsd dd cc + kx) from nI_ge (b := 100) (by omega) (by omega))]
          obtain ⟨w1, e1, F1', L1⟩ := R_loads hX2 hO (show 13 < nn by omega)
          have hX3 : RX (sr1 w1 45 cc (w1.1 45 cc + nI kx)) dd := hX2.fr (F1'.w45 _ _)
          have L2 : ∀ ce, ce < 12 → (sr1 w1 45 cc (w1.1 45 cc + nI kx)).1 45 ce = iI (addL (ldA dd) cc (kx : Int) ce) := by
            intro ce hce
            rw [sr1_at]
            unfold addL
            by_cases q3 : ce = cc
            · subst q3
              rw [if_pos rfl, if_pos rfl, L1 ce hce, ← iI_nat kx, iI_add]
            · rw [if_neg q3, if_neg q3]; exact L1 ce hce
          have hld : ldOk (addL (ldA dd) cc (kx : Int)) := addL_Ok (ldm_ok hO (ridS dd)).1 (ldm_ok hO (ridS dd)).2 hc (by omega)
          obtain ⟨w2, e2, F2', -⟩ := R_evenNow (nn := nn) (li := dli dd) L2 hld (by omega) hX3.2.2.2.2.2.2.2.1 hO.2.2.2.2
          have hF2 : RFr u1 w2 := (hF.tr (F1'.w45 _ _)).tr F2'
          have eok : okS dd (ldA dd) cc kx = evB (addL (ldA dd) cc (kx : Int)) (dli dd) := by unfold okS; simp [q2]
          rw [e1, b1_eq, ix_nI hc (by omega), ix_nI hc (by omega), nm_eq, e2, b1_eq]
          simp only [if01, nm_eq, nI_1]
          by_cases q4 : evB (addL (ldA dd) cc (kx : Int)) (dli dd) = true
          · rw [if_pos q4]
            exact Or.inl ⟨by omega, _, _, _, _, rfl, rfl, hF2, Or.inr ⟨kx, rfl, q, rfl, rfl, by rw [eok]; exact q4, hno⟩⟩
          · rw [if_neg q4]
            refine Or.inl ⟨by omega, _, _, _, _, rfl, rfl, hF2, Or.inl ⟨rfl, rfl, by omega, fun mf hmf => ?_⟩⟩
            by_cases q5 : mf = kx
            · rw [q5, eok]; simpa using q4
            · exact hno mf (by omega)
        · rw [if_pos (show (100 : Int32) ≤ nI (dsd dd cc + kx) from nI_le (a := 100) (by omega) (by omega))]
          refine Or.inr ⟨_, rfl, u2, hF, Or.inl ⟨rfl, fun mf hmf => ?_⟩⟩
          by_cases q5 : mf < kx
          · exact hno mf q5
          · unfold okS
            rw [show decide (dsd dd cc + mf ≤ 99) = false by simp; omega]
            rfl
      · have e : kx = l0 := by omega
        subst e
        rw [if_pos (nI_le (Nat.le_refl _) (by omega))]
        exact Or.inr ⟨_, rfl, u2, hF, Or.inl ⟨rfl, hno⟩⟩
    · rw [if_pos (nI_le (show mm ≤ mm + 1 by omega) (by omega))]
      exact Or.inr ⟨_, rfl, u2, hF, Or.inr ⟨mm, hml, rfl, hok, hno⟩⟩) nn b0 (nI l0) 0 u0 (by omega) ⟨rfl, hF0, Or.inl ⟨rfl, rfl, by omega, fun mf hmf => absurd hmf (by omega)⟩⟩
theorem R_least2 {u1 : SR} {dd : WD} {nn : Nat} {v1 v2 : Int32} (hR : RX u1 dd) (hO : DOk dd) (hn : 110 < nn) : ∃ xx, it4 (lb_X8_least_65 nn v1 v2 (1 : Int32)) nn (-4 : Int32) (100 : Int32) (0 : Int32) u1 = some xx ∧ ∃ u2, RFr u1 u2 ∧ ((xx = (-4, 100, u2) ∧ ∀ mm cc, mm ≤ 99 → cc < 12 → okS dd (ldA dd) cc mm = false) ∨ (∃ mm cc, fstS (okS dd (ldA dd)) mm cc ∧ xx = (nI cc, nI mm, u2))) :=
  it4_inv (bb := lb_X8_least_65 nn v1 v2 (1 : Int32)) (fun kx v4 v5 v6 u2 => v6 = nI kx ∧ RFr u1 u2 ∧ ((v4 = -4 ∧ v5 = nI 100 ∧ ∀ mm cc, mm ≤ 99 → cc < kx → okS dd (ldA dd) cc mm = false) ∨ (∃ mm cc, mm ≤ 99 ∧ cc < kx ∧ v4 = nI cc ∧ v5 = nI mm ∧ okS dd (ldA dd) cc mm = true ∧ (∀ mf ce, mf < mm → ce < kx → okS dd (ldA dd) ce mf = false) ∧ (∀ ce, ce < cc → okS dd (ldA dd) ce mm = false)))) 12 (fun xx => ∃ u2, RFr u1 u2 ∧ ((xx = (-4, 100, u2) ∧ ∀ mm cc, mm ≤ 99 → cc < 12 → okS dd (ldA dd) cc mm = false) ∨ (∃ mm cc, fstS (okS dd (ldA dd)) mm cc ∧ xx = (nI cc, nI mm, u2)))) (by
    rintro kx v4 v5 v6 u2 hle ⟨rfl, hF, hcase⟩
    unfold lb_X8_least_65
    by_cases q : kx < 12
    · rw [if_neg (show ¬ (12 : Int32) ≤ nI kx from nI_ge (b := 12) q (by omega)), if_neg n10']
      rcases hcase with ⟨rfl, rfl, hno⟩ | ⟨mm, cc, hm, hc, rfl, rfl, hok, hno, hno2⟩
      · obtain ⟨xx, e1, w2, hF2, hx⟩ := R_least1 (v1 := v1) (v2 := v2) (v3 := 1) (b0 := -4) (l0 := 100) (nn := nn) hR hO hF q (by omega) hn
        rw [e1]
        rcases hx with ⟨rfl, hn2⟩ | ⟨mm, hml, rfl, hok, hn2⟩
        · rw [b3_eq, nm_eq, nI_1]
          refine Or.inl ⟨q, _, _, _, _, rfl, rfl, hF2, Or.inl ⟨rfl, rfl, fun mm cc h3 h4 => ?_⟩⟩
          by_cases q3 : cc = kx
          · rw [q3]; exact hn2 mm (by omega)
          · exact hno mm cc h3 (by omega)
        · rw [b3_eq, nm_eq, nI_1]
          refine Or.inl ⟨q, _, _, _, _, rfl, rfl, hF2, Or.inr ⟨mm, kx, by omega, by omega, rfl, rfl, hok, fun mf ce h3 h4 => ?_, fun ce hce => hno mm ce (by omega) hce⟩⟩
          by_cases q3 : ce = kx
          · rw [q3]; exact hn2 mf h3
          · exact hno mf ce (by omega) (by omega)
      · obtain ⟨xx, e1, w2, hF2, hx⟩ := R_least1 (v1 := v1) (v2 := v2) (v3 := 1) (b0 := nI cc) (l0 := mm) (nn := nn) hR hO hF q (by omega) hn
        rw [e1]
        rcases hx with ⟨rfl, hn2⟩ | ⟨m2, hml, rfl, hok2, hn2⟩
        · rw [b3_eq, nm_eq, nI_1]
          refine Or.inl ⟨q, _, _, _, _, rfl, rfl, hF2, Or.inr ⟨mm, cc, hm, by omega, rfl, rfl, hok, fun mf ce h3 h4 => ?_, hno2⟩⟩
          by_cases q3 : ce = kx
          · rw [q3]; exact hn2 mf h3
          · exact hno mf ce h3 (by omega)
        · rw [b3_eq, nm_eq, nI_1]
          refine Or.inl ⟨q, _, _, _, _, rfl, rfl, hF2, Or.inr ⟨m2, kx, by omega, by omega, rfl, rfl, hok2, fun mf ce h3 h4 => ?_, fun ce hce => hno m2 ce hml hce⟩⟩
          by_cases q3 : ce = kx
          · rw [q3]; exact hn2 mf h3
          · exact hno mf ce (by omega) (by omega)
    · have e : kx = 12 := by omega
      subst e
      rw [if_pos (show (12 : Int32) ≤ nI 12 by decide)]
      rcases hcase with ⟨rfl, rfl, hno⟩ | ⟨mm, cc, hm, hc, rfl, rfl, hok, hno, hno2⟩
      · exact Or.inr ⟨_, rfl, u2, hF, Or.inl ⟨rfl, hno⟩⟩
      · exact Or.inr ⟨_, rfl, u2, hF, Or.inr ⟨mm, cc, ⟨hm, hc, hok, hno, hno2⟩, rfl⟩⟩) nn (-4) 100 0 u1 (by omega) ⟨rfl, RFr.rf, Or.inl ⟨rfl, rfl, fun mm cc _ h4 => absurd h4 (by omega)⟩⟩
theorem m_least {tt : MM} {uu : SR} {dd : WD} {nn : Nat} (h : WR tt uu dd) (hn : 110 < nn) (v1 v2 : Int32) : Good tt uu (f_X7_least nn tt v1 v2) (f_X8_least nn uu v1 v2) := by
  have h0 := h
  obtain ⟨hC, hR, hO, hfit⟩ := h
  have h10 := hO.1
  have hft := ft_lt dd
  have stay : ∀ vv : Int32, Good tt uu (some (vv, tt)) (some (vv, uu)) := fun vv => ⟨_, _, _, dd, rfl, rfl, h0, CRest.rf, RRest.rf⟩
  unfold f_X7_least f_X8_least
  rcases cases32 v1 with ⟨q1, q2⟩ | ⟨ii, q1, rfl⟩
  · rw [C_waitsM q1, R_oneM hR.1 h10 q2, b1_eq, b1_eq, if_pos rfl, if_pos rfl]
    exact stay _
  rw [C_waits hC hO q1, R_one hR.1 h10 q1, b1_eq, b1_eq, ifp01, ifp01]
  by_cases q : ii < dN dd
  rotate_left
  · rw [if_neg q, if_neg (fun z => q z.1)]
    exact stay _
  have hp4 := (hO.2.1 ii q).2.2.2.1
  simp only [if_pos q, ix_nI (show ii < 10 by omega) (show 10 < 2 ^ 31 by omega), nI_clamp q1, hR.2.2.2.1 ii q, lit32 12, nI_eq (show dp dd ii < 2 ^ 31 by omega) (show 12 < 2 ^ 31 by omega)]
  by_cases q3 : dp dd ii = 12
  rotate_left
  · rw [if_neg q3, if_neg (fun z => q3 z.2)]
    exact stay _
  rw [if_pos q3, if_pos ⟨q, q3⟩]
  rcases R_inC v2 0 1 (by omega) (by omega) with ⟨e1, wh, -, hwh, rfl⟩ | ⟨e1, e2⟩
  rotate_left
  · rw [show f_X8_in v2.toInt64 (0 : Int64) (1 : Int64) = some 0 from e1, b1_eq, if_pos rfl]
    rcases e2 with e2 | ⟨jj, e3, rfl, e4⟩
    · rw [if_pos e2]
      exact stay _
    · rw [if_neg (nI_pos e3), if_neg (show ¬ nI jj ≤ (1 : Int32) from nI_ge (a := 1) (by omega) e3)]
      exact stay _
  rw [show f_X8_in (nI wh).toInt64 (0 : Int64) (1 : Int64) = some 1 from e1, b1_eq, if_neg n10', if_neg (nI_pos (show wh < 2 ^ 31 by omega)), if_pos (show nI wh ≤ (1 : Int32) from nI_le (b := 1) hwh (by omega)), nm_eq]
  have hO2 : DOk (mvP dd ii (ft dd)) := mvP_Ok hO (by omega)
  have hw2 : whoAt (mvP dd ii (ft dd)) (ft dd) < 1024 := whoAt_lt hO2 (ft dd)
  have hw3 : whoAt (mvP dd ii (dmi dd % 12)) (dmi dd % 12) < 1024 := hw2
  have hC2 : RX (sr1 uu 42 ii (nI (ft dd))) (mvP dd ii (ft dd)) := mvP_RX hR.x
  have k8 : (sr1 uu 42 ii (nI (ft dd))).1 39 8 = nI (ft dd) := hC2.2.2.2.2.2.2.2.2
  have k42 : uu.1 42 ii = nI 12 := by rw [hR.2.2.2.1 ii q, q3]
  have ef : fitB (mvP dd ii (ft dd)) (whoAt (mvP dd ii (ft dd)) (ft dd)) = fitB dd (whoAt (mvP dd ii (ft dd)) (ft dd)) := rfl
  rw [hR.2.2.2.2.2.2.2.2]
  rw [C_foot hC hO, b1_eq, C_who hC hO (by omega) (by omega), b1_eq, bit_sh (show ii < 31 by omega), fa_or, who_in q, C_fit hC hO (by omega) (by omega), b1_eq, if01, k8, R_who hC2 hO2 (by omega) (by omega), b1_eq, R_fit hC2 hO2 (by omega) (by omega), b1_eq, ef]
  by_cases hf : fitB dd (whoAt (mvP dd ii (ft dd)) (ft dd)) = true
  · rw [if_pos hf, if_pos hf]
    obtain ⟨g1, a1, B1⟩ := C_wAll (kb := 28) hC hO (show 13 < nn by omega) (by omega)
    obtain ⟨g2, a2, B2⟩ := C_hang (tt := tt) (kb := 28) (xx := (dw dd ii : Int)) B1 hft
    have k3 : stA tt 28 g1 3 ii = iI (dw dd ii : Int) := by rw [stA_ne tt g1 (by omega), iI_nat]; exact hC.2.2.1 ii q
    have B3 : BalF g2 (ldA (mvP dd ii (ft dd))) := B2.cong (ldA_in q (by omega))
    have hld := ldm_ok hO2 (ridS (mvP dd ii (ft dd)))
    obtain ⟨xx, c1, hx⟩ := C_least2 (v2 := nI wh) (nn := nn) hC hO B3 hld.1 hld.2 hn
    obtain ⟨yy, d1, u2, hF, hy⟩ := R_least2 (v1 := nI ii) (v2 := nI wh) (nn := nn) hC2 hO2 hn
    have eo : okS (mvP dd ii (ft dd)) (ldA (mvP dd ii (ft dd))) = okS dd (ldA (mvP dd ii (ft dd))) := rfl
    rw [eo] at hy
    rw [a1, b1_eq, k3, a2, b1_eq, c1, d1]
    have hFb : RFr uu (sr1 u2 42 ii (nI 12)) := hF.back k42.symm
    rcases hx with ⟨g3, rfl, hno⟩ | ⟨g3, mm, cc, hfs, rfl⟩
    · have ey : yy = (-4, 100, u2) := by
        rcases hy with ⟨z, _⟩ | ⟨mm, cc, z, _⟩
        · exact z
        · have := hno mm cc z.1 z.2.1
          rw [z.2.2.1] at this
          exact absurd this (by decide)
      subst ey
      rw [bR_k, b3_eq]
      unfold f_X8_least_144
      rw [ix_nI (show ii < 10 by omega) (by omega), nI_clamp q1, nm_eq, if_neg (show ¬ (0 : Int32) ≤ -4 by decide), lit32 12]
      exact ⟨_, _, _, dd, rfl, rfl, (h0.stA (by omega) g3).fr hFb, CRest.rf.sA ck28 (by omega), hFb.rest⟩
    · obtain ⟨m2, c2, hfs2, rfl⟩ : ∃ m2 c2, fstS (okS dd (ldA (mvP dd ii (ft dd)))) m2 c2 ∧ yy = (nI c2, nI m2, u2) := by
        rcases hy with ⟨_, z⟩ | z
        · have := z mm cc hfs.1 hfs.2.1
          rw [hfs.2.2.1] at this
          exact absurd this (by decide)
        · exact z
      obtain ⟨rfl, rfl⟩ := fstS_un hfs hfs2
      have hcc := hfs.2.1
      rw [bR_r, b3_eq]
      unfold f_X8_least_144
      rw [ix_nI (show ii < 10 by omega) (by omega), nI_clamp q1, nm_eq, if_pos (nI_pos' (show cc < 2 ^ 31 by omega)), lit32 12]
      rcases (show wh = 0 ∨ wh = 1 by omega) with rfl | rfl
      · rw [if_pos (show nI 0 = (0 : Int32) from rfl), if_pos (show nI 0 = (0 : Int32) from rfl)]
        exact ⟨_, _, _, dd, rfl, rfl, (h0.stA (by omega) g3).fr hFb, CRest.rf.sA ck28 (by omega), hFb.rest⟩
      · rw [if_neg (show ¬ nI 1 = (0 : Int32) by decide), if_neg (show ¬ nI 1 = (0 : Int32) by decide)]
        exact ⟨_, _, _, dd, rfl, rfl, (h0.stA (by omega) g3).fr hFb, CRest.rf.sA ck28 (by omega), hFb.rest⟩
  · rw [if_neg hf, if_neg hf]
    have e0 : ∃ kk, nn = kk + 1 := ⟨nn - 1, by omega⟩
    obtain ⟨kk, rfl⟩ := e0
    have e2 : it4 (lb_X8_least_65 (kk + 1) (nI ii) (nI wh) (0 : Int32)) (kk + 1) (-4 : Int32) (100 : Int32) (0 : Int32) (sr1 uu 42 ii (nI (ft dd))) = some (-4, 100, sr1 uu 42 ii (nI (ft dd))) := by
      have e3 : lb_X8_least_65 (kk + 1) (nI ii) (nI wh) (0 : Int32) (-4 : Int32) (100 : Int32) (0 : Int32) (sr1 uu 42 ii (nI (ft dd))) = some (.inl (-4, 100, sr1 uu 42 ii (nI (ft dd)))) := by
        unfold lb_X8_least_65
        rw [if_neg (show ¬ (12 : Int32) ≤ 0 by decide), if_pos rfl]
      simp [it4, e3]
    have hFb : RFr uu (sr1 (sr1 uu 42 ii (nI (ft dd))) 42 ii (nI 12)) := RFr.rf.back k42.symm
    rw [e2, b3_eq]
    unfold f_X8_least_144
    rw [ix_nI (show ii < 10 by omega) (by omega), nI_clamp q1, nm_eq, if_neg (show ¬ (0 : Int32) ≤ -4 by decide), lit32 12]
    exact ⟨_, _, _, dd, rfl, rfl, h0.fr hFb, CRest.rf, hFb.rest⟩
