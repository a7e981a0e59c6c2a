/-! soonest, when -/
theorem R_copy1 {ww : SR} {st nn : Nat} {ta : Nat → Nat} {v2 v3 : Int32} (h4 : rn st 10 ≤ 4) (hH : WH st ww) (hT : TM st ww ta) (hn : 20 < nn) : ∃ w2, it2 (lb_X8_findSoonest_144 nn v2 v3) nn (0 : Int32) ww = some w2 ∧ (∀ cc, cc ≠ 50 → w2.1 cc = ww.1 cc) ∧ ∀ kk, kk < rn st 10 → w2.1 50 kk = nI (ta kk) :=
  it2_inv (bb := lb_X8_findSoonest_144 nn v2 v3) (fun kx v6 w2 => v6 = nI kx ∧ (∀ cc, cc ≠ 50 → w2.1 cc = ww.1 cc) ∧ ∀ kk, kk < kx → w2.1 50 kk = nI (ta kk)) (rn st 10) (fun w2 => (∀ cc, cc ≠ 50 → w2.1 cc = ww.1 cc) ∧ ∀ kk, kk < rn st 10 → w2.1 50 kk = nI (ta kk)) (by
    rintro kx v6 w2 hle ⟨rfl, f1, f2⟩
    have k24 : w2.1 39 24 = nI (rn st 10) := by rw [f1 39 (by omega)]; exact hH.1
    unfold lb_X8_findSoonest_144
    by_cases q : kx < rn st 10
    · rw [k24, if_neg (nI_ge q (by omega)), ix_nI (show kx < 4 by omega) (by omega), ix_nI (show kx < 4 by omega) (by omega), nI_clamp (show kx < 2 ^ 31 by omega), f1 49 (by omega), (hT kx q).2, nm_eq, nm_eq, nI_1]
      refine Or.inl ⟨q, _, _, rfl, rfl, fun cc hc => by rw [sr1_ne hc]; exact f1 cc hc, fun kk hk => ?_⟩
      rw [sr1_at]
      by_cases z : kk = kx
      · rw [if_pos z, z]
      · rw [if_neg z]; exact f2 kk (by omega)
    · have e : kx = rn st 10 := by omega
      subst e
      rw [k24, if_pos (nI_le (Nat.le_refl _) (by omega))]
      exact Or.inr ⟨_, rfl, f1, f2⟩) nn 0 ww (by omega) ⟨rfl, fun _ _ => rfl, fun kk hk => absurd hk (by omega)⟩
/-- the best of the rows up to one -/
def BV (dd : WD) (st how : Nat) (ee : Nat) (v3 : Int32) (ww : SR) : Prop := (v3 = nI 12 ∧ ∀ ta, (∀ kk, kk < rn st 10 → ta kk < 12) → ix12 ta (rn st 10) < ee → ¬ VW dd st how ta) ∨ (∃ sg', VW dd st how sg' ∧ ix12 sg' (rn st 10) < ee ∧ v3 = nI (mxN sg' (rn st 10)) ∧ (∀ kk, kk < rn st 10 → ww.1 50 kk = nI (sg' kk)) ∧ ∀ ta, (∀ kk, kk < rn st 10 → ta kk < 12) → ix12 ta (rn st 10) < ee → VW dd st how ta → mxN sg' (rn st 10) < mxN ta (rn st 10) ∨ (mxN sg' (rn st 10) = mxN ta (rn st 10) ∧ ix12 sg' (rn st 10) ≤ ix12 ta (rn st 10)))
theorem mx11 {st : Nat} {ta : Nat → Nat} (h : ∀ kk, kk < rn st 10 → ta kk < 12) : mxN ta (rn st 10) ≤ 11 := mx_le _ (fun jj hj => by have := h jj hj; omega)
theorem R_find {uu : SR} {dd : WD} {st how nn : Nat} (hX : RX uu dd) (hO : DOk dd) (hW : WT dd st) (h0 : st ≠ 0) (h4 : rn st 10 ≤ 4) (hh : how ≤ 2) (hn : 21000 < nn) : ∃ vv u2, f_X8_findSoonest nn uu (nI st) (nI how) = some (vv, u2) ∧ RSf uu u2 ∧ WH st u2 ∧ ((vv = -4 ∧ ∀ ta, ¬ VW dd st how ta) ∨ ∃ sg', VW dd st how sg' ∧ vv = nI (mxN sg' (rn st 10)) ∧ (∀ kk, kk < rn st 10 → u2.1 50 kk = nI (sg' kk)) ∧ ∀ ta, VW dd st how ta → val st sg' ≤ val st ta) := by
  have hs := hW.1
  have h1 : 1 ≤ rn st 10 := by
    obtain ⟨ii, hb⟩ := nz_bit h0
    have := rn_lt (bit10 hs hb) hb
    omega
  have hpw : 12 ^ rn st 10 ≤ 12 ^ 4 := Nat.pow_le_pow_right (by decide) h4
  have hpw2 : (12 : Nat) ^ 4 = 20736 := by decide
  have hpw3 : 0 < 12 ^ rn st 10 := Nat.pos_of_ne_zero (by intro z; have := Nat.pow_le_pow_right (n := 12) (by decide) (Nat.zero_le (rn st 10)); rw [z] at this; exact absurd this (by decide))
  obtain ⟨u1, e1, F1', hH1, hT1⟩ := R_list (uu := uu) (nn := nn) (v2 := nI how) hX hO hW h4 (by omega)
  obtain ⟨xx, l1, vv, u2, rfl, hF2, hH2, hB2⟩ := it3_inv (bb := lb_X8_findSoonest_65 nn (nI how)) (fun ee v3 v4 ww => RSf uu ww ∧ WH st ww ∧ ((ee < 12 ^ rn st 10 ∧ v4 = 1 ∧ ∃ ta, TM st ww ta ∧ ix12 ta (rn st 10) = ee) ∨ (ee = 12 ^ rn st 10 ∧ v4 = 0)) ∧ BV dd st how ee v3 ww) (12 ^ rn st 10) (fun xx => ∃ vv u2, xx = (vv, u2) ∧ RSf uu u2 ∧ WH st u2 ∧ BV dd st how (12 ^ rn st 10) vv u2) (by
    rintro ee v3 v4 ww hle ⟨hF, hH, hcase, hBV⟩
    unfold lb_X8_findSoonest_65
    rcases hcase with ⟨hee, rfl, ta, hT, hix⟩ | ⟨rfl, rfl⟩
    rotate_left
    · rw [if_pos rfl]
      exact Or.inr ⟨_, rfl, v3, ww, rfl, hF, hH, hBV⟩
    have h12 : ∀ kk, kk < rn st 10 → ta kk < 12 := fun kk hk => (hT kk hk).1
    have hmx := mx11 h12
    have only : ∀ tb, (∀ kk, kk < rn st 10 → tb kk < 12) → ix12 tb (rn st 10) < ee + 1 → ¬ ix12 tb (rn st 10) < ee → (∀ kk, kk < rn st 10 → tb kk = ta kk) := fun tb t1 t2 t3 => ix12_inj _ t1 h12 (by omega)
    have same : ∀ tb, (∀ kk, kk < rn st 10 → tb kk = ta kk) → VW dd st how tb → VW dd st how ta := fun tb t1 t2 => al_VW (ta := tb) (tb := ta) (fun kk hk => ⟨fun _ => (t1 kk hk).symm, fun z => by rw [← t1 kk hk]; exact z⟩) hs t2
    -- on to the next row, the best being told
    have fin : ∀ (wx : SR) (vx3 : Int32), RSf uu wx → WH st wx → TM st wx ta → (∀ w2 : SR, w2.1 50 = wx.1 50 → BV dd st how (ee + 1) vx3 w2) → ((ee < 12 ^ rn st 10 ∧ ∃ c1 c2 c3, f_X8_findSoonest_173_in65 nn wx (nI how) vx3 = some (.inr (c1, c2, c3)) ∧ RSf uu c3 ∧ WH st c3 ∧ ((ee + 1 < 12 ^ rn st 10 ∧ c2 = 1 ∧ ∃ ta, TM st c3 ta ∧ ix12 ta (rn st 10) = ee + 1) ∨ (ee + 1 = 12 ^ rn st 10 ∧ c2 = 0)) ∧ BV dd st how (ee + 1) c1 c3) ∨ ∃ xx, f_X8_findSoonest_173_in65 nn wx (nI how) vx3 = some (.inl xx) ∧ ∃ vv u2, xx = (vv, u2) ∧ RSf uu u2 ∧ WH st u2 ∧ BV dd st how (12 ^ rn st 10) vv u2) := by
      intro wx vx3 g1 g2 g3 g4
      left
      obtain ⟨vn, w2, e2, f1, f2⟩ := R_nextT (nn := nn) h4 g2 g3 (by omega)
      unfold f_X8_findSoonest_173_in65
      rw [e2, b1_eq]
      refine ⟨hee, vx3, vn, w2, rfl, ⟨fun cc a1 a2 a3 => by rw [f1 cc (by omega)]; exact g1.1 cc a1 a2 a3, fun jj a1 a2 => by rw [f1 39 (by omega)]; exact g1.2 jj a1 a2⟩, ⟨by rw [f1 39 (by omega)]; exact g2.1, fun kk hk => by rw [f1 48 (by omega)]; exact g2.2 kk hk⟩, ?_, g4 w2 (f1 50 (by omega))⟩
      rcases f2 with ⟨rfl, tb, t1, t2⟩ | ⟨rfl, t2⟩
      · refine Or.inl ⟨?_, rfl, tb, t1, by omega⟩
        have := ix12_lt (ta := tb) (rn st 10) (fun jj hj => (t1 jj hj).1)
        omega
      · exact Or.inr ⟨by omega, rfl⟩
    have keep : (¬ VW dd st how ta ∨ v3 ≤ nI (mxN ta (rn st 10))) → ∀ w2 : SR, w2.1 50 = ww.1 50 → BV dd st how (ee + 1) v3 w2 := by
      intro hno w2 h50
      rcases hBV with ⟨z1, z2⟩ | ⟨sg', z1, z2, z3, z4, z5⟩
      · refine Or.inl ⟨z1, fun tb t1 t2 t3 => ?_⟩
        by_cases y : ix12 tb (rn st 10) < ee
        · exact z2 tb t1 y t3
        · have hv := same tb (only tb t1 t2 y) t3
          rcases hno with hno | hno
          · exact hno hv
          · rw [z1] at hno
            exact nI_ge (show mxN ta (rn st 10) < 12 by omega) (by omega) hno
      · refine Or.inr ⟨sg', z1, by omega, z3, fun kk hk => by rw [h50]; exact z4 kk hk, fun tb t1 t2 t3 => ?_⟩
        by_cases y : ix12 tb (rn st 10) < ee
        · exact z5 tb t1 y t3
        · have hv := same tb (only tb t1 t2 y) t3
          have hm2 := mx11 z1.1
          have emx : mxN tb (rn st 10) = mxN ta (rn st 10) := mx_cong _ (only tb t1 t2 y)
          rcases hno with hno | hno
          · exact absurd hv hno
          · rw [z3] at hno
            have := (nI_leI (by omega) (by omega)).mp hno
            omega
    rw [if_neg n10', R_last h4 hH hT (by omega), b1_eq]
    by_cases q : v3 ≤ nI (mxN ta (rn st 10))
    · rw [if_pos q]
      exact fin ww v3 hF hH hT (keep (Or.inr q))
    · obtain ⟨va, e2, hva⟩ := R_areSo (nn := nn) h1 h4 hh hH hT (by omega)
      rw [if_neg q, e2, b1_eq]
      by_cases q2 : arP how ta (rn st 10)
      · obtain ⟨vb, w3, e3, hvb, F3'⟩ := R_board (nn := nn) (hX.sf hF) hO hW h4 hH hT (by omega)
        have hva1 : va = 1 := by
          rcases hva with ⟨_, z⟩ | ⟨z, _⟩
          · exact z
          · exact absurd q2 z
        have hH3 : WH st w3 := ⟨(F3'.2.1 24 (by omega)).trans hH.1, fun kk hk => by rw [F3'.1 48 (by omega) (by omega)]; exact hH.2 kk hk⟩
        have hT3 : TM st w3 ta := fun kk hk => ⟨h12 kk hk, by rw [F3'.1 49 (by omega) (by omega)]; exact (hT kk hk).2⟩
        have hF3 := hF.tr F3'.sf
        rw [hva1, if_neg n10', e3, b1_eq]
        by_cases q3 : CB dd st ta 12
        · have hvb1 : vb = 1 := by
            rcases hvb with ⟨_, z⟩ | ⟨z, _⟩
            · exact z
            · exact absurd q3 z
          have hv : VW dd st how ta := (VW_iff hs hh h12).mpr ⟨q2, q3⟩
          obtain ⟨w4, e4, f4, f5⟩ := R_copy1 (nn := nn) (v2 := nI how) (v3 := nI (mxN ta (rn st 10))) h4 hH3 hT3 (by omega)
          rw [hvb1]
          dsimp only
          rw [if_neg n10', e4, b1_eq]
          refine fin w4 (nI (mxN ta (rn st 10))) ⟨fun cc a1 a2 a3 => by rw [f4 cc (by omega)]; exact hF3.1 cc a1 a2 a3, fun jj a1 a2 => by rw [f4 39 (by omega)]; exact hF3.2 jj a1 a2⟩ ⟨by rw [f4 39 (by omega)]; exact hH3.1, fun kk hk => by rw [f4 48 (by omega)]; exact hH3.2 kk hk⟩ (fun kk hk => ⟨h12 kk hk, by rw [f4 49 (by omega)]; exact (hT3 kk hk).2⟩) (fun w5 h50 => Or.inr ⟨ta, hv, by omega, rfl, fun kk hk => by rw [h50]; exact f5 kk hk, fun tb t1 t2 t3 => ?_⟩)
          by_cases y : ix12 tb (rn st 10) < ee
          · left
            rcases hBV with ⟨z1, z2⟩ | ⟨sg', z1, z2, z3, z4, z5⟩
            · exact absurd t3 (z2 tb t1 y)
            · have hm2 := mx11 z1.1
              rw [z3] at q
              have h8 : mxN ta (rn st 10) < mxN sg' (rn st 10) := by
                apply Nat.lt_of_not_le
                intro z
                exact q (nI_le z (by omega))
              have := z5 tb t1 y t3
              omega
          · right
            have eqs := only tb t1 t2 y
            exact ⟨(mx_cong _ eqs).symm, by omega⟩
        · have hvb0 : vb = 0 := by
            rcases hvb with ⟨z, _⟩ | ⟨_, z⟩
            · exact absurd z q3
            · exact z
          rw [hvb0]
          dsimp only
          rw [if_pos rfl]
          refine fin w3 v3 hF3 hH3 hT3 (fun w2 h50 => keep (Or.inl (fun z => q3 ((VW_iff hs hh h12).mp z).2)) w2 ?_)
          rw [h50, F3'.1 50 (by omega) (by omega)]
      · have hva0 : va = 0 := by
          rcases hva with ⟨z, _⟩ | ⟨_, z⟩
          · exact absurd z q2
          · exact z
        rw [hva0, if_pos rfl]
        exact fin ww v3 hF hH hT (keep (Or.inl (fun z => q2 ((VW_iff hs hh h12).mp z).1)))) nn 12 1 u1 (by omega) ⟨F1', hH1, Or.inl ⟨hpw3, rfl, fun _ => 0, hT1, by
        have z : ∀ kk, ix12 (fun _ => 0) kk = 0 := fun kk => by
          induction kk with
          | zero => rfl
          | succ kk ih => rw [ix12, ih]
        exact z _⟩, Or.inl ⟨rfl, fun ta _ z => absurd z (by omega)⟩⟩
  unfold f_X8_findSoonest
  rw [nm_eq, e1, b1_eq, show it3 (lb_X8_findSoonest_65 nn (nI how)) nn (12 : Int32) (1 : Int32) u1 = some (vv, u2) from l1, b2_eq]
  rcases hB2 with ⟨z1, z2⟩ | ⟨sg', z1, z2, z3, z4, z5⟩
  · rw [if_pos (show vv = (12 : Int32) from z1)]
    exact ⟨-4, u2, rfl, hF2, hH2, Or.inl ⟨rfl, fun ta hv => z2 ta hv.1 (ix12_lt _ hv.1) hv⟩⟩
  · have hm2 := mx11 z1.1
    rw [if_neg (show ¬ vv = (12 : Int32) from fun z => by rw [z3] at z; have := (nI_eq (b := 12) (by omega) (by omega)).mp z; omega)]
    refine ⟨vv, u2, rfl, hF2, hH2, Or.inr ⟨sg', z1, z3, z4, fun ta hv => ?_⟩⟩
    have h9 := z5 ta hv.1 (ix12_lt _ hv.1) hv
    have q1 : q4n (dg st sg') < 65536 := q4n_lt (fun kk _ => dg_lt _ _ _)
    unfold val
    rcases h9 with h9 | ⟨h9, h10⟩
    · generalize q4n (dg st sg') = x1 at q1 ⊢
      generalize q4n (dg st ta) = x2
      generalize mxN sg' (rn st 10) = x3 at h9 ⊢
      generalize mxN ta (rn st 10) = x4 at h9 ⊢
      omega
    · have := ix_le h4 z1.1 hv.1 h10
      rw [h9]
      exact Nat.add_le_add_left this _
