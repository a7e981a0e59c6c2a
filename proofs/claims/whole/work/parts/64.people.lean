/-! the operation people -/
def TR (tt : MM) (uu : SR) : Prop := ∃ bt ln, TB bt ln ∧ tt 13 2 = nI ln ∧ (∀ jj, jj < ln → tt 14 jj = nI (bt jj)) ∧ uu.1 39 17 = nI ln ∧ (∀ jj, jj < ln → uu.1 46 jj = nI (bt jj))
def CR0 (tt ww : MM) : Prop := ∀ kk, kk = 0 ∨ (7 ≤ kk ∧ kk ≤ 12) ∨ (30 ≤ kk ∧ kk ≤ 37) → ww kk = tt kk
def RR0 (uu ww : SR) : Prop := (∀ kk, 53 ≤ kk ∧ kk ≤ 56 → ww.1 kk = uu.1 kk) ∧ ww.1 39 29 = uu.1 39 29
theorem CR0.rf {tt : MM} : CR0 tt tt := fun _ _ => rfl
theorem RR0.rf {uu : SR} : RR0 uu uu := ⟨fun _ _ => rfl, rfl⟩
theorem CR0.tr {tt vv ww : MM} (h1 : CR0 tt vv) (h2 : CR0 vv ww) : CR0 tt ww := fun kk a1 => (h2 kk a1).trans (h1 kk a1)
theorem RR0.tr {uu vv ww : SR} (h1 : RR0 uu vv) (h2 : RR0 vv ww) : RR0 uu ww := ⟨fun kk a1 => (h2.1 kk a1).trans (h1.1 kk a1), h2.2.trans h1.2⟩
theorem CRest.z {tt ww : MM} (h : CRest tt ww) : CR0 tt ww := fun kk hk => h.1 kk (by unfold CK; omega)
theorem RRest.z {uu ww : SR} (h : RRest uu ww) : RR0 uu ww := ⟨fun kk hk => h.1 kk (by omega), h.2.2⟩
theorem CPf.z {tt ww : MM} (h : CPf tt ww) : CR0 tt ww := fun kk hk => h.1 kk (by omega) (by omega) (by omega)
theorem RPf.z {uu ww : SR} (h : RPf uu ww) : RR0 uu ww := ⟨fun kk hk => h.1 kk (by omega) (by omega), h.2.1 29 (by omega) (by omega)⟩
theorem CR0.s1 {tt ww : MM} {kk jj : Nat} {vv : Int32} (h : CR0 tt ww) (hk : ¬ (kk = 0 ∨ (7 ≤ kk ∧ kk ≤ 12) ∨ (30 ≤ kk ∧ kk ≤ 37))) : CR0 tt (st1 ww kk jj vv) := fun xx hx => by
  rw [st1_ne (by omega)]; exact h xx hx
theorem CR0.sA {tt ww : MM} {kk : Nat} {gg : Nat → Int32} (h : CR0 tt ww) (hk : ¬ (kk = 0 ∨ (7 ≤ kk ∧ kk ≤ 12) ∨ (30 ≤ kk ∧ kk ≤ 37))) : CR0 tt (stA ww kk gg) := fun xx hx => by
  rw [stA_ne ww gg (by omega)]; exact h xx hx
theorem RR0.s1 {uu ww : SR} {kk jj : Nat} {vv : Int32} (h : RR0 uu ww) (hk : ¬ (53 ≤ kk ∧ kk ≤ 56)) (hj : kk ≠ 39 ∨ jj ≠ 29) : RR0 uu (sr1 ww kk jj vv) := by
  refine ⟨fun xx hx => ?_, ?_⟩
  · rw [sr1_ne (by omega)]; exact h.1 xx hx
  · by_cases q : kk = 39
    · subst q
      rw [sr1_o (by omega)]; exact h.2
    · rw [sr1_ne (by omega)]; exact h.2
/-- the tape is emptied; or all else is as it should be -/
def Good0 (tt : MM) (uu : SR) (xx : Option (Int32 × MM)) (yy : Option (Int32 × SR)) : Prop := ∃ vv t2 u2 d2, xx = some (vv, t2) ∧ yy = some (vv, u2) ∧ WR t2 u2 d2 ∧ TR t2 u2 ∧ CR0 tt t2 ∧ RR0 uu u2
theorem CW.pf {tt ww : MM} {dd : WD} (h : CW tt dd) (hf : CPf tt ww) : CW ww dd := by
  unfold CW at h ⊢
  rw [hf.1 1 (by omega) (by omega) (by omega), hf.1 2 (by omega) (by omega) (by omega), hf.1 3 (by omega) (by omega) (by omega), hf.1 4 (by omega) (by omega) (by omega), hf.1 5 (by omega) (by omega) (by omega), hf.1 6 (by omega) (by omega) (by omega)]
  exact h
theorem RW.pf {uu ww : SR} {dd : WD} (h : RW uu dd) (hf : RPf uu ww) : RW ww dd := by
  unfold RW at h ⊢
  rw [hf.1 40 (by omega) (by omega), hf.1 41 (by omega) (by omega), hf.1 42 (by omega) (by omega), hf.1 43 (by omega) (by omega), hf.1 44 (by omega) (by omega), hf.2.1 4 (by omega) (by omega), hf.2.1 6 (by omega) (by omega), hf.2.1 7 (by omega) (by omega), hf.2.1 8 (by omega) (by omega)]
  exact h
theorem CW.s13 {tt : MM} {dd : WD} {jj : Nat} {vv : Int32} (h : CW tt dd) : CW (st1 tt 13 jj vv) dd := CW_stA h (by omega)
theorem RW.s39 {uu : SR} {dd : WD} {jj : Nat} {vv : Int32} (h : RW uu dd) (hj : jj ≠ 4 ∧ jj ≠ 6 ∧ jj ≠ 7 ∧ jj ≠ 8) : RW (sr1 uu 39 jj vv) dd := by
  unfold RW at h ⊢
  rw [sr1_ne (show 40 ≠ 39 by omega), sr1_ne (show 41 ≠ 39 by omega), sr1_ne (show 42 ≠ 39 by omega), sr1_ne (show 43 ≠ 39 by omega), sr1_ne (show 44 ≠ 39 by omega), sr1_o (show 4 ≠ jj by omega), sr1_o (show 6 ≠ jj by omega), sr1_o (show 7 ≠ jj by omega), sr1_o (show 8 ≠ jj by omega)]
  exact h
theorem TR_0 {tt : MM} {uu : SR} (h1 : tt 13 2 = 0) (h2 : uu.1 39 17 = 0) : TR tt uu := ⟨fun _ => 32, 0, ⟨by omega, fun jj hj => absurd hj (by omega)⟩, h1, fun jj hj => absurd hj (by omega), h2, fun jj hj => absurd hj (by omega)⟩
theorem R_sandP {uu : SR} {sd : Nat → Nat} {nn : Nat} (c6 : ∀ cc, cc < 12 → uu.1 44 cc = nI (sd cc)) (hn : 13 < nn) : ∃ ww, it2 (lb_X8_people_33 nn) nn (0 : Int32) uu = some ww ∧ RFr uu ww ∧ ∀ cc, cc < 12 → ww.1 45 cc = iI (sd cc : Int) := by
  obtain ⟨xx, h1, h2⟩ := it2_inv (bb := lb_X8_people_33 nn) (fun ii v1 ww => v1 = nI ii ∧ RFr uu ww ∧ ∀ cc, cc < ii → ww.1 45 cc = iI (sd cc : Int)) 12 (fun ww => RFr uu ww ∧ ∀ cc, cc < 12 → ww.1 45 cc = iI (sd cc : Int)) (by
    rintro ii v1 ww hle ⟨rfl, hF, hL⟩
    by_cases h : ii < 12
    · refine Or.inl ⟨h, ?_⟩
      have g1 : ¬ (12 : Int32) ≤ nI ii := nI_ge (b := 12) h (by omega)
      simp only [lb_X8_people_33, if_neg g1, ix_nI h (show 12 < 2 ^ 31 by omega), nI_clamp (show ii < 2 ^ 31 by omega), nm_eq, nI_1]
      refine ⟨_, _, rfl, rfl, hF.w45 _ _, fun cc hc => ?_⟩
      rw [sr1_at]
      by_cases h3 : cc = ii
      · subst h3
        rw [if_pos rfl, hF.1 44 (by omega) (by omega), c6 cc h, iI_nat]
      · rw [if_neg h3]
        exact hL cc (by omega)
    · refine Or.inr ?_
      have e : ii = 12 := by omega
      subst e
      have g1 : (12 : Int32) ≤ nI 12 := by decide
      simp only [lb_X8_people_33, if_pos g1]
      exact ⟨_, rfl, hF, hL⟩) nn 0 uu (by omega) ⟨rfl, RFr.rf, fun cc hc => absurd hc (by omega)⟩
  exact ⟨xx, h1, h2.1, h2.2⟩
theorem sand_ok {dd : WD} (hO : DOk dd) : ldOk (fun cc => (dsd dd cc : Int)) := by
  refine ⟨fun cc _ => by dsimp only; omega, ?_⟩
  have h3 := csum_const (xx := 99) (ff := fun cc => (dsd dd cc : Int)) 12 (fun jj hj => by have := hO.2.2.1 jj hj; omega)
  omega
def noD (dd : WD) : WD := (0, dk dd, dw dd, dp dd, dsn dd, dsd dd, dmi dd, dli dd)
theorem noD_fit (dd : WD) : ∀ cc, cc < 12 → fitB (noD dd) (whoAt (noD dd) cc) = true := by
  intro cc hc
  show fitB (noD dd) 0 = true
  unfold fitB ssum
  show (nsum (chf (noD dd) 0) 0 == 0 || (decide (0 < nsum (otf (noD dd) 0) 0) && nsum (gof (noD dd) 0) 0 == 0)) && decide (nsum (sf (noD dd) 0) 0 ≤ 3) = true
  simp [nsum]
theorem m_adds {t0 : MM} {u0 : SR} {dd : WD} {nn mm : Nat} (hC : CW t0 dd) (hR : RW u0 dd) (hO : DOk dd) (hm1 : 1 ≤ mm) (hm : mm ≤ 10) (hE : EN PPp mm t0 u0) (h19 : u0.1 39 19 = nI mm) (hn : 130 < nn) : ∃ t2 u2 d2, it2 (lb_X7_people_63 nn (nI mm)) nn (0 : Int32) (st1 t0 1 5 (0 : Int32)) = some t2 ∧ it2 (lb_X8_people_74 nn) nn (0 : Int32) (sr1 u0 39 4 (0 : Int32)) = some u2 ∧ WR t2 u2 d2 ∧ dN d2 = mm ∧ (∀ kk, ¬ (1 ≤ kk ∧ kk ≤ 5) → t2 kk = t0 kk) ∧ (∀ kk, ¬ (39 ≤ kk ∧ kk ≤ 43) → u2.1 kk = u0.1 kk) ∧ (∀ jj, jj ≠ 4 → u2.1 39 jj = u0.1 39 jj) := by
  have hC0 : CW (st1 t0 1 5 (0 : Int32)) (noD dd) := by
    obtain ⟨k1, k2, k3, k4, k5, k6, k7, k8⟩ := hC
    unfold CW
    rw [st1_ne (show 2 ≠ 1 by omega), st1_ne (show 3 ≠ 1 by omega), st1_ne (show 4 ≠ 1 by omega), st1_ne (show 5 ≠ 1 by omega), st1_ne (show 6 ≠ 1 by omega), st1_o (show 6 ≠ 5 by omega), st1_o (show 7 ≠ 5 by omega), st1_s]
    exact ⟨rfl, fun jj hj => absurd hj (Nat.not_lt_zero jj), fun jj hj => absurd hj (Nat.not_lt_zero jj), fun jj hj => absurd hj (Nat.not_lt_zero jj), fun jj hj => absurd hj (Nat.not_lt_zero jj), k6, k7, k8⟩
  have hR0 : RW (sr1 u0 39 4 (0 : Int32)) (noD dd) := by
    obtain ⟨k1, k2, k3, k4, k5, k6, k7, k8, k9⟩ := hR
    unfold RW
    rw [sr1_ne (show 40 ≠ 39 by omega), sr1_ne (show 41 ≠ 39 by omega), sr1_ne (show 42 ≠ 39 by omega), sr1_ne (show 43 ≠ 39 by omega), sr1_ne (show 44 ≠ 39 by omega), sr1_o (show 6 ≠ 4 by omega), sr1_o (show 7 ≠ 4 by omega), sr1_o (show 8 ≠ 4 by omega), sr1_s]
    exact ⟨rfl, fun jj hj => absurd hj (Nat.not_lt_zero jj), fun jj hj => absurd hj (Nat.not_lt_zero jj), fun jj hj => absurd hj (Nat.not_lt_zero jj), fun jj hj => absurd hj (Nat.not_lt_zero jj), k6, k7, k8, k9⟩
  obtain ⟨xx, yy, l1, l2, d5, hX⟩ := lock22 (bb := lb_X7_people_63 nn (nI mm)) (cc := lb_X8_people_74 nn) (fun ii v2 t2 w2 u2 => v2 = nI ii ∧ w2 = nI ii ∧ ∃ d2, WR t2 u2 d2 ∧ dN d2 = ii ∧ (∀ kk, ¬ (1 ≤ kk ∧ kk ≤ 5) → t2 kk = t0 kk) ∧ (∀ kk, ¬ (39 ≤ kk ∧ kk ≤ 43) → u2.1 kk = u0.1 kk) ∧ (∀ jj, jj ≠ 4 → u2.1 39 jj = u0.1 39 jj)) mm (fun xx yy => ∃ d2, WR xx yy d2 ∧ dN d2 = mm ∧ (∀ kk, ¬ (1 ≤ kk ∧ kk ≤ 5) → xx kk = t0 kk) ∧ (∀ kk, ¬ (39 ≤ kk ∧ kk ≤ 43) → yy.1 kk = u0.1 kk) ∧ (∀ jj, jj ≠ 4 → yy.1 39 jj = u0.1 39 jj)) (by
    rintro ii v2 t2 w2 u2 hle ⟨rfl, rfl, d2, ⟨hC2, hR2, hO2, hf2⟩, hN, f1, f2, f3⟩
    have k19 : u2.1 39 19 = nI mm := (f3 19 (by omega)).trans h19
    by_cases q : ii < mm
    · left
      obtain ⟨p1, p2, ⟨kd, p3, p4⟩, wt, p5, p6, p7⟩ := hE ii q
      have e15 : t2 15 ii = nI kd := by rw [f1 15 (by omega)]; exact p4
      have e16 : t2 16 ii = nI wt := by rw [f1 16 (by omega)]; exact p7
      have e47 : u2.1 47 (2 * ii) = nI kd := by rw [f2 47 (by omega), ← p1]; exact p4
      have e48 : u2.1 47 (2 * ii + 1) = nI wt := by rw [f2 47 (by omega), ← p2]; exact p7
      obtain ⟨t3, a1, a2, a3⟩ := C_add (kd := kd) (wt := wt) hC2 (by omega)
      obtain ⟨u3, b1', b2', b3', b4', b5'⟩ := R_add (kd := kd) (wt := wt) hR2 (by omega)
      refine ⟨q, nI (ii + 1), t3, nI (ii + 1), u3, ?_, ?_, rfl, rfl, addD d2 kd wt, ⟨a2, b2', addD_Ok hO2 (by omega) p3 ⟨p5, p6⟩, fits_add kd wt hf2⟩, ?_, fun kk hk => (a3 kk hk).trans (f1 kk hk), fun kk hk => (b3' kk hk).trans (f2 kk hk), fun jj hj => (b4' jj hj).trans (f3 jj hj)⟩
      · unfold lb_X7_people_63
        rw [if_neg (nI_ge q (by omega)), ix_nI (show ii < 64 by omega) (by omega), ix_nI (show ii < 64 by omega) (by omega), nI_clamp (show ii < 2 ^ 31 by omega), e15, e16, a1, b1_eq, nm_eq, nI_1]
      · unfold lb_X8_people_74
        rw [k19, if_neg (nI_ge q (by omega)), two_mul', nI_1, ix_nI (show 2 * ii < 240 by omega) (by omega), ix_nI (show 2 * ii + 1 < 240 by omega) (by omega), nI_clamp (show 2 * ii < 2 ^ 31 by omega), nI_clamp (show 2 * ii + 1 < 2 ^ 31 by omega), e47, e48, b1', b1_eq, nm_eq, nI_1]
      · show dN d2 + 1 = ii + 1
        omega
    · right
      have e : ii = mm := by omega
      subst e
      refine ⟨t2, u2, fun kk hk => it2_out ?_ kk (by omega), fun kk hk => it2_out ?_ kk (by omega), d2, ⟨hC2, hR2, hO2, hf2⟩, hN, f1, f2, f3⟩
      · unfold lb_X7_people_63
        rw [if_pos (nI_le (Nat.le_refl _) (by omega))]
      · unfold lb_X8_people_74
        rw [k19, if_pos (nI_le (Nat.le_refl _) (by omega))]) nn 0 (st1 t0 1 5 (0 : Int32)) 0 (sr1 u0 39 4 (0 : Int32)) (by omega) ⟨rfl, rfl, noD dd, ⟨hC0, hR0, ⟨by show 0 ≤ 10; omega, fun jj hj => absurd hj (Nat.not_lt_zero jj), hO.2.2.1, hO.2.2.2.1, hO.2.2.2.2⟩, noD_fit dd⟩, rfl, fun kk hk => by rw [st1_ne (by omega)], fun kk hk => by rw [sr1_ne (by omega)], fun jj hj => by rw [sr1_o hj]⟩
  exact ⟨xx, yy, d5, l1, l2, hX⟩
