/-! empty -/
theorem R_emp0 {uu : SR} {nn rr : Nat} (hr : rr < 1024) (hn : 1100 < nn) : ∃ u2, it2 (lb_X8_empty_8 nn (nI rr)) nn (0 : Int32) uu = some u2 ∧ REf uu u2 ∧ RT2 1024 51 u2 (fun ss => ss = rr) :=
  it2_inv (bb := lb_X8_empty_8 nn (nI rr)) (fun kx v2 u2 => v2 = nI kx ∧ REf uu u2 ∧ RT2 kx 51 u2 (fun ss => ss = rr)) 1024 (fun u2 => REf uu u2 ∧ RT2 1024 51 u2 (fun ss => ss = rr)) (by
    rintro kx v2 u2 hle ⟨rfl, hF, hT⟩
    unfold lb_X8_empty_8
    by_cases q : kx < 1024
    · rw [if_neg (show ¬ (1024 : Int32) ≤ nI kx from nI_ge (b := 1024) q (by omega)), ix_nI q (by omega), ix_nI q (by omega), nI_clamp (show kx < 2 ^ 31 by omega), nb0, nb1]
      by_cases q2 : kx = rr
      · rw [if_pos (show nI kx = nI rr by rw [q2]), nm_eq, nm_eq, nI_1]
        refine Or.inl ⟨q, _, _, rfl, rfl, hF.s5 (Or.inl rfl), fun ss hss => ?_⟩
        by_cases z : ss = kx
        · rw [z, sr1_s]; exact Or.inl ⟨q2, rfl⟩
        · rw [sr1_o z]; exact hT ss (by omega)
      · rw [if_neg (show ¬ nI kx = nI rr from fun z => q2 ((nI_eq (by omega) (by omega)).mp z)), nm_eq, nm_eq, nI_1]
        refine Or.inl ⟨q, _, _, rfl, rfl, hF.s5 (Or.inl rfl), fun ss hss => ?_⟩
        by_cases z : ss = kx
        · rw [z, sr1_s]; exact Or.inr ⟨q2, rfl⟩
        · rw [sr1_o z]; exact hT ss (by omega)
    · have e : kx = 1024 := by omega
      subst e
      rw [if_pos (show (1024 : Int32) ≤ nI 1024 by decide)]
      exact Or.inr ⟨_, rfl, hF, hT⟩) nn 0 uu (by omega) ⟨rfl, REf.rf, fun ss hss => absurd hss (by omega)⟩
theorem sb_0 {aa : Nat} : sb 0 aa := fun ii h => by
  rw [Nat.zero_testBit] at h
  exact absurd h (by decide)
theorem m_empty {tt : MM} {uu : SR} {dd : WD} {nn : Nat} (h : WR tt uu dd) (hn : 1100 < nn) : Good tt uu (f_X7_empty nn tt) (f_X8_empty nn uu) := by
  have h0 := h
  obtain ⟨hC, hR, hO, hfit⟩ := h
  have hr := ridS_lt hO
  have h10 := hO.1
  have hM : 2 ^ dN dd ≤ 2 ^ 10 := Nat.pow_le_pow_right (by decide) h10
  have hM2 : (2 : Nat) ^ 10 = 1024 := by decide
  have hM3 := Nat.two_pow_pos (dN dd)
  obtain ⟨t1, a1, f1, z1⟩ := C_few0 (tt := tt) (nn := nn) hr hn
  have hC1 : CW (st1 t1 22 (ridS dd) (1 : Int32)) dd := by
    unfold CW
    rw [st1_ne (show 1 ≠ 22 by omega), st1_ne (show 2 ≠ 22 by omega), st1_ne (show 3 ≠ 22 by omega), st1_ne (show 4 ≠ 22 by omega), st1_ne (show 5 ≠ 22 by omega), st1_ne (show 6 ≠ 22 by omega), f1 1 (by omega), f1 2 (by omega), f1 3 (by omega), f1 4 (by omega), f1 5 (by omega), f1 6 (by omega)]
    exact hC
  obtain ⟨g1, a2, B1⟩ := C_wSand (kb := 20) hC1 (show 13 < nn by omega) (by omega)
  obtain ⟨t0, et0⟩ : ∃ t0, t0 = stA (st1 t1 22 (ridS dd) (1 : Int32)) 20 g1 := ⟨_, rfl⟩
  rw [← et0] at a2
  have hC0 : CW t0 dd := by rw [et0]; exact CW_stA hC1 (by omega)
  have h20 : BalF (t0 20) (fun ce => (dsd dd ce : Int)) := by rw [et0, stA_same]; exact B1
  have f0 : ∀ jj, jj ≠ 20 → jj ≠ 22 → t0 jj = tt jj := fun jj k1 k2 => by rw [et0, stA_ne _ _ k1, st1_ne k2]; exact f1 jj k2
  have e22 : ∀ ss, ss ≤ ridS dd → t0 22 ss = if ss = ridS dd then 1 else 0 := fun ss hss => by
    rw [et0, stA_ne _ _ (by omega), st1_at]
    by_cases q : ss = ridS dd
    · rw [if_pos q, if_pos q]
    · rw [if_neg q, if_neg q]; exact z1 ss hss
  have hN0 : ∀ ss, ss ≤ ridS dd → ¬ sb ss (ridS dd) → t0 22 ss = 0 := fun ss k1 k2 => by
    rw [e22 ss k1, if_neg (fun z => k2 (by rw [z]; exact sb.rf))]
  have hS0 : SV dd (canS dd 0) (t0 22) := by
    refine ⟨fun ss hs => ?_, fun ss hs => ?_, fun ss hs he => ?_⟩
    · rw [e22 ss hs.le]
      by_cases q : ss = ridS dd
      · rw [if_pos q]; exact Or.inr (Or.inl rfl)
      · rw [if_neg q]; exact Or.inl rfl
    · rw [e22 ss hs.le]
      by_cases q : ss = ridS dd
      · rw [if_pos q]; exact ⟨fun _ => q, fun _ => rfl⟩
      · rw [if_neg q]; exact ⟨fun z => absurd z (by decide), fun z => absurd z q⟩
    · rw [e22 ss hs.le] at he
      by_cases q : ss = ridS dd
      · rw [if_pos q] at he; exact absurd he (by decide)
      · rw [if_neg q] at he; exact absurd he (by decide)
  obtain ⟨u0, d1, F0', T0⟩ := R_emp0 (uu := uu) (nn := nn) hr hn
  have hX0 : RX u0 dd := hR.x.ef F0'
  have hAL := AL_can (dd := dd) hfit
  have hix0 : ∀ {B : Type} (aa : Option B), ix (0 : Int32) 1024 aa = aa := fun {B} aa => ix_nI (ii := 0) (by omega) (by omega)
  have e00 : (0 : Int32).toNatClampNeg = 0 := by decide
  have hft := ft_lt dd
  obtain ⟨xx, yy, l1, l2, t2, u2, f2, F2', hxy⟩ := lock22 (bb := lb_X1_fewestMinutes_48 nn (nI (ridS dd))) (cc := lb_X8_empty_39 nn) (fun mm v2 t2 w2 u2 => v2 = nI mm ∧ w2 = nI mm ∧ (∀ jj, jj ≠ 21 → jj ≠ 22 → t2 jj = t0 jj) ∧ (∀ ss, ss ≤ ridS dd → ¬ sb ss (ridS dd) → t2 22 ss = 0) ∧ SV dd (canS dd mm) (t2 22) ∧ REf u0 u2 ∧ RT2 (2 ^ dN dd) 51 u2 (canS dd mm)) 24 (fun xx yy => ∃ t2 u2, (∀ jj, jj ≠ 21 → jj ≠ 22 → t2 jj = t0 jj) ∧ REf u0 u2 ∧ ((∃ vv, xx = .inl (vv, t2) ∧ yy = .inl (vv, u2)) ∨ (xx = .inr t2 ∧ yy = .inr u2))) (by
    rintro mm v2 t2 w2 u2 hle ⟨rfl, rfl, g1, hN, hS, hF, hT⟩
    by_cases q : mm < 24
    · have hcc : (ft dd + mm) % 12 < 12 := Nat.mod_lt _ (by decide)
      have hC2 : CW t2 dd := by
        unfold CW
        rw [g1 1 (by omega) (by omega), g1 2 (by omega) (by omega), g1 3 (by omega) (by omega), g1 4 (by omega) (by omega), g1 5 (by omega) (by omega), g1 6 (by omega) (by omega)]
        exact hC0
      obtain ⟨t3, c1, g3, hN3, hS3⟩ := C_step (nn := nn) (cc := (ft dd + mm) % 12) hC2 hO (by rw [g1 20 (by omega) (by omega)]; exact h20) hcc (hAL mm) hN hS hn
      have hS3 : SV dd (canS dd (mm + 1)) (t3 22) := hS3
      have g4 : ∀ jj, jj ≠ 21 → jj ≠ 22 → t3 jj = t0 jj := fun jj k1 k2 => (g3 jj k1 k2).trans (g1 jj k1 k2)
      have hX2 := hX0.ef hF
      obtain ⟨u3, d3, F3', T3⟩ := R_getOut (nn := nn) (hr := whoAt dd ((ft dd + mm) % 12)) hX2 hO (hAL mm).1 hT hn
      have T3 : RT2 (2 ^ dN dd) 51 u3 (canS dd (mm + 1)) := T3
      have erem : (nI (ft dd) + nI mm) - (nI (ft dd) + nI mm) / (12 : Int32) * (12 : Int32) = nI ((ft dd + mm) % 12) := by
        rw [nI_add]
        exact pk_rem (a := ft dd + mm) (d := 12) (by omega) (by omega) (by omega)
      have bodyC : lb_X1_fewestMinutes_48 nn (nI (ridS dd)) (nI mm) t2 = if t3 22 0 = (1 : Int32) then some (.inl (.inl (nI mm, t3))) else some (.inr (nI (mm + 1), t3)) := by
        unfold lb_X1_fewestMinutes_48
        rw [if_neg (show ¬ (23 : Int32) < nI mm from nI_nlt (a := 23) (by omega) (by omega)), C_foot hC2 hO, b1_eq, erem, c1, b1_eq, hix0, e00, nm_eq, nI_1]
      have body6 : f_X8_empty_60_in39 nn u2 (nI mm) = if u3.1 51 0 = 0 then some (.inr (nI (mm + 1), u3)) else some (.inl (.inl (nI mm, u3))) := by
        unfold f_X8_empty_60_in39
        rw [show u2.1 39 8 = nI (ft dd) from hX2.2.2.2.2.2.2.2.2, erem, R_who hX2 hO (by omega) (by omega), b1_eq, d3, b1_eq, hix0, e00, nm_eq, nI_1]
      have bodyR : lb_X8_empty_39 nn (nI mm) u2 = if nI mm = (0 : Int32) then (if u2.1 51 0 = 0 then f_X8_empty_60_in39 nn u2 (nI mm) else some (.inl (.inl ((0 : Int32), u2)))) else f_X8_empty_60_in39 nn u2 (nI mm) := by
        unfold lb_X8_empty_39
        rw [if_neg (show ¬ (24 : Int32) ≤ nI mm from nI_ge (b := 24) q (by omega)), hix0, e00]
      have hz := hS3.2.1 0 sb_0
      have tz := T3 0 hM3
      by_cases q1 : canS dd (mm + 1) 0
      · rw [if_pos (hz.mpr q1)] at bodyC
        have t51 : ¬ u3.1 51 0 = 0 := by
          rcases tz with ⟨_, z⟩ | ⟨z, _⟩
          · rw [z]; decide
          · exact absurd q1 z
        rw [if_neg t51] at body6
        right
        by_cases q2 : mm = 0
        · subst q2
          rw [if_pos (show nI 0 = (0 : Int32) from rfl)] at bodyR
          by_cases q3 : u2.1 51 0 = 0
          · rw [if_pos q3, body6] at bodyR
            exact ⟨_, _, fun kk hk => it2_out bodyC kk (by omega), fun kk hk => it2_out bodyR kk (by omega), t3, u3, g4, hF.tr F3', Or.inl ⟨_, rfl, rfl⟩⟩
          · rw [if_neg q3] at bodyR
            exact ⟨_, _, fun kk hk => it2_out bodyC kk (by omega), fun kk hk => it2_out bodyR kk (by omega), t3, u2, g4, hF, Or.inl ⟨_, rfl, rfl⟩⟩
        · rw [if_neg (show ¬ nI mm = (0 : Int32) from nI_ne0 (by omega) (by omega)), body6] at bodyR
          exact ⟨_, _, fun kk hk => it2_out bodyC kk (by omega), fun kk hk => it2_out bodyR kk (by omega), t3, u3, g4, hF.tr F3', Or.inl ⟨_, rfl, rfl⟩⟩
      · rw [if_neg (fun z => q1 (hz.mp z))] at bodyC
        have t51 : u3.1 51 0 = 0 := by
          rcases tz with ⟨z, _⟩ | ⟨_, z⟩
          · exact absurd z q1
          · exact z
        rw [if_pos t51] at body6
        have c51 : u2.1 51 0 = 0 := by
          rcases hT 0 hM3 with ⟨z, _⟩ | ⟨_, z⟩
          · exact absurd (Or.inl z) q1
          · exact z
        rw [if_pos c51, body6, ite_self] at bodyR
        left
        exact ⟨q, _, _, _, _, bodyC, bodyR, rfl, rfl, g4, hN3, hS3, hF.tr F3', T3⟩
    · right
      have e : mm = 24 := by omega
      subst e
      refine ⟨.inr t2, .inr u2, fun kk hk => it2_out ?_ kk (by omega), fun kk hk => it2_out ?_ kk (by omega), t2, u2, g1, hF, Or.inr ⟨rfl, rfl⟩⟩
      · unfold lb_X1_fewestMinutes_48
        rw [if_pos (show (23 : Int32) < nI 24 by decide)]
      · unfold lb_X8_empty_39
        rw [if_pos (show (24 : Int32) ≤ nI 24 by decide)]) nn 0 t0 0 u0 (by omega) ⟨rfl, rfl, fun _ _ _ => rfl, hN0, hS0, REf.rf, fun ss hss => T0 ss (by omega)⟩
  have hC2 : CW t2 dd := by
    unfold CW
    rw [f2 1 (by omega) (by omega), f2 2 (by omega) (by omega), f2 3 (by omega) (by omega), f2 4 (by omega) (by omega), f2 5 (by omega) (by omega), f2 6 (by omega) (by omega)]
    exact hC0
  have hcr : CRest tt t2 := ⟨fun kk hk => by
    unfold CK at hk
    rw [f2 kk (by omega) (by omega), f0 kk (by omega) (by omega)], by rw [f2 13 (by omega) (by omega), f0 13 (by omega) (by omega)]⟩
  have hF := F0'.tr F2'
  have hW : WR t2 u2 dd := ⟨hC2, hR.ef hF, hO, hfit⟩
  unfold f_X7_empty f_X1_fewestMinutes f_X8_empty
  rw [C_rides hC hO (by omega), b1_eq, a1, b1_eq, ix_nI hr (by omega), nI_clamp (show ridS dd < 2 ^ 31 by omega), nm_eq, a2, b1_eq, R_count4 hR.x hO (by omega), b1_eq, d1, b1_eq, l1, show it2 (lb_X8_empty_39 nn) nn (0 : Int32) u0 = some yy from l2]
  rcases hxy with ⟨vv, rfl, rfl⟩ | ⟨rfl, rfl⟩
  · exact ⟨vv, t2, u2, dd, rfl, rfl, hW, hcr, hF.rest⟩
  · exact ⟨-4, t2, u2, dd, rfl, rfl, hW, hcr, hF.rest⟩
