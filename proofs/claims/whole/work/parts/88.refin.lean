/-! all in: the reference's small methods -/
def RSf (uu ww : SR) : Prop := (∀ kk, kk ≠ 39 → kk ≠ 45 → ¬ (48 ≤ kk ∧ kk ≤ 50) → ww.1 kk = uu.1 kk) ∧ (∀ jj, ¬ (10 ≤ jj ∧ jj ≤ 13) → jj ≠ 24 → ww.1 39 jj = uu.1 39 jj)
theorem RSf.rf {uu : SR} : RSf uu uu := ⟨fun _ _ _ _ => rfl, fun _ _ _ => rfl⟩
theorem RSf.tr {uu vv ww : SR} (h1 : RSf uu vv) (h2 : RSf vv ww) : RSf uu ww := ⟨fun kk a1 a2 a3 => (h2.1 kk a1 a2 a3).trans (h1.1 kk a1 a2 a3), fun jj a1 a2 => (h2.2 jj a1 a2).trans (h1.2 jj a1 a2)⟩
theorem RFr.sf {uu ww : SR} (h : RFr uu ww) : RSf uu ww := ⟨fun kk a1 a2 _ => h.1 kk a1 a2, fun jj a1 _ => h.2.1 jj a1⟩
theorem RSf.s4 {uu ww : SR} {kk jj : Nat} {vv : Int32} (h : RSf uu ww) (hk : 48 ≤ kk ∧ kk ≤ 50) : RSf uu (sr1 ww kk jj vv) := ⟨fun xx a1 a2 a3 => by rw [sr1_ne (by omega)]; exact h.1 xx a1 a2 a3, fun xx a1 a2 => by rw [sr1_ne (by omega)]; exact h.2 xx a1 a2⟩
theorem RSf.s24 {uu ww : SR} {vv : Int32} (h : RSf uu ww) : RSf uu (sr1 ww 39 24 vv) := ⟨fun xx a1 a2 a3 => by rw [sr1_ne a1]; exact h.1 xx a1 a2 a3, fun xx a1 a2 => by rw [sr1_o a2]; exact h.2 xx a1 a2⟩
theorem RW.sf {uu ww : SR} {dd : WD} (h : RW uu dd) (hf : RSf uu ww) : RW ww dd := by
  unfold RW at h ⊢
  rw [hf.1 40 (by omega) (by omega) (by omega), hf.1 41 (by omega) (by omega) (by omega), hf.1 42 (by omega) (by omega) (by omega), hf.1 43 (by omega) (by omega) (by omega), hf.1 44 (by omega) (by omega) (by omega), hf.2 4 (by omega) (by omega), hf.2 6 (by omega) (by omega), hf.2 7 (by omega) (by omega), hf.2 8 (by omega) (by omega)]
  exact h
theorem RX.sf {uu ww : SR} {dd : WD} (h : RX uu dd) (hf : RSf uu ww) : RX ww dd := by
  unfold RX at h ⊢
  rw [hf.1 40 (by omega) (by omega) (by omega), hf.1 41 (by omega) (by omega) (by omega), hf.1 42 (by omega) (by omega) (by omega), hf.1 44 (by omega) (by omega) (by omega), hf.2 4 (by omega) (by omega), hf.2 6 (by omega) (by omega), hf.2 7 (by omega) (by omega), hf.2 8 (by omega) (by omega)]
  exact h
theorem RSf.rest {uu ww : SR} (h : RSf uu ww) : RRest uu ww := ⟨fun kk hk => h.1 kk (by omega) (by omega) (by omega), h.2 17 (by omega) (by omega), h.2 29 (by omega) (by omega)⟩
theorem cnt_tail {pp : Nat → Bool} {mm : Nat} (h : ∀ jj, mm ≤ jj → pp jj = false) : ∀ nn, mm ≤ nn → fa_cnt pp nn = fa_cnt pp mm := by
  intro nn
  induction nn with
  | zero => intro z; rw [show mm = 0 by omega]
  | succ nn ih =>
    intro z
    by_cases q : mm = nn + 1
    · rw [q]
    · rw [fa_cnt_no (h nn (by omega))]
      exact ih (by omega)
theorem rn_N {dd : WD} {st : Nat} (hW : WT dd st) (hO : DOk dd) : rn st (dN dd) = rn st 10 := by
  have h10 := hO.1
  unfold rn
  exact (cnt_tail (pp := fun jj => st.testBit jj) (mm := dN dd) (fun jj hj => by
    cases hb : st.testBit jj
    · rfl
    · have := (hW.2 jj hb).1
      omega) 10 h10).symm
/-- who is asked for, as a row; their minutes -/
def WH (st : Nat) (ww : SR) : Prop := ww.1 39 24 = nI (rn st 10) ∧ ∀ kk, kk < rn st 10 → ww.1 48 kk = nI (pk st kk)
def TM (st : Nat) (ww : SR) (ta : Nat → Nat) : Prop := ∀ kk, kk < rn st 10 → ta kk < 12 ∧ ww.1 49 kk = nI (ta kk)
theorem R_list {uu : SR} {dd : WD} {st nn : Nat} {v2 : Int32} (hX : RX uu dd) (hO : DOk dd) (hW : WT dd st) (h4 : rn st 10 ≤ 4) (hn : 20 < nn) : ∃ u2, it2 (lb_X8_findSoonest_7 nn (nI st) v2) nn (0 : Int32) (sr1 uu 39 24 (0 : Int32)) = some u2 ∧ RSf uu u2 ∧ WH st u2 ∧ TM st u2 (fun _ => 0) := by
  have h10 := hO.1
  have hs := hW.1
  obtain ⟨u2, h1, hF, h24, harr⟩ := it2_inv (bb := lb_X8_findSoonest_7 nn (nI st) v2) (fun kx v3 ww => v3 = nI kx ∧ RSf uu ww ∧ ww.1 39 24 = nI (rn st kx) ∧ ∀ kk, kk < rn st kx → ww.1 48 kk = nI (pk st kk) ∧ ww.1 49 kk = nI 0) (dN dd) (fun ww => RSf uu ww ∧ ww.1 39 24 = nI (rn st (dN dd)) ∧ ∀ kk, kk < rn st (dN dd) → ww.1 48 kk = nI (pk st kk) ∧ ww.1 49 kk = nI 0) (by
    rintro kx v3 ww hle ⟨rfl, hF, h24, harr⟩
    have k1 : ww.1 39 4 = nI (dN dd) := (hX.sf hF).1
    unfold lb_X8_findSoonest_7
    by_cases q : kx < dN dd
    · rw [k1, if_neg (nI_ge q (by omega)), R_has (by omega) (show kx < 31 by omega), b1_eq, if01]
      by_cases q2 : st.testBit kx = true
      · have er : rn st (kx + 1) = rn st kx + 1 := fa_cnt_yes (p := fun jj => st.testBit jj) q2
        have hr : rn st kx < rn st 10 := rn_lt (by omega) q2
        have hpk := pk_rn hs q2
        simp only [if_pos q2, h24, ix_nI (show rn st kx < 4 by omega) (show 4 < 2 ^ 31 by omega), nI_clamp (show rn st kx < 2 ^ 31 by omega), nm_eq, sr1_ne (show 39 ≠ 48 by omega), sr1_ne (show 39 ≠ 49 by omega), nI_1]
        refine Or.inl ⟨q, _, _, rfl, rfl, ((hF.s4 (by omega)).s4 (by omega)).s24, by rw [sr1_s, er], fun kk hk => ?_⟩
        rw [sr1_ne (by omega), sr1_ne (by omega), sr1_at, sr1_ne (show 49 ≠ 39 by omega), sr1_at, sr1_ne (show 49 ≠ 48 by omega)]
        by_cases q3 : kk = rn st kx
        · rw [if_pos q3, if_pos q3, q3, hpk]
          exact ⟨rfl, rfl⟩
        · rw [if_neg q3, if_neg q3]
          exact harr kk (by omega)
      · have er : rn st (kx + 1) = rn st kx := fa_cnt_no (p := fun jj => st.testBit jj) (by simpa using q2)
        rw [if_neg q2, nm_eq, nI_1]
        exact Or.inl ⟨q, _, _, rfl, rfl, hF, by rw [er]; exact h24, fun kk hk => harr kk (by omega)⟩
    · have e : kx = dN dd := by omega
      subst e
      rw [k1, if_pos (nI_le (Nat.le_refl _) (by omega))]
      exact Or.inr ⟨_, rfl, hF, h24, harr⟩) nn 0 (sr1 uu 39 24 (0 : Int32)) (by omega) ⟨rfl, RSf.rf.s24, by rw [sr1_s]; rfl, fun kk hk => absurd hk (by simp [rn, fa_cnt])⟩
  rw [rn_N hW hO] at h24 harr
  exact ⟨u2, h1, hF, ⟨h24, fun kk hk => (harr kk hk).1⟩, fun kk hk => ⟨show 0 < 12 by omega, (harr kk hk).2⟩⟩
theorem R_last {ww : SR} {st nn : Nat} {ta : Nat → Nat} {v2 v3 : Int32} (h4 : rn st 10 ≤ 4) (hH : WH st ww) (hT : TM st ww ta) (hn : 20 < nn) : it2 (lb_X8_findSoonest_76 nn ww v2 v3) nn (0 : Int32) (0 : Int32) = some (nI (mxN ta (rn st 10))) := by
  obtain ⟨xx, h1, h2⟩ := it2_inv (bb := lb_X8_findSoonest_76 nn ww v2 v3) (fun kx v5 v6 => v5 = nI (mxN ta kx) ∧ v6 = nI kx) (rn st 10) (fun xx => xx = nI (mxN ta (rn st 10))) (by
    rintro kx v5 v6 hle ⟨rfl, rfl⟩
    unfold lb_X8_findSoonest_76
    by_cases q : kx < rn st 10
    · obtain ⟨t1, t2⟩ := hT kx q
      have hmx : mxN ta kx ≤ 11 := mx_le kx (fun jj hj => by have := (hT jj (by omega)).1; omega)
      rw [hH.1, if_neg (nI_ge q (by omega)), ix_nI (show kx < 4 by omega) (by omega), ix_nI (show kx < 4 by omega) (by omega), nI_clamp (show kx < 2 ^ 31 by omega), t2]
      by_cases q2 : ta kx ≤ mxN ta kx
      · rw [if_pos (nI_le q2 (by omega)), nm_eq, nI_1]
        exact Or.inl ⟨q, _, _, rfl, by rw [mxN, if_pos q2], rfl⟩
      · rw [if_neg (nI_ge (by omega) (by omega)), nm_eq, nm_eq, nI_1]
        exact Or.inl ⟨q, _, _, rfl, by rw [mxN, if_neg q2], rfl⟩
    · have e : kx = rn st 10 := by omega
      subst e
      rw [hH.1, if_pos (nI_le (Nat.le_refl _) (by omega))]
      exact Or.inr ⟨_, rfl, rfl⟩) nn 0 0 (by omega) ⟨rfl, rfl⟩
  rw [h1, h2]
theorem R_areSo {ww : SR} {st how nn : Nat} {ta : Nat → Nat} (h1 : 1 ≤ rn st 10) (h4 : rn st 10 ≤ 4) (hh : how ≤ 2) (hH : WH st ww) (hT : TM st ww ta) (hn : 20 < nn) : ∃ vv, f_X8_areSo nn ww (nI how) = some vv ∧ b01 (arP how ta (rn st 10)) vv := by
  obtain ⟨xx, g1, g2⟩ := it2_inv (bb := lb_X8_areSo_4 nn ww (nI how)) (fun kx v2 v3 => b01 (arP how ta (kx + 1)) v2 ∧ v3 = nI (kx + 1) ∧ kx + 1 ≤ rn st 10) (rn st 10) (fun xx => b01 (arP how ta (rn st 10)) xx) (by
    rintro kx v2 v3 hle ⟨hb, rfl, hk⟩
    unfold lb_X8_areSo_4
    by_cases q : kx + 1 < rn st 10
    · obtain ⟨t1, t2⟩ := hT (kx + 1) q
      obtain ⟨t3, t4⟩ := hT kx (by omega)
      have em : nI (kx + 1) - (1 : Int32) = nI kx := nI_pred kx
      have step : ∀ pp : Prop, (rel how (ta kx) (ta (kx + 1)) ↔ pp) → (arP how ta (kx + 1 + 1) ↔ (arP how ta (kx + 1) ∧ pp)) := by
        intro pp e
        rw [← e]
        constructor
        · intro z
          refine ⟨fun kk k1 k2 => z kk k1 (by omega), ?_⟩
          have := z (kx + 1) (by omega) (by omega)
          rw [show kx + 1 - 1 = kx by omega] at this
          exact this
        · rintro ⟨z1, z2⟩ kk k1 k2
          by_cases y : kk = kx + 1
          · rw [y, show kx + 1 - 1 = kx by omega]
            exact z2
          · exact z1 kk k1 (by omega)
      rw [hH.1, if_neg (nI_ge q (by omega)), em, ix_nI (show kx + 1 < 4 by omega) (by omega), ix_nI (show kx < 4 by omega) (by omega), ix_nI (show kx + 1 < 4 by omega) (by omega), ix_nI (show kx < 4 by omega) (by omega), nI_clamp (show kx + 1 < 2 ^ 31 by omega), nI_clamp (show kx < 2 ^ 31 by omega), t2, t4]
      simp only [nm_eq, nI_1]
      rcases hb with ⟨hb, rfl⟩ | ⟨hb, rfl⟩
      · rw [if_neg n10']
        rcases (show how = 0 ∨ how = 1 ∨ how = 2 by omega) with rfl | rfl | rfl
        · rw [if_pos (show nI 0 = (0 : Int32) from rfl)]
          exact Or.inl ⟨by omega, _, _, rfl, Or.inl ⟨(step True (by unfold rel; simp)).mpr ⟨hb, trivial⟩, rfl⟩, rfl, by omega⟩
        · have es := step (ta kx ≤ ta (kx + 1)) (by unfold rel; omega)
          rw [if_neg (show ¬ nI 1 = (0 : Int32) by decide), if_pos (show nI 1 = (1 : Int32) from rfl)]
          by_cases q2 : ta (kx + 1) < ta kx
          · rw [if_pos (nI_lt q2 (by omega))]
            exact Or.inl ⟨by omega, _, _, rfl, Or.inr ⟨fun z => by have := (es.mp z).2; omega, rfl⟩, rfl, by omega⟩
          · rw [if_neg (nI_nlt (by omega) (by omega))]
            exact Or.inl ⟨by omega, _, _, rfl, Or.inl ⟨es.mpr ⟨hb, by omega⟩, rfl⟩, rfl, by omega⟩
        · have es := step (ta kx = ta (kx + 1)) (by unfold rel; omega)
          rw [if_neg (show ¬ nI 2 = (0 : Int32) by decide), if_neg (show ¬ nI 2 = (1 : Int32) by decide)]
          by_cases q2 : ta (kx + 1) = ta kx
          · rw [if_pos (show nI (ta (kx + 1)) = nI (ta kx) by rw [q2])]
            exact Or.inl ⟨by omega, _, _, rfl, Or.inl ⟨es.mpr ⟨hb, q2.symm⟩, rfl⟩, rfl, by omega⟩
          · rw [if_neg (show ¬ nI (ta (kx + 1)) = nI (ta kx) from fun z => q2 ((nI_eq (by omega) (by omega)).mp z))]
            exact Or.inl ⟨by omega, _, _, rfl, Or.inr ⟨fun z => q2 (es.mp z).2.symm, rfl⟩, rfl, by omega⟩
      · rw [if_pos rfl]
        exact Or.inl ⟨by omega, _, _, rfl, Or.inr ⟨fun z => hb (fun kk k1 k2 => z kk k1 (by omega)), rfl⟩, rfl, by omega⟩
    · have e : kx + 1 = rn st 10 := by omega
      rw [hH.1, e, if_pos (nI_le (Nat.le_refl _) (by omega))]
      rw [e] at hb
      exact Or.inr ⟨_, rfl, hb⟩) nn 1 1 (by omega) ⟨Or.inl ⟨fun kk k1 k2 => by omega, rfl⟩, rfl, h1⟩
  refine ⟨xx, ?_, g2⟩
  unfold f_X8_areSo
  rw [show it2 (lb_X8_areSo_4 nn ww (nI how)) nn (1 : Int32) (1 : Int32) = some xx from g1, b1_eq]
  rcases g2 with ⟨_, rfl⟩ | ⟨_, rfl⟩ <;> rfl
