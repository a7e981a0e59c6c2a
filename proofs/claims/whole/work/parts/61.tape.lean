/-! the tape: the next byte, letters, numbers -/
theorem lock22 {A1 A2 C1 C2 X Y : Type} {bb : A1 → A2 → Option (X ⊕ (A1 × A2))} {cc : C1 → C2 → Option (Y ⊕ (C1 × C2))} (II : Nat → A1 → A2 → C1 → C2 → Prop) (ee : Nat) (PX : X → Y → Prop) (hstep : ∀ ii a1 a2 c1 c2, ii ≤ ee → II ii a1 a2 c1 c2 → (ii < ee ∧ ∃ p1 p2 q1 q2, bb a1 a2 = some (.inr (p1, p2)) ∧ cc c1 c2 = some (.inr (q1, q2)) ∧ II (ii + 1) p1 p2 q1 q2) ∨ (∃ xx yy, (∀ kk, 3 ≤ kk → it2 bb kk a1 a2 = some xx) ∧ (∀ kk, 3 ≤ kk → it2 cc kk c1 c2 = some yy) ∧ PX xx yy)) : ∀ nn a1 a2 c1 c2, ee + 3 ≤ nn → II 0 a1 a2 c1 c2 → ∃ xx yy, it2 bb nn a1 a2 = some xx ∧ it2 cc nn c1 c2 = some yy ∧ PX xx yy := by
  have key : ∀ (mm ii : Nat) a1 a2 c1 c2, ii + mm = ee → II ii a1 a2 c1 c2 → ∀ nn, mm + 3 ≤ nn → ∃ xx yy, it2 bb nn a1 a2 = some xx ∧ it2 cc nn c1 c2 = some yy ∧ PX xx yy := by
    intro mm
    induction mm with
    | zero =>
      intro ii a1 a2 c1 c2 h1 h2 nn h3
      rcases hstep ii a1 a2 c1 c2 (by omega) h2 with ⟨h4, _⟩ | ⟨xx, yy, h4, h5, h6⟩
      · omega
      · exact ⟨xx, yy, h4 nn (by omega), h5 nn (by omega), h6⟩
    | succ mm ih2 =>
      intro ii a1 a2 c1 c2 h1 h2 nn h3
      rcases hstep ii a1 a2 c1 c2 (by omega) h2 with ⟨h4, p1, p2, q1, q2, h5, h6, h7⟩ | ⟨xx, yy, h4, h5, h6⟩
      · cases nn with
        | zero => omega
        | succ nn =>
          obtain ⟨xx, yy, h8, h9, h10⟩ := ih2 (ii + 1) p1 p2 q1 q2 (by omega) h7 nn (by omega)
          exact ⟨xx, yy, by simp [it2, h5, h8], by simp [it2, h6, h9], h10⟩
      · exact ⟨xx, yy, h4 nn (by omega), h5 nn (by omega), h6⟩
  intro nn a1 a2 c1 c2 h1 h2
  exact key ee 0 a1 a2 c1 c2 (by omega) h2 nn h1
theorem it2_out {A1 A2 X : Type} {bb : A1 → A2 → Option (X ⊕ (A1 × A2))} {a1 : A1} {a2 : A2} {xx : X} (h : bb a1 a2 = some (.inl xx)) : ∀ kk, 1 ≤ kk → it2 bb kk a1 a2 = some xx := by
  intro kk hk
  cases kk with
  | zero => omega
  | succ kk => simp [it2, h]
theorem st1_st1 (tt : MM) (kk jj : Nat) (aa bb : Int32) : st1 (st1 tt kk jj aa) kk jj bb = st1 tt kk jj bb := by
  funext xx yy
  by_cases q : xx = kk
  · subst q
    rw [st1_at, st1_at, st1_at]
    split <;> rfl
  · rw [st1_ne q, st1_ne q, st1_ne q]
theorem st1_id {tt : MM} {kk jj : Nat} {vv : Int32} (h : tt kk jj = vv) : st1 tt kk jj vv = tt := by
  funext xx yy
  by_cases q : xx = kk
  · subst q
    rw [st1_at]
    by_cases q2 : yy = jj
    · subst q2; rw [if_pos rfl, h]
    · rw [if_neg q2]
  · rw [st1_ne q]
theorem sr1_sr1 (uu : SR) (kk jj : Nat) (aa bb : Int32) : sr1 (sr1 uu kk jj aa) kk jj bb = sr1 uu kk jj bb := by
  unfold sr1
  rw [st1_st1]
theorem sr1_id {uu : SR} {kk jj : Nat} {vv : Int32} (h : uu.1 kk jj = vv) : sr1 uu kk jj vv = uu := by
  unfold sr1
  rw [st1_id h]
def TB (bt : Nat → Nat) (ln : Nat) : Prop := ln ≤ 120 ∧ ∀ jj, jj < ln → 32 ≤ bt jj ∧ bt jj ≤ 126
def CT (tt : MM) (bt : Nat → Nat) (ln ps : Nat) : Prop := tt 13 2 = nI ln ∧ tt 13 1 = nI ps ∧ ∀ jj, jj < ln → tt 14 jj = nI (bt jj)
def RT (uu : SR) (bt : Nat → Nat) (ln ps : Nat) : Prop := uu.1 39 17 = nI ln ∧ uu.1 39 18 = nI ps ∧ ∀ jj, jj < ln → uu.1 46 jj = nI (bt jj)
def isSk (bt : Nat → Nat) (ln ps qs : Nat) : Prop := ps ≤ qs ∧ qs ≤ ln ∧ (∀ jj, ps ≤ jj → jj < qs → bt jj = 32) ∧ (qs = ln ∨ (qs < ln ∧ bt qs ≠ 32))
theorem isSk_un {bt : Nat → Nat} {ln ps qs rs : Nat} (h1 : isSk bt ln ps qs) (h2 : isSk bt ln ps rs) : qs = rs := by
  obtain ⟨a1, a2, a3, a4⟩ := h1
  obtain ⟨d1, d2, d3, d4⟩ := h2
  rcases Nat.lt_trichotomy qs rs with q | q | q
  · have := d3 qs a1 q
    omega
  · exact q
  · have := a3 rs d1 q
    omega
theorem isSk_at {bt : Nat → Nat} {ln qs : Nat} (h : qs = ln ∨ (qs < ln ∧ bt qs ≠ 32)) : isSk bt ln qs qs := ⟨Nat.le_refl _, by omega, fun jj h1 h2 => by omega, h⟩
def nxB (bt : Nat → Nat) (ln qs : Nat) : Int32 := if qs = ln then -1 else nI (bt qs)
theorem CT.mv {tt : MM} {bt : Nat → Nat} {ln ps : Nat} (h : CT tt bt ln ps) (qs : Nat) : CT (st1 tt 13 1 (nI qs)) bt ln qs := by
  obtain ⟨h1, h2, h3⟩ := h
  refine ⟨?_, ?_, ?_⟩
  · rw [st1_o (by omega)]; exact h1
  · rw [st1_s]
  · rw [st1_ne (by omega)]; exact h3
theorem RT.mv {uu : SR} {bt : Nat → Nat} {ln ps : Nat} (h : RT uu bt ln ps) (qs : Nat) : RT (sr1 uu 39 18 (nI qs)) bt ln qs := by
  obtain ⟨h1, h2, h3⟩ := h
  refine ⟨?_, ?_, ?_⟩
  · rw [sr1_o (by omega)]; exact h1
  · rw [sr1_s]
  · rw [sr1_ne (by omega)]; exact h3
theorem C_next {tt : MM} {bt : Nat → Nat} {ln ps nn : Nat} (hT : TB bt ln) (h : CT tt bt ln ps) (hp : ps ≤ ln) (hn : 121 < nn) : ∃ qs, isSk bt ln ps qs ∧ f_X5_next nn tt = some (nxB bt ln qs, st1 tt 13 1 (nI qs)) := by
  have hl := hT.1
  obtain ⟨xx, h1, h2⟩ := it1_inv (bb := lb_X5_next_0 nn) (fun ii t2 => t2 = st1 tt 13 1 (nI (ps + ii)) ∧ ps + ii ≤ ln ∧ ∀ jj, ps ≤ jj → jj < ps + ii → bt jj = 32) (ln - ps) (fun xx => ∃ qs, isSk bt ln ps qs ∧ xx = st1 tt 13 1 (nI qs)) (by
    rintro ii t2 hle ⟨rfl, hi1, hi2⟩
    obtain ⟨k1, k2, k3⟩ := h.mv (ps + ii)
    unfold lb_X5_next_0
    rw [k1, k2]
    by_cases q : ps + ii < ln
    · have hb := hT.2 _ q
      rw [if_neg (nI_ge q (by omega)), ix_nI (show ps + ii < 120 by omega) (by omega), nI_clamp (show ps + ii < 2 ^ 31 by omega), k3 _ q]
      by_cases q2 : bt (ps + ii) = 32
      · rw [if_pos (show nI (bt (ps + ii)) = (32 : Int32) by rw [q2]; rfl), nm_eq, st1_st1, nI_1]
        refine Or.inl ⟨by omega, _, rfl, rfl, by omega, fun jj a1 a2 => ?_⟩
        by_cases q3 : jj = ps + ii
        · rw [q3]; exact q2
        · exact hi2 jj a1 (by omega)
      · rw [if_neg (show ¬ nI (bt (ps + ii)) = (32 : Int32) from fun z => q2 ((nI_eq (b := 32) (by omega) (by omega)).mp z))]
        exact Or.inr ⟨_, rfl, ps + ii, ⟨by omega, by omega, hi2, Or.inr ⟨q, q2⟩⟩, rfl⟩
    · rw [if_pos (nI_le (show ln ≤ ps + ii by omega) (by omega))]
      exact Or.inr ⟨_, rfl, ps + ii, ⟨by omega, by omega, hi2, Or.inl (by omega)⟩, rfl⟩) nn tt (by omega) ⟨(st1_id h.2.1).symm, by omega, fun jj a1 a2 => by omega⟩
  obtain ⟨qs, hs, rfl⟩ := h2
  refine ⟨qs, hs, ?_⟩
  obtain ⟨k1, k2, k3⟩ := h.mv qs
  obtain ⟨s1, s2, s3, s4⟩ := hs
  unfold f_X5_next f_X5_next_38 nxB
  rw [h1, b1_eq, k1, k2]
  by_cases q : qs = ln
  · rw [if_pos (nI_le (show ln ≤ qs by omega) (by omega)), if_pos q]
  · rw [if_neg (nI_ge (show qs < ln by omega) (by omega)), if_neg q, ix_nI (show qs < 120 by omega) (by omega), nI_clamp (show qs < 2 ^ 31 by omega), k3 _ (by omega)]
theorem R_next {uu : SR} {bt : Nat → Nat} {ln ps nn : Nat} (hT : TB bt ln) (h : RT uu bt ln ps) (hp : ps ≤ ln) (hn : 121 < nn) : ∃ qs, isSk bt ln ps qs ∧ f_X8_nextByte nn uu = some (nxB bt ln qs, sr1 uu 39 18 (nI qs)) := by
  have hl := hT.1
  obtain ⟨xx, h1, h2⟩ := it1_inv (bb := lb_X8_nextByte_0 nn) (fun ii t2 => t2 = sr1 uu 39 18 (nI (ps + ii)) ∧ ps + ii ≤ ln ∧ ∀ jj, ps ≤ jj → jj < ps + ii → bt jj = 32) (ln - ps) (fun xx => ∃ qs, isSk bt ln ps qs ∧ xx = sr1 uu 39 18 (nI qs)) (by
    rintro ii t2 hle ⟨rfl, hi1, hi2⟩
    obtain ⟨k1, k2, k3⟩ := h.mv (ps + ii)
    unfold lb_X8_nextByte_0
    rw [k1, k2]
    by_cases q : ps + ii < ln
    · have hb := hT.2 _ q
      rw [if_neg (nI_ge q (by omega)), ix_nI (show ps + ii < 120 by omega) (by omega), nI_clamp (show ps + ii < 2 ^ 31 by omega), k3 _ q]
      by_cases q2 : bt (ps + ii) = 32
      · rw [if_pos (show nI (bt (ps + ii)) = (32 : Int32) by rw [q2]; rfl), nm_eq, sr1_sr1, nI_1]
        refine Or.inl ⟨by omega, _, rfl, rfl, by omega, fun jj a1 a2 => ?_⟩
        by_cases q3 : jj = ps + ii
        · rw [q3]; exact q2
        · exact hi2 jj a1 (by omega)
      · rw [if_neg (show ¬ nI (bt (ps + ii)) = (32 : Int32) from fun z => q2 ((nI_eq (b := 32) (by omega) (by omega)).mp z))]
        exact Or.inr ⟨_, rfl, ps + ii, ⟨by omega, by omega, hi2, Or.inr ⟨q, q2⟩⟩, rfl⟩
    · rw [if_pos (nI_le (show ln ≤ ps + ii by omega) (by omega))]
      exact Or.inr ⟨_, rfl, ps + ii, ⟨by omega, by omega, hi2, Or.inl (by omega)⟩, rfl⟩) nn uu (by omega) ⟨(sr1_id h.2.1).symm, by omega, fun jj a1 a2 => by omega⟩
  obtain ⟨qs, hs, rfl⟩ := h2
  refine ⟨qs, hs, ?_⟩
  obtain ⟨k1, k2, k3⟩ := h.mv qs
  obtain ⟨s1, s2, s3, s4⟩ := hs
  unfold f_X8_nextByte f_X8_nextByte_38 nxB
  rw [h1, b1_eq, k1, k2]
  by_cases q : qs = ln
  · rw [if_pos (nI_le (show ln ≤ qs by omega) (by omega)), if_pos q]
  · rw [if_neg (nI_ge (show qs < ln by omega) (by omega)), if_neg q, ix_nI (show qs < 120 by omega) (by omega), nI_clamp (show qs < 2 ^ 31 by omega), k3 _ (by omega)]
/-- both at once -/
theorem m_next {tt : MM} {uu : SR} {bt : Nat → Nat} {ln ps nn : Nat} (hT : TB bt ln) (h : CT tt bt ln ps) (h2 : RT uu bt ln ps) (hp : ps ≤ ln) (hn : 121 < nn) : ∃ qs, isSk bt ln ps qs ∧ f_X5_next nn tt = some (nxB bt ln qs, st1 tt 13 1 (nI qs)) ∧ f_X8_nextByte nn uu = some (nxB bt ln qs, sr1 uu 39 18 (nI qs)) := by
  obtain ⟨q1, s1, e1⟩ := C_next hT h hp hn
  obtain ⟨q2, s2, e2⟩ := R_next hT h2 hp hn
  have e := isSk_un s1 s2
  subst e
  exact ⟨q1, s1, e1, e2⟩
def nval (bt : Nat → Nat) (ps : Nat) : Nat → Nat
  | 0 => 0
  | kk + 1 => 10 * nval bt ps kk + (bt (ps + kk) - 48)
def isDg (bt : Nat → Nat) (ln ps kk : Nat) : Prop := ps + kk ≤ ln ∧ (∀ jj, jj < kk → 48 ≤ bt (ps + jj) ∧ bt (ps + jj) ≤ 57) ∧ (ps + kk = ln ∨ (ps + kk < ln ∧ ¬ (48 ≤ bt (ps + kk) ∧ bt (ps + kk) ≤ 57)))
theorem isDg_un {bt : Nat → Nat} {ln ps k1 k2 : Nat} (h1 : isDg bt ln ps k1) (h2 : isDg bt ln ps k2) : k1 = k2 := by
  obtain ⟨a1, a2, a3⟩ := h1
  obtain ⟨d1, d2, d3⟩ := h2
  rcases Nat.lt_trichotomy k1 k2 with q | q | q
  · have := d2 k1 q
    omega
  · exact q
  · have := a2 k2 q
    omega
theorem C_dig {bb : Nat} (hb : bb < 200) : f_X5_isDigit (nI bb) = some (if 48 ≤ bb ∧ bb ≤ 57 then 1 else 0) := by
  unfold f_X5_isDigit
  by_cases q : bb < 48
  · rw [if_pos (show nI bb < (48 : Int32) from nI_lt (b := 48) q (by omega)), if_neg (by omega)]
  · rw [if_neg (show ¬ nI bb < (48 : Int32) from nI_nlt (b := 48) (by omega) (by omega))]
    by_cases q2 : 57 < bb
    · rw [if_pos (show (57 : Int32) < nI bb from nI_lt (a := 57) q2 (by omega)), if_neg (by omega)]
    · rw [if_neg (show ¬ (57 : Int32) < nI bb from nI_nlt (a := 57) (by omega) (by omega)), if_pos (by omega)]
theorem dgt {vv dg : Nat} (h : 48 ≤ dg) : ((10 : Int32) * nI vv + nI dg) - (48 : Int32) = nI (10 * vv + (dg - 48)) := by
  have e1 : (10 : Int32) = iI 10 := by decide
  have e2 : (48 : Int32) = iI 48 := by decide
  rw [e1, e2, ← iI_nat vv, ← iI_nat dg, iI_mul, iI_add, iI_sub, ← iI_nat]
  congr 1
  omega
theorem C_nloop {tt : MM} {bt : Nat → Nat} {ln ps nn : Nat} {v1 v2 v4 : Int32} (hT : TB bt ln) (h : CT tt bt ln ps) (hp : ps ≤ ln) (hn : 121 < nn) : ∃ kk, isDg bt ln ps kk ∧ it2 (lb_X5_readNumber_27 nn v1 v2 (nI 99) v4) nn (0 : Int32) tt = some (nI (if 100 < nval bt ps kk then 100 else nval bt ps kk), st1 tt 13 1 (nI (ps + kk))) := by
  have hl := hT.1
  obtain ⟨xx, h1, h2⟩ := it2_inv (bb := lb_X5_readNumber_27 nn v1 v2 (nI 99) v4) (fun ii v5 t2 => v5 = nI (if 100 < nval bt ps ii then 100 else nval bt ps ii) ∧ t2 = st1 tt 13 1 (nI (ps + ii)) ∧ ps + ii ≤ ln ∧ ∀ jj, jj < ii → 48 ≤ bt (ps + jj) ∧ bt (ps + jj) ≤ 57) (ln - ps) (fun xx => ∃ kk, isDg bt ln ps kk ∧ xx = (nI (if 100 < nval bt ps kk then 100 else nval bt ps kk), st1 tt 13 1 (nI (ps + kk)))) (by
    rintro ii v5 t2 hle ⟨rfl, rfl, hi1, hi2⟩
    obtain ⟨k1, k2, k3⟩ := h.mv (ps + ii)
    unfold lb_X5_readNumber_27
    rw [k1, k2]
    by_cases q : ps + ii < ln
    · have hb := hT.2 _ q
      rw [if_neg (nI_ge q (by omega)), ix_nI (show ps + ii < 120 by omega) (by omega), nI_clamp (show ps + ii < 2 ^ 31 by omega), k3 _ q, C_dig (by omega), b1_eq, ifp01]
      by_cases q2 : 48 ≤ bt (ps + ii) ∧ bt (ps + ii) ≤ 57
      · rw [if_pos q2, ix_nI (show ps + ii < 120 by omega) (by omega), nm_eq, nm_eq, st1_st1, show nI 99 + (1 : Int32) = nI 100 from rfl, nI_1, dgt q2.1]
        refine Or.inl ⟨by omega, _, _, rfl, ?_, rfl, by omega, fun jj a1 => ?_⟩
        · rw [nval]
          generalize nval bt ps ii = ww
          by_cases q4 : 100 < ww
          · rw [if_pos q4, if_pos (nI_lt (by omega) (by omega)), if_pos (by omega)]
          · rw [if_neg q4]
            by_cases q5 : 100 < 10 * ww + (bt (ps + ii) - 48)
            · rw [if_pos q5, if_pos (nI_lt q5 (by omega))]
            · rw [if_neg q5, if_neg (nI_nlt (by omega) (by omega))]
        · by_cases q3 : jj = ii
          · rw [q3]; exact q2
          · exact hi2 jj (by omega)
      · rw [if_neg q2]
        exact Or.inr ⟨_, rfl, ii, ⟨by omega, hi2, Or.inr ⟨q, q2⟩⟩, rfl⟩
    · rw [if_pos (nI_le (show ln ≤ ps + ii by omega) (by omega))]
      exact Or.inr ⟨_, rfl, ii, ⟨by omega, hi2, Or.inl (by omega)⟩, rfl⟩) nn 0 tt (by omega) ⟨rfl, (st1_id h.2.1).symm, by omega, fun jj a1 => by omega⟩
  obtain ⟨kk, hs, rfl⟩ := h2
  exact ⟨kk, hs, h1⟩
theorem R_nloop {uu : SR} {bt : Nat → Nat} {ln ps nn : Nat} {v1 v2 v4 : Int32} (hT : TB bt ln) (h : RT uu bt ln ps) (hp : ps ≤ ln) (hn : 121 < nn) : ∃ kk vv, isDg bt ln ps kk ∧ (nval bt ps kk ≤ 999 → vv = nval bt ps kk) ∧ (999 < nval bt ps kk → 999 < vv) ∧ vv < 10000 ∧ it2 (lb_X8_readNumber_13 nn v1 v2 v4) nn (0 : Int32) uu = some (nI vv, sr1 uu 39 18 (nI (ps + kk))) := by
  have hl := hT.1
  obtain ⟨xx, h1, h2⟩ := it2_inv (bb := lb_X8_readNumber_13 nn v1 v2 v4) (fun ii v5 t2 => (∃ vv, v5 = nI vv ∧ (nval bt ps ii ≤ 999 → vv = nval bt ps ii) ∧ (999 < nval bt ps ii → 999 < vv) ∧ vv < 10000) ∧ t2 = sr1 uu 39 18 (nI (ps + ii)) ∧ ps + ii ≤ ln ∧ ∀ jj, jj < ii → 48 ≤ bt (ps + jj) ∧ bt (ps + jj) ≤ 57) (ln - ps) (fun xx => ∃ kk vv, isDg bt ln ps kk ∧ (nval bt ps kk ≤ 999 → vv = nval bt ps kk) ∧ (999 < nval bt ps kk → 999 < vv) ∧ vv < 10000 ∧ xx = (nI vv, sr1 uu 39 18 (nI (ps + kk)))) (by
    rintro ii v5 t2 hle ⟨⟨vv, rfl, hv1, hv2, hv3⟩, rfl, hi1, hi2⟩
    obtain ⟨k1, k2, k3⟩ := h.mv (ps + ii)
    unfold lb_X8_readNumber_13
    rw [k1, k2]
    by_cases q : ps + ii < ln
    · have hb := hT.2 _ q
      rw [if_neg (nI_ge q (by omega)), ix_nI (show ps + ii < 120 by omega) (by omega), nI_clamp (show ps + ii < 2 ^ 31 by omega), k3 _ q, R_inN (show bt (ps + ii) < 2 ^ 31 by omega) 48 57 (by omega) (by omega), b1_eq, ifp01]
      by_cases q2 : 48 ≤ bt (ps + ii) ∧ bt (ps + ii) ≤ 57
      · rw [if_pos q2, ix_nI (show ps + ii < 120 by omega) (by omega), nm_eq, nm_eq, nm_eq, sr1_sr1, nI_1, dgt q2.1]
        have hd : ∀ jj, jj < ii + 1 → 48 ≤ bt (ps + jj) ∧ bt (ps + jj) ≤ 57 := by
          intro jj a1
          by_cases q3 : jj = ii
          · rw [q3]; exact q2
          · exact hi2 jj (by omega)
        by_cases q4 : vv ≤ 999
        · rw [if_pos (show nI vv ≤ (999 : Int32) from nI_le (b := 999) q4 (by omega))]
          refine Or.inl ⟨by omega, _, _, rfl, ⟨_, rfl, ?_, ?_, by omega⟩, rfl, by omega, hd⟩
          · rw [nval]; intro z; omega
          · rw [nval]; intro z; omega
        · rw [if_neg (show ¬ nI vv ≤ (999 : Int32) from nI_ge (a := 999) (by omega) (by omega))]
          refine Or.inl ⟨by omega, _, _, rfl, ⟨vv, rfl, ?_, ?_, by omega⟩, rfl, by omega, hd⟩
          · rw [nval]; intro z; omega
          · rw [nval]; intro z; omega
      · rw [if_neg q2]
        exact Or.inr ⟨_, rfl, ii, vv, ⟨by omega, hi2, Or.inr ⟨q, q2⟩⟩, hv1, hv2, hv3, rfl⟩
    · rw [if_pos (nI_le (show ln ≤ ps + ii by omega) (by omega))]
      exact Or.inr ⟨_, rfl, ii, vv, ⟨by omega, hi2, Or.inl (by omega)⟩, hv1, hv2, hv3, rfl⟩) nn 0 uu (by omega) ⟨⟨0, rfl, fun _ => rfl, fun z => by simp [nval] at z, by omega⟩, (sr1_id h.2.1).symm, by omega, fun jj a1 => by omega⟩
  obtain ⟨kk, vv, hs, a1, a2, a3, rfl⟩ := h2
  exact ⟨kk, vv, hs, a1, a2, a3, h1⟩
