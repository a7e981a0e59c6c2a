/-! all in: the reference, whether a row of minutes can be; the next row -/
def gp (st : Nat) (ta : Nat → Nat) (mm kk : Nat) : Nat := setOf (fun ii => st.testBit ii && (ta (rn st ii) == mm) && decide (rn st ii < kk)) 10
theorem gp_t {st mm kk ii : Nat} {ta : Nat → Nat} (h : st < 1024) : (gp st ta mm kk).testBit ii = true ↔ (st.testBit ii = true ∧ ta (rn st ii) = mm ∧ rn st ii < kk) := by
  unfold gp
  rw [setOf_bit]
  constructor
  · intro z
    simp at z
    exact ⟨z.2.1.1, z.2.1.2, z.2.2⟩
  · rintro ⟨z1, z2, z3⟩
    have := bit10 h z1
    simp [z1, z2, z3, this]
theorem R_grp {ww : SR} {st mm nn : Nat} {ta : Nat → Nat} {v1 : Int32} (hs : st < 1024) (h4 : rn st 10 ≤ 4) (hH : WH st ww) (hT : TM st ww ta) (hm : mm < 12) (hn : 20 < nn) : it2 (lb_X8_canBoard_23 nn ww v1 (nI mm)) nn (0 : Int32) (0 : Int32) = some (nI (grp st ta mm)) := by
  obtain ⟨xx, h1, h2⟩ := it2_inv (bb := lb_X8_canBoard_23 nn ww v1 (nI mm)) (fun kx v3 v4 => v3 = nI (gp st ta mm kx) ∧ v4 = nI kx) (rn st 10) (fun xx => xx = nI (gp st ta mm (rn st 10))) (by
    rintro kx v3 v4 hle ⟨rfl, rfl⟩
    unfold lb_X8_canBoard_23
    by_cases q : kx < rn st 10
    · obtain ⟨t1, t2⟩ := hT kx q
      obtain ⟨p1, p2, p3⟩ := pk_ok hs q
      rw [hH.1, if_neg (nI_ge q (by omega)), ix_nI (show kx < 4 by omega) (by omega), ix_nI (show kx < 4 by omega) (by omega), nI_clamp (show kx < 2 ^ 31 by omega), t2, hH.2 kx q, bit_sh (show pk st kx < 31 by omega), fa_or, or_0]
      by_cases q2 : ta kx = mm
      · rw [if_pos (show nI (ta kx) = nI mm by rw [q2]), nm_eq, nm_eq, nI_1]
        refine Or.inl ⟨q, _, _, rfl, congrArg nI (eq_bits (fun ii => ?_)), rfl⟩
        rw [gp_t hs, Nat.testBit_or, Bool.or_eq_true, gp_t hs, Nat.testBit_two_pow, decide_eq_true_iff]
        constructor
        · rintro (⟨z1, z2, z3⟩ | z)
          · exact ⟨z1, z2, by omega⟩
          · rw [← z, p2]
            exact ⟨p1, q2, by omega⟩
        · rintro ⟨z1, z2, z3⟩
          by_cases y : rn st ii = kx
          · right
            rw [← y]
            exact pk_rn hs z1
          · exact Or.inl ⟨z1, z2, by omega⟩
      · rw [if_neg (show ¬ nI (ta kx) = nI mm from fun z => q2 ((nI_eq (by omega) (by omega)).mp z)), nm_eq, nm_eq, nI_1]
        refine Or.inl ⟨q, _, _, rfl, congrArg nI (eq_bits (fun ii => ?_)), rfl⟩
        rw [gp_t hs, gp_t hs]
        constructor
        · rintro ⟨z1, z2, z3⟩
          exact ⟨z1, z2, by omega⟩
        · rintro ⟨z1, z2, z3⟩
          refine ⟨z1, z2, ?_⟩
          by_cases y : rn st ii = kx
          · rw [y] at z2
            exact absurd z2 q2
          · omega
    · have e : kx = rn st 10 := by omega
      subst e
      rw [hH.1, if_pos (nI_le (Nat.le_refl _) (by omega))]
      exact Or.inr ⟨_, rfl, rfl⟩) nn 0 0 (by omega) ⟨congrArg nI (show 0 = gp st ta mm 0 from eq_bits (fun ii => by
      rw [gp_t hs, Nat.zero_testBit]
      constructor
      · intro z; exact absurd z (by decide)
      · rintro ⟨_, _, z⟩; omega)), rfl⟩
  rw [h1, h2]
  refine congrArg (fun zz => some (nI zz)) (eq_bits (fun ii => ?_))
  rw [gp_t hs, grp_t hs]
  constructor
  · rintro ⟨z1, z2, z3⟩
    exact ⟨z1, z2⟩
  · rintro ⟨z1, z2⟩
    exact ⟨z1, z2, rn_lt (bit10 hs z1) z1⟩
theorem wsum_0 {dd : WD} : wsum dd 0 = 0 := by
  unfold wsum
  exact (nsum_cong (gg := fun _ => 0) (dN dd) (fun ii _ => by unfold wf; rw [Nat.zero_testBit]; rfl)).trans (nsum_z _)
theorem R_board {uu : SR} {dd : WD} {st nn : Nat} {ta : Nat → Nat} (hX : RX uu dd) (hO : DOk dd) (hW : WT dd st) (h4 : rn st 10 ≤ 4) (hH : WH st uu) (hT : TM st uu ta) (hn : 20 < nn) : ∃ vv u2, f_X8_canBoard nn uu = some (vv, u2) ∧ b01 (CB dd st ta 12) vv ∧ RFr uu u2 := by
  have hs := hW.1
  have hft := ft_lt dd
  obtain ⟨w0, e0, F0', L0⟩ := R_loads hX hO (show 13 < nn by omega)
  have p10 : (2 : Nat) ^ 10 = 1024 := by decide
  obtain ⟨xx, h1, vv, u2, rfl, hF2, hb2⟩ := it3_inv (bb := lb_X8_canBoard_8 nn) (fun kx v1 v2 ww => v2 = nI kx ∧ RFr uu ww ∧ ((v1 = 1 ∧ CB dd st ta kx ∧ ∀ cc, cc < 12 → ww.1 45 cc = iI (LD dd st ta kx cc)) ∨ (v1 = 0 ∧ ¬ CB dd st ta 12))) 12 (fun xx => ∃ vv u2, xx = (vv, u2) ∧ RFr uu u2 ∧ b01 (CB dd st ta 12) vv) (by
    rintro kx v1 v2 ww hle ⟨rfl, hF, hcase⟩
    unfold lb_X8_canBoard_8
    by_cases q : kx < 12
    · rw [if_neg (show ¬ (12 : Int32) ≤ nI kx from nI_ge (b := 12) q (by omega))]
      rcases hcase with ⟨rfl, hcb, hL⟩ | ⟨rfl, hno⟩
      · have hH2 : WH st ww := ⟨(hF.2.1 24 (by omega)).trans hH.1, fun kk hk => by rw [hF.1 48 (by omega) (by omega)]; exact hH.2 kk hk⟩
        have hT2 : TM st ww ta := fun kk hk => ⟨(hT kk hk).1, by rw [hF.1 49 (by omega) (by omega)]; exact (hT kk hk).2⟩
        have hX2 := hX.fr hF
        have hgl : grp st ta kx < 1024 := grp_lt
        rw [if_neg n10', R_grp hs h4 hH2 hT2 q hn, b1_eq]
        by_cases q2 : grp st ta kx = 0
        · rw [q2, if_pos (show nI 0 = (0 : Int32) from rfl), nm_eq, nI_1]
          refine Or.inl ⟨q, _, _, _, rfl, rfl, hF, Or.inl ⟨rfl, fun mm hm hg => ?_, fun cc hc => ?_⟩⟩
          · by_cases z : mm = kx
            · rw [z] at hg; exact absurd q2 hg
            · exact hcb mm (by omega) hg
          · have h9 := LD_step (ta := ta) (mm := kx) hW hc
            rw [q2, wsum_0] at h9
            rw [hL cc hc, ← h9]
            unfold addL
            split
            · congr 1
            · rfl
        · have hcc : (ft dd + kx) % 12 < 12 := Nat.mod_lt _ (by decide)
          have erem : (nI (ft dd) + nI kx) - (nI (ft dd) + nI kx) / (12 : Int32) * (12 : Int32) = nI ((ft dd + kx) % 12) := by
            rw [nI_add]
            exact pk_rem (a := ft dd + kx) (d := 12) (by omega) (by omega) (by omega)
          have hws := wsum_le hO (grp st ta kx)
          have hwl := whoAt_lt hO ((ft dd + kx) % 12)
          have hor : whoAt dd ((ft dd + kx) % 12) ||| grp st ta kx < 2 ^ 10 := Nat.or_lt_two_pow (by omega) (by omega)
          have hor2 : whoAt dd ((ft dd + kx) % 12) ||| grp st ta kx < 2 ^ 31 := Nat.lt_trans hor (by decide)
          have L2 : ∀ cc, cc < 12 → (sr1 ww 45 ((ft dd + kx) % 12) (ww.1 45 ((ft dd + kx) % 12) + nI (wsum dd (grp st ta kx)))).1 45 cc = iI (LD dd st ta (kx + 1) cc) := fun cc hc => by
            rw [← LD_step hW hc, sr1_at]
            unfold addL
            by_cases z : cc = (ft dd + kx) % 12
            · rw [if_pos z, if_pos z, hL _ hcc, ← iI_nat (wsum dd (grp st ta kx)), iI_add, z]
            · rw [if_neg z, if_neg z]; exact hL cc hc
          have hF3 : RFr uu (sr1 ww 45 ((ft dd + kx) % 12) (ww.1 45 ((ft dd + kx) % 12) + nI (wsum dd (grp st ta kx)))) := hF.w45 _ _
          have hX3 := hX.fr hF3
          obtain ⟨w4, e4, F4', -⟩ := R_evenNow (nn := nn) (li := dli dd) L2 (LD_Ok hO) (by omega) hX3.2.2.2.2.2.2.2.1 hO.2.2.2.2
          obtain ⟨-, -, -, -, -, -, -, -, c8⟩ := hX2
          rw [if_neg (nI_ne0 (by omega) (by omega)), c8, erem, nm_eq, ix_nI hcc (by omega), R_weight (hX.fr hF) hO (by omega) (by omega), b1_eq, ix_nI hcc (by omega), nm_eq, nI_clamp (show (ft dd + kx) % 12 < 2 ^ 31 by omega), R_who hX3 hO (by omega) (by omega), b1_eq, fa_or, R_fit hX3 hO (by omega) hor2, b1_eq, if01]
          by_cases q3 : fitB dd (whoAt dd ((ft dd + kx) % 12) ||| grp st ta kx) = true
          · rw [if_pos q3, e4, b1_eq]
            simp only [if01, nm_eq, nI_1]
            by_cases q4 : evB (LD dd st ta (kx + 1)) (dli dd) = true
            · rw [if_pos q4]
              refine Or.inl ⟨q, _, _, _, rfl, rfl, hF3.tr F4', Or.inl ⟨rfl, fun mm hm hg => ?_, fun cc hc => ?_⟩⟩
              · by_cases z : mm = kx
                · rw [z]; exact ⟨q3, q4⟩
                · exact hcb mm (by omega) hg
              · have h45 : w4.1 45 = (sr1 ww 45 ((ft dd + kx) % 12) (ww.1 45 ((ft dd + kx) % 12) + nI (wsum dd (grp st ta kx)))).1 45 := by
                  obtain ⟨w5, e5, _, h5⟩ := R_evenNow (nn := nn) (li := dli dd) L2 (LD_Ok hO) (by omega) hX3.2.2.2.2.2.2.2.1 hO.2.2.2.2
                  rw [e4] at e5
                  have e6 : w4 = w5 := congrArg Prod.snd (Option.some.inj e5)
                  rw [e6]
                  exact h5
                rw [h45]
                exact L2 cc hc
            · rw [if_neg q4]
              exact Or.inl ⟨q, _, _, _, rfl, rfl, hF3.tr F4', Or.inr ⟨rfl, fun z => q4 (z kx q q2).2⟩⟩
          · rw [if_neg q3, nm_eq, nI_1]
            exact Or.inl ⟨q, _, _, _, rfl, rfl, hF3, Or.inr ⟨rfl, fun z => q3 (z kx q q2).1⟩⟩
      · rw [if_pos rfl]
        exact Or.inr ⟨_, rfl, 0, ww, rfl, hF, Or.inr ⟨hno, rfl⟩⟩
    · have e : kx = 12 := by omega
      subst e
      rw [if_pos (show (12 : Int32) ≤ nI 12 by decide)]
      rcases hcase with ⟨rfl, hcb, hL⟩ | ⟨rfl, hno⟩
      · exact Or.inr ⟨_, rfl, 1, ww, rfl, hF, Or.inl ⟨hcb, rfl⟩⟩
      · exact Or.inr ⟨_, rfl, 0, ww, rfl, hF, Or.inr ⟨hno, rfl⟩⟩) nn 1 0 w0 (by omega) ⟨rfl, F0', Or.inl ⟨rfl, fun mm hm => absurd hm (by omega), fun cc hc => by rw [LD_0]; exact L0 cc hc⟩⟩
  refine ⟨vv, u2, ?_, hb2, hF2⟩
  unfold f_X8_canBoard
  rw [e0, b1_eq, show it3 (lb_X8_canBoard_8 nn) nn (1 : Int32) (0 : Int32) w0 = some (vv, u2) from h1, b2_eq]
  rcases hb2 with ⟨_, rfl⟩ | ⟨_, rfl⟩ <;> rfl
theorem R_nx {nn : Nat} : ∀ (kk : Nat), kk ≤ 4 → ∀ (ww : SR) (ta : Nat → Nat), (∀ jj, jj < kk → ta jj < 12 ∧ ww.1 49 jj = nI (ta jj)) → ∀ fu, kk < fu → ∃ yy w2, ∃ tb : Nat → Nat, it2 (lb_X8_nextTimes_7 nn) fu (iI ((kk : Int) - 1)) ww = some yy ∧ (∀ cc, cc ≠ 49 → w2.1 cc = ww.1 cc) ∧ (∀ jj, kk ≤ jj → w2.1 49 jj = ww.1 49 jj) ∧ (∀ jj, jj < kk → tb jj < 12 ∧ w2.1 49 jj = nI (tb jj)) ∧ ((yy = .inl (1, w2) ∧ ix12 tb kk = ix12 ta kk + 1) ∨ (yy = .inr w2 ∧ ix12 ta kk + 1 = 12 ^ kk)) := by
  intro kk
  induction kk with
  | zero =>
    intro hk ww ta hT fu hf
    refine ⟨.inr ww, ww, ta, it2_out ?_ fu (by omega), fun _ _ => rfl, fun _ _ => rfl, fun jj hj => absurd hj (by omega), Or.inr ⟨rfl, rfl⟩⟩
    unfold lb_X8_nextTimes_7
    rw [if_pos (show iI (((0 : Nat) : Int) - 1) < 0 by decide)]
  | succ kk ih =>
    intro hk ww ta hT fu hf
    obtain ⟨t1, t2⟩ := hT kk (by omega)
    have ev : iI (((kk + 1 : Nat) : Int) - 1) = nI kk := by
      rw [← iI_nat]
      congr 1
      omega
    have body : lb_X8_nextTimes_7 nn (nI kk) ww = if 12 ≤ ta kk + 1 then some (.inr (iI ((kk : Int) - 1), sr1 (sr1 ww 49 kk (nI (ta kk + 1))) 49 kk (0 : Int32))) else some (.inl (.inl ((1 : Int32), sr1 ww 49 kk (nI (ta kk + 1))))) := by
      unfold lb_X8_nextTimes_7
      simp only [if_neg (nI_pos (show kk < 2 ^ 31 by omega)), ix_nI (show kk < 4 by omega) (show 4 < 2 ^ 31 by omega), nI_clamp (show kk < 2 ^ 31 by omega), t2, nI_1, nm_eq, sr1_s, down1]
      by_cases q : 12 ≤ ta kk + 1
      · rw [if_pos q, if_pos (show (12 : Int32) ≤ nI (ta kk + 1) from nI_le (a := 12) q (by omega))]
      · rw [if_neg q, if_neg (show ¬ (12 : Int32) ≤ nI (ta kk + 1) from nI_ge (b := 12) (by omega) (by omega))]
    rw [ev]
    by_cases q : 12 ≤ ta kk + 1
    · rw [if_pos q] at body
      obtain ⟨yy, w2, tb, e1, f1, f2, f3, f4⟩ := ih (by omega) (sr1 (sr1 ww 49 kk (nI (ta kk + 1))) 49 kk (0 : Int32)) ta (fun jj hj => ⟨(hT jj (by omega)).1, by rw [sr1_o (by omega), sr1_o (by omega)]; exact (hT jj (by omega)).2⟩) (fu - 1) (by omega)
      obtain ⟨fv, rfl⟩ : ∃ fv, fu = fv + 1 := ⟨fu - 1, by omega⟩
      rw [show fv + 1 - 1 = fv by omega] at e1
      refine ⟨yy, w2, fun jj => if jj = kk then 0 else tb jj, by simp [it2, body, e1], fun cc hc => by rw [f1 cc hc, sr1_ne hc, sr1_ne hc], fun jj hj => by rw [f2 jj (by omega), sr1_o (by omega), sr1_o (by omega)], fun jj hj => ?_, ?_⟩
      · by_cases z : jj = kk
        · rw [z]
          dsimp only
          rw [if_pos rfl, f2 kk (by omega), sr1_s]
          exact ⟨by omega, rfl⟩
        · dsimp only
          rw [if_neg z]
          exact f3 jj (by omega)
      · have e3 : ix12 (fun jj => if jj = kk then 0 else tb jj) kk = ix12 tb kk := ix12_cong kk (fun jj hj => by rw [if_neg (by omega)])
        have e4 : ix12 (fun jj => if jj = kk then 0 else tb jj) (kk + 1) = ix12 tb kk * 12 := by
          rw [ix12, e3, if_pos rfl]
          rfl
        rw [e4, ix12, Nat.pow_succ]
        rcases f4 with ⟨g1, g2⟩ | ⟨g1, g2⟩
        · exact Or.inl ⟨g1, by omega⟩
        · exact Or.inr ⟨g1, by omega⟩
    · rw [if_neg q] at body
      refine ⟨_, sr1 ww 49 kk (nI (ta kk + 1)), fun jj => if jj = kk then ta kk + 1 else ta jj, it2_out body fu (by omega), fun cc hc => by rw [sr1_ne hc], fun jj hj => by rw [sr1_o (by omega)], fun jj hj => ?_, Or.inl ⟨rfl, ?_⟩⟩
      · by_cases z : jj = kk
        · rw [z, sr1_s]
          dsimp only
          rw [if_pos rfl]
          exact ⟨by omega, rfl⟩
        · rw [sr1_o z]
          dsimp only
          rw [if_neg z]
          exact hT jj (by omega)
      · have e3 : ix12 (fun jj => if jj = kk then ta kk + 1 else ta jj) kk = ix12 ta kk := ix12_cong kk (fun jj hj => by rw [if_neg (by omega)])
        rw [ix12, ix12, e3, if_pos rfl]
        omega
theorem R_nextT {ww : SR} {st nn : Nat} {ta : Nat → Nat} (h4 : rn st 10 ≤ 4) (hH : WH st ww) (hT : TM st ww ta) (hn : 20 < nn) : ∃ vv w2, f_X8_nextTimes nn ww = some (vv, w2) ∧ (∀ cc, cc ≠ 49 → w2.1 cc = ww.1 cc) ∧ ((vv = 1 ∧ ∃ tb, TM st w2 tb ∧ ix12 tb (rn st 10) = ix12 ta (rn st 10) + 1) ∨ (vv = 0 ∧ ix12 ta (rn st 10) + 1 = 12 ^ rn st 10)) := by
  obtain ⟨yy, w2, tb, e1, f1, f2, f3, f4⟩ := R_nx (nn := nn) (rn st 10) h4 ww ta hT nn (by omega)
  unfold f_X8_nextTimes
  rw [hH.1, nI_less, nm_eq, e1]
  rcases f4 with ⟨rfl, g⟩ | ⟨rfl, g⟩
  · exact ⟨1, w2, rfl, f1, Or.inl ⟨rfl, tb, f3, g⟩⟩
  · exact ⟨0, w2, rfl, f1, Or.inr ⟨rfl, g⟩⟩
