/-! the relation between the two states, and the plain operations -/
def WR (tt : MM) (uu : SR) (dd : WD) : Prop := CW tt dd ∧ RW uu dd ∧ DOk dd ∧ ∀ cc, cc < 12 → fitB dd (whoAt dd cc) = true
def CK (kk : Nat) : Prop := kk = 0 ∨ (7 ≤ kk ∧ kk ≤ 12) ∨ (14 ≤ kk ∧ kk ≤ 16) ∨ (30 ≤ kk ∧ kk ≤ 37)
def CRest (tt ww : MM) : Prop := (∀ kk, CK kk → ww kk = tt kk) ∧ ww 13 2 = tt 13 2
def RRest (uu ww : SR) : Prop := (∀ kk, (46 ≤ kk ∧ kk ≤ 47) ∨ (53 ≤ kk ∧ kk ≤ 56) → ww.1 kk = uu.1 kk) ∧ ww.1 39 17 = uu.1 39 17 ∧ ww.1 39 29 = uu.1 39 29
theorem CRest.rf {tt : MM} : CRest tt tt := ⟨fun _ _ => rfl, rfl⟩
theorem RRest.rf {uu : SR} : RRest uu uu := ⟨fun _ _ => rfl, rfl, rfl⟩
theorem CRest.tr {tt vv ww : MM} (h1 : CRest tt vv) (h2 : CRest vv ww) : CRest tt ww := ⟨fun kk a1 => (h2.1 kk a1).trans (h1.1 kk a1), h2.2.trans h1.2⟩
theorem RRest.tr {uu vv ww : SR} (h1 : RRest uu vv) (h2 : RRest vv ww) : RRest uu ww := ⟨fun kk a1 => (h2.1 kk a1).trans (h1.1 kk a1), h2.2.1.trans h1.2.1, h2.2.2.trans h1.2.2⟩
theorem RFr.rest {uu ww : SR} (h : RFr uu ww) : RRest uu ww := ⟨fun kk hk => h.1 kk (by omega) (by omega), h.2.1 17 (by omega), h.2.1 29 (by omega)⟩
theorem CRest.sA {tt ww : MM} {kk : Nat} {gg : Nat → Int32} (h : CRest tt ww) (hk : ¬ CK kk) (h2 : kk ≠ 13) : CRest tt (stA ww kk gg) := by
  refine ⟨fun jj hj => ?_, ?_⟩
  · rw [stA_ne ww gg (show jj ≠ kk from fun z => hk (z ▸ hj))]; exact h.1 jj hj
  · rw [stA_ne ww gg (show 13 ≠ kk from fun z => h2 z.symm)]; exact h.2
theorem CRest.s1 {tt ww : MM} {kk jj : Nat} {vv : Int32} (h : CRest tt ww) (hk : ¬ CK kk) (h2 : kk ≠ 13) : CRest tt (st1 ww kk jj vv) := h.sA hk h2
theorem RRest.s1 {uu ww : SR} {kk jj : Nat} {vv : Int32} (h : RRest uu ww) (hk : ¬ (kk = 39 ∨ (46 ≤ kk ∧ kk ≤ 47) ∨ (53 ≤ kk ∧ kk ≤ 56))) : RRest uu (sr1 ww kk jj vv) := by
  refine ⟨fun xx hx => ?_, ?_, ?_⟩
  · rw [sr1_ne (by omega)]; exact h.1 xx hx
  · rw [sr1_ne (by omega)]; exact h.2.1
  · rw [sr1_ne (by omega)]; exact h.2.2
theorem RRest.s39 {uu ww : SR} {jj : Nat} {vv : Int32} (h : RRest uu ww) (h1 : jj ≠ 17) (h2 : jj ≠ 29) : RRest uu (sr1 ww 39 jj vv) := by
  refine ⟨fun xx hx => ?_, ?_, ?_⟩
  · rw [sr1_ne (by omega)]; exact h.1 xx hx
  · rw [sr1_at, if_neg (by omega)]; exact h.2.1
  · rw [sr1_at, if_neg (by omega)]; exact h.2.2
def Good (tt : MM) (uu : SR) (xx : Option (Int32 × MM)) (yy : Option (Int32 × SR)) : Prop := ∃ vv t2 u2 d2, xx = some (vv, t2) ∧ yy = some (vv, u2) ∧ WR t2 u2 d2 ∧ CRest tt t2 ∧ RRest uu u2
theorem st1_ne {tt : MM} {kk jj xx : Nat} {vv : Int32} (h : xx ≠ kk) : st1 tt kk jj vv xx = tt xx := by simp [st1, stA, h]
theorem st1_at {tt : MM} {kk jj yy : Nat} {vv : Int32} : st1 tt kk jj vv kk yy = if yy = jj then vv else tt kk yy := by simp [st1, stA, upd]
theorem st1_o {tt : MM} {kk jj yy : Nat} {vv : Int32} (h : yy ≠ jj) : st1 tt kk jj vv kk yy = tt kk yy := by rw [st1_at, if_neg h]
theorem st1_s {tt : MM} {kk jj : Nat} {vv : Int32} : st1 tt kk jj vv kk jj = vv := by rw [st1_at, if_pos rfl]
theorem R_inC (vv : Int32) (lo hi : Nat) (h1 : lo < 3000) (h2 : hi < 3000) : (f_X8_in vv.toInt64 (OfNat.ofNat lo : Int64) (OfNat.ofNat hi : Int64) = some 1 ∧ ∃ kk : Nat, lo ≤ kk ∧ kk ≤ hi ∧ vv = nI kk) ∨ (f_X8_in vv.toInt64 (OfNat.ofNat lo : Int64) (OfNat.ofNat hi : Int64) = some 0 ∧ (vv < 0 ∨ ∃ kk : Nat, kk < 2 ^ 31 ∧ vv = nI kk ∧ (kk < lo ∨ hi < kk))) := by
  rcases cases32 vv with ⟨q1, q2⟩ | ⟨kk, q1, rfl⟩
  · exact Or.inr ⟨R_inM q2 lo hi h1 h2, Or.inl q1⟩
  · rw [R_inN q1 lo hi h1 h2]
    by_cases q : lo ≤ kk ∧ kk ≤ hi
    · exact Or.inl ⟨by rw [if_pos q], kk, q.1, q.2, rfl⟩
    · exact Or.inr ⟨by rw [if_neg q], Or.inr ⟨kk, q1, rfl, by omega⟩⟩
theorem neg_ne {vv : Int32} (h : vv < 0) {kk : Nat} (hk : kk < 2 ^ 31) : ¬ vv = nI kk := fun z => nI_pos hk (z ▸ h)
theorem neg_lt {vv : Int32} (h : vv < 0) {kk : Nat} (hk : kk < 2 ^ 31) : vv < nI kk := by
  rw [fa_lt] at h ⊢
  rw [nI_toInt hk]
  have : (0 : Int32).toInt = 0 := rfl
  omega
theorem n10' : ¬ ((1 : Int32) = 0) := by decide
theorem m_told {tt : MM} {uu : SR} {dd : WD} (h : WR tt uu dd) (v1 v2 : Int32) : ∃ vv, f_X7_told tt v1 v2 = some vv ∧ f_X8_told uu v1 v2 = some vv := by
  obtain ⟨hC, hR, hO, -⟩ := h
  obtain ⟨c1, c2, c3, c4, c5, c6, c7, c8⟩ := hC
  obtain ⟨r1, r2, r3, r4, r5, r6, r7, r8, r9⟩ := hR
  have h10 := hO.1
  unfold f_X7_told f_X8_told
  rcases cases32 v1 with ⟨q1, q2⟩ | ⟨kk, q1, rfl⟩
  · rw [C_hasM q1, R_oneM r1 h10 q2]
    exact ⟨_, rfl, rfl⟩
  · rw [C_has c1 h10 q1, R_one r1 h10 q1, b1_eq, b1_eq, ifp01, ifp01]
    by_cases q : kk < dN dd
    · rw [if_pos q, if_pos q]
      have hp := (hO.2.1 kk q).2.2.2.1
      simp only [ix_nI (show kk < 10 by omega) (show 10 < 2 ^ 31 by omega), nI_clamp q1, c2 kk q, c3 kk q, c4 kk q, c5 kk q, r2 kk q, r3 kk q, r4 kk q, r5 kk q, lit32 12, nI_eq (show dp dd kk < 2 ^ 31 by omega) (show 12 < 2 ^ 31 by omega)]
      rcases R_inC v2 0 3 (by omega) (by omega) with ⟨e1, jj, -, hj, rfl⟩ | ⟨e1, e2⟩
      · rw [show f_X8_in (nI jj).toInt64 (0 : Int64) (3 : Int64) = some 1 from e1, b1_eq, if_neg n10']
        rcases (show jj = 0 ∨ jj = 1 ∨ jj = 2 ∨ jj = 3 by omega) with rfl | rfl | rfl | rfl
        · exact ⟨_, rfl, rfl⟩
        · exact ⟨_, rfl, rfl⟩
        · exact ⟨_, rfl, rfl⟩
        · by_cases q5 : dp dd kk = 12
          · simp only [if_pos q5]
            exact ⟨_, rfl, rfl⟩
          · simp only [if_neg q5]
            exact ⟨_, rfl, rfl⟩
      · rw [show f_X8_in v2.toInt64 (0 : Int64) (3 : Int64) = some 0 from e1, b1_eq, if_pos rfl]
        have z : v2 ≠ 0 ∧ v2 ≠ 1 ∧ v2 ≠ 2 ∧ v2 ≠ 3 := by
          rcases e2 with e2 | ⟨jj, e3, rfl, e4⟩
          · exact ⟨neg_ne e2 (kk := 0) (by omega), neg_ne e2 (kk := 1) (by omega), neg_ne e2 (kk := 2) (by omega), neg_ne e2 (kk := 3) (by omega)⟩
          · exact ⟨fun z => by have := (nI_eq (b := 0) e3 (by omega)).mp z; omega, fun z => by have := (nI_eq (b := 1) e3 (by omega)).mp z; omega, fun z => by have := (nI_eq (b := 2) e3 (by omega)).mp z; omega, fun z => by have := (nI_eq (b := 3) e3 (by omega)).mp z; omega⟩
        rw [if_neg z.1, if_neg z.2.1, if_neg z.2.2.1, if_neg z.2.2.2]
        exact ⟨_, rfl, rfl⟩
    · rw [if_neg q, if_neg q]
      exact ⟨_, rfl, rfl⟩
theorem sel3 {vv : Int32} (e2 : vv < 0 ∨ ∃ kk : Nat, kk < 2 ^ 31 ∧ vv = nI kk ∧ (kk < 0 ∨ 3 < kk)) : vv ≠ 0 ∧ vv ≠ 1 ∧ vv ≠ 2 ∧ vv ≠ 3 := by
  rcases e2 with e2 | ⟨jj, e3, rfl, e4⟩
  · exact ⟨neg_ne e2 (kk := 0) (by omega), neg_ne e2 (kk := 1) (by omega), neg_ne e2 (kk := 2) (by omega), neg_ne e2 (kk := 3) (by omega)⟩
  · exact ⟨fun z => by have := (nI_eq (b := 0) e3 (by omega)).mp z; omega, fun z => by have := (nI_eq (b := 1) e3 (by omega)).mp z; omega, fun z => by have := (nI_eq (b := 2) e3 (by omega)).mp z; omega, fun z => by have := (nI_eq (b := 3) e3 (by omega)).mp z; omega⟩
theorem m_car {tt : MM} {uu : SR} {dd : WD} {nn : Nat} (h : WR tt uu dd) (hn : 13 < nn) (v1 v2 : Int32) : ∃ vv, f_X7_car nn tt v1 v2 = some vv ∧ f_X8_car nn uu v1 v2 = some vv := by
  obtain ⟨hC, hR, hO, -⟩ := h
  have hX := hR.x
  unfold f_X7_car f_X8_car f_X8_isCar
  rcases R_inC v1 0 11 (by omega) (by omega) with ⟨e1, kk, -, hk, rfl⟩ | ⟨e1, e2⟩
  · rw [show f_X8_in (nI kk).toInt64 (0 : Int64) (11 : Int64) = some 1 from e1, b1_eq, bz_1, b1_eq, if_neg n10', if_neg (nI_pos (show kk < 2 ^ 31 by omega)), if_pos (show nI kk < (12 : Int32) from nI_lt (b := 12) (by omega) (by omega))]
    have hw := whoAt_lt hO kk
    simp only [C_who hC hO (show 11 < nn by omega) (show kk < 1000 by omega), R_who hX hO (show 11 < nn by omega) (show kk < 1000 by omega), b1_eq, C_load hC hO (show 11 < nn by omega) (show kk < 12 by omega), C_seats hC hO (show 11 < nn by omega) (show whoAt dd kk < 2 ^ 31 by omega), R_seats hX hO (show 11 < nn by omega) (show whoAt dd kk < 2 ^ 31 by omega), R_weight hX hO (show 11 < nn by omega) (show whoAt dd kk < 2 ^ 31 by omega), ix_nI (show kk < 12 by omega) (show 12 < 2 ^ 31 by omega), nI_clamp (show kk < 2 ^ 31 by omega), hC.2.2.2.2.2.1 kk (by omega), hR.2.2.2.2.2.1 kk (by omega), nI_add]
    rcases R_inC v2 0 3 (by omega) (by omega) with ⟨e3, jj, -, hj, rfl⟩ | ⟨e3, e4⟩
    · rw [show f_X8_in (nI jj).toInt64 (0 : Int64) (3 : Int64) = some 1 from e3, b1_eq, if_neg n10']
      rcases (show jj = 0 ∨ jj = 1 ∨ jj = 2 ∨ jj = 3 by omega) with rfl | rfl | rfl | rfl
      · exact ⟨_, rfl, by rw [Nat.add_comm (wsum dd (whoAt dd kk))]; rfl⟩
      · exact ⟨_, rfl, rfl⟩
      · exact ⟨_, rfl, rfl⟩
      · exact ⟨_, rfl, rfl⟩
    · rw [show f_X8_in v2.toInt64 (0 : Int64) (3 : Int64) = some 0 from e3, b1_eq, if_pos rfl]
      have z := sel3 e4
      rw [if_neg z.1, if_neg z.2.1, if_neg z.2.2.1, if_neg z.2.2.2]
      exact ⟨_, rfl, rfl⟩
  · rw [show f_X8_in v1.toInt64 (0 : Int64) (11 : Int64) = some 0 from e1, b1_eq, bz_0, b1_eq, if_pos rfl]
    rcases e2 with e2 | ⟨jj, e3, rfl, e4⟩
    · rw [if_pos e2]; exact ⟨_, rfl, rfl⟩
    · rw [if_neg (nI_pos e3), if_neg (show ¬ nI jj < (12 : Int32) from nI_nlt (b := 12) (by omega) e3)]
      exact ⟨_, rfl, rfl⟩
def liD (dd : WD) (li : Nat) : WD := (dN dd, dk dd, dw dd, dp dd, dsn dd, dsd dd, dmi dd, li)
theorem WR.stA {tt : MM} {uu : SR} {dd : WD} (h : WR tt uu dd) {kb : Nat} (hk : 7 ≤ kb) (gg : Nat → Int32) : WR (stA tt kb gg) uu dd := ⟨CW_stA h.1 hk, h.2⟩
theorem WR.fr {tt : MM} {uu ww : SR} {dd : WD} (h : WR tt uu dd) (hf : RFr uu ww) : WR tt ww dd := ⟨h.1, h.2.1.fr hf, h.2.2⟩
theorem ck28 : ¬ CK 28 := by unfold CK; omega
theorem ck16 {kk : Nat} (h : 1 ≤ kk ∧ kk ≤ 6) : ¬ CK kk := by unfold CK; omega
theorem m_limit {tt : MM} {uu : SR} {dd : WD} {nn : Nat} (h : WR tt uu dd) (hn : 13 < nn) (v1 : Int32) : Good tt uu (f_X7_limit nn tt v1) (f_X8_limit nn uu v1) := by
  have h0 := h
  obtain ⟨hC, hR, hO, hft⟩ := h
  unfold f_X7_limit f_X8_limit
  rcases R_inC v1 0 999 (by omega) (by omega) with ⟨e1, kk, -, hk, rfl⟩ | ⟨e1, e2⟩
  · rw [show f_X8_in (nI kk).toInt64 (0 : Int64) (999 : Int64) = some 1 from e1, b1_eq, if_neg n10', if_neg (nI_pos (show kk < 2 ^ 31 by omega)), if_pos (show nI kk ≤ (999 : Int32) from nI_le (b := 999) hk (by omega))]
    obtain ⟨g1, c1, B1⟩ := C_wAll (kb := 28) hC hO hn (by omega)
    have c2 : f_X2_isEvenWithin (stA tt 28 g1) 28 (nI kk) = some (if evB (ldA dd) kk then 1 else 0) := C_even (tt := stA tt 28 g1) (kb := 28) (li := kk) (by rw [stA_same]; exact B1) (ldm_Ok hO _) hk
    have hX2 : RX (sr1 uu 39 6 (nI kk)) (liD dd kk) := by
      obtain ⟨r1, r2, r3, r4, r5, r6, r7, r8, r9⟩ := hR
      unfold RX
      rw [sr1_ne (show 40 ≠ 39 by omega), sr1_ne (show 41 ≠ 39 by omega), sr1_ne (show 42 ≠ 39 by omega), sr1_ne (show 44 ≠ 39 by omega), sr1_o (show 4 ≠ 6 by omega), sr1_o (show 7 ≠ 6 by omega), sr1_o (show 8 ≠ 6 by omega), sr1_s]
      exact ⟨r1, r2, r3, r4, trivial, r6, r7, rfl, r9⟩
    have hO2 : DOk (liD dd kk) := ⟨hO.1, hO.2.1, hO.2.2.1, hO.2.2.2.1, hk⟩
    obtain ⟨ww, c3, hF⟩ := R_even hX2 hO2 hn
    have c3 : f_X8_isEven nn (sr1 uu 39 6 (nI kk)) = some (if evB (ldA dd) kk then 1 else 0, ww) := c3
    have hX3 := hX2.fr hF
    have k43 : ww.1 43 = uu.1 43 := by rw [hF.1 43 (by omega) (by omega), sr1_ne (by omega)]
    have hR3 : RRest uu ww := (RRest.rf.s39 (by omega) (by omega)).tr hF.rest
    rw [c1, b1_eq, c2, b1_eq, if01]
    simp only [nm_eq, c3, b1_eq, if01]
    cases evB (ldA dd) kk with
    | true =>
      refine ⟨_, _, _, liD dd kk, rfl, ?_, ⟨?_, ?_, hO2, hft⟩, (CRest.rf.sA ck28 (by omega)).s1 (ck16 (by omega)) (by omega), hR3⟩
      · rw [if_pos rfl, stA_ne tt g1 (by omega), hC.2.2.2.2.2.2.2, hR.2.2.2.2.2.2.2.1]
      · obtain ⟨k1, k2, k3, k4, k5, k6, k7, k8⟩ := CW_stA (gg := g1) hC (show 7 ≤ 28 by omega)
        unfold CW
        rw [st1_ne (show 2 ≠ 1 by omega), st1_ne (show 3 ≠ 1 by omega), st1_ne (show 4 ≠ 1 by omega), st1_ne (show 5 ≠ 1 by omega), st1_ne (show 6 ≠ 1 by omega), st1_o (show 5 ≠ 7 by omega), st1_o (show 6 ≠ 7 by omega), st1_s]
        exact ⟨k1, k2, k3, k4, k5, k6, k7, rfl⟩
      · obtain ⟨r1, r2, r3, r4, r5, r6, r7, r8, r9⟩ := hX3
        exact ⟨r1, r2, r3, r4, by rw [k43]; exact hR.2.2.2.2.1, r6, r7, r8, r9⟩
    | false =>
      refine ⟨_, _, _, dd, rfl, by rw [if_neg (by decide)], ⟨CW_stA hC (by omega), ?_, hO, hft⟩, CRest.rf.sA ck28 (by omega), hR3.s39 (by omega) (by omega)⟩
      obtain ⟨r1, r2, r3, r4, r5, r6, r7, r8, r9⟩ := hX3
      unfold RW
      rw [sr1_ne (show 40 ≠ 39 by omega), sr1_ne (show 41 ≠ 39 by omega), sr1_ne (show 42 ≠ 39 by omega), sr1_ne (show 43 ≠ 39 by omega), sr1_ne (show 44 ≠ 39 by omega), sr1_o (show 4 ≠ 6 by omega), sr1_o (show 7 ≠ 6 by omega), sr1_o (show 8 ≠ 6 by omega), sr1_s, k43]
      exact ⟨r1, r2, r3, r4, hR.2.2.2.2.1, r6, r7, hR.2.2.2.2.2.2.2.1, r9⟩
  · rw [show f_X8_in v1.toInt64 (0 : Int64) (999 : Int64) = some 0 from e1, b1_eq, if_pos rfl]
    have z : (if v1 < 0 then some ((-1 : Int32), tt) else (if v1 ≤ (999 : Int32) then b1 (f_X6_weighAll nn tt 28) (fun y_1 => b1 (f_X2_isEvenWithin y_1 28 v1) (fun y_2 => (if y_2 = 0 then some ((-2 : Int32), y_1) else nm (y_1 1 7) (fun v2_3 => nm (st1 y_1 1 7 v1) (fun t_4 => some (v2_3, t_4)))))) else some ((-1 : Int32), tt))) = some ((-1 : Int32), tt) := by
      rcases e2 with e2 | ⟨jj, e3, rfl, e4⟩
      · rw [if_pos e2]
      · rw [if_neg (nI_pos e3), if_neg (show ¬ nI jj ≤ (999 : Int32) from nI_ge (a := 999) (by omega) e3)]
    exact ⟨_, _, _, dd, z, rfl, h0, CRest.rf, RRest.rf⟩
