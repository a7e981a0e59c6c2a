/-! the law's loop: what holds between the two at every turn -/
def TOP (tt : MM) (uu : SR) : Prop := (∃ dd, WR tt uu dd) ∧ TR tt uu ∧ SH tt uu ∧ IM tt uu
def OK3 (xx : Option (Int32 × MM)) (yy : Option (Int32 × SR)) : Prop := ∃ vv t2 u2, xx = some (vv, t2) ∧ yy = some (vv, u2) ∧ TOP t2 u2
theorem TR.cong {tt ww : MM} {uu zz : SR} (h : TR tt uu) (h1 : ww 13 2 = tt 13 2) (h2 : ww 14 = tt 14) (h3 : zz.1 39 17 = uu.1 39 17) (h4 : zz.1 46 = uu.1 46) : TR ww zz := by
  unfold TR at h ⊢
  rw [h1, h2, h3, h4]
  exact h
theorem Good.top {tt : MM} {uu : SR} {xx : Option (Int32 × MM)} {yy : Option (Int32 × SR)} (h : TOP tt uu) (g : Good tt uu xx yy) : OK3 xx yy := by
  obtain ⟨-, hT, hS, hI⟩ := h
  obtain ⟨vv, t2, u2, d2, e1, e2, hW, hc, hr⟩ := g
  have ck : ∀ kk, kk = 0 ∨ (7 ≤ kk ∧ kk ≤ 12) ∨ (14 ≤ kk ∧ kk ≤ 16) ∨ (30 ≤ kk ∧ kk ≤ 37) → t2 kk = tt kk := fun kk hk => hc.1 kk hk
  exact ⟨vv, t2, u2, e1, e2, ⟨d2, hW⟩, hT.cong hc.2 (ck 14 (by omega)) hr.2.1 (hr.1 46 (by omega)), hS.cong (fun kk k1 k2 => ck kk (by omega)) (fun kk k1 k2 => hr.1 kk (by omega)), hI.cong (ck 0 (by omega)) (fun kk k1 k2 => ck kk (by omega)) hr.2.2 (hr.1 53 (by omega))⟩
theorem Good0.top {tt : MM} {uu : SR} {xx : Option (Int32 × MM)} {yy : Option (Int32 × SR)} (h : TOP tt uu) (g : Good0 tt uu xx yy) : OK3 xx yy := by
  obtain ⟨-, -, hS, hI⟩ := h
  obtain ⟨vv, t2, u2, d2, e1, e2, hW, hT, hc, hr⟩ := g
  exact ⟨vv, t2, u2, e1, e2, ⟨d2, hW⟩, hT, hS.cong (fun kk k1 k2 => hc kk (by omega)) (fun kk k1 k2 => hr.1 kk (by omega)), hI.cong (hc 0 (by omega)) (fun kk k1 k2 => hc kk (by omega)) hr.2 (hr.1 53 (by omega))⟩
theorem GoodS.top {tt : MM} {uu : SR} {xx : Option (Int32 × MM)} {yy : Option (Int32 × SR)} (h : TOP tt uu) (g : GoodS tt uu xx yy) : OK3 xx yy := by
  obtain ⟨⟨dd, hC, hR, hO, hf⟩, hT, -, hI⟩ := h
  obtain ⟨vv, t2, u2, e1, e2, hS, hc, hr⟩ := g
  exact ⟨vv, t2, u2, e1, e2, ⟨dd, hC.s0 hc, hR.s0 hr, hO, hf⟩, hT.cong (by rw [hc 13 (by omega)]) (hc 14 (by omega)) (hr.2 17 (by omega)) (hr.1 46 (by omega)), hS, hI.cong (hc 0 (by omega)) (fun kk k1 k2 => hc kk (by omega)) (hr.2 29 (by omega)) (hr.1 53 (by omega))⟩
theorem im_top {tt : MM} {uu : SR} {nn : Nat} (h : TOP tt uu) (hn : 60 < nn) : OK3 (f_X7_image tt) (f_X8_image nn uu) := by
  obtain ⟨⟨dd, hW⟩, hT, hS, -⟩ := h
  obtain ⟨vv, t2, u2, e1, e2, hI, f1, f2, f3⟩ := m_image hW hn
  obtain ⟨hC, hR, hO, hf⟩ := hW
  refine ⟨vv, t2, u2, e1, e2, ⟨dd, ?_, ?_, hO, hf⟩, hT.cong (by rw [f1 13 (by omega) (by omega)]) (f1 14 (by omega) (by omega)) (f3 17 (by omega)) (f2 46 (by omega) (by omega)), hS.cong (fun kk k1 k2 => f1 kk (by omega) (by omega)) (fun kk k1 k2 => f2 kk (by omega) (by omega)), hI⟩
  · unfold CW
    rw [f1 1 (by omega) (by omega), f1 2 (by omega) (by omega), f1 3 (by omega) (by omega), f1 4 (by omega) (by omega), f1 5 (by omega) (by omega), f1 6 (by omega) (by omega)]
    exact hC
  · unfold RW
    rw [f2 40 (by omega) (by omega), f2 41 (by omega) (by omega), f2 42 (by omega) (by omega), f2 43 (by omega) (by omega), f2 44 (by omega) (by omega), f3 4 (by omega), f3 6 (by omega), f3 7 (by omega), f3 8 (by omega)]
    exact hR
theorem l_st {xx : Option (Int32 × MM)} {yy : Option (Int32 × SR)} {v3 : Int32} (h : OK3 xx yy) : ∃ t2 u2, b1 xx (fun y_1 => b1 yy (fun y_2 => (if y_1.1 = y_2.1 then nm (v3 + 6) (fun v3_3 => some (.inr (v3_3, y_1.2, y_2.2))) else (none : Option (Unit ⊕ (Int32 × MM × SR)))))) = some (.inr (v3 + 6, t2, u2)) ∧ TOP t2 u2 := by
  obtain ⟨vv, t2, u2, rfl, rfl, h3⟩ := h
  exact ⟨t2, u2, by rw [b1_eq, b1_eq, if_pos rfl, nm_eq], h3⟩
theorem l_ro {xx yy : Option Int32} {v3 : Int32} {tt : MM} {uu : SR} (hT : TOP tt uu) (h : ∃ vv, xx = some vv ∧ yy = some vv) : ∃ t2 u2, b1 xx (fun y_1 => b1 yy (fun y_2 => (if y_1 = y_2 then nm (v3 + 6) (fun v3_3 => some (.inr (v3_3, tt, uu))) else (none : Option (Unit ⊕ (Int32 × MM × SR)))))) = some (.inr (v3 + 6, t2, u2)) ∧ TOP t2 u2 := by
  obtain ⟨vv, rfl, rfl⟩ := h
  exact ⟨tt, uu, by rw [b1_eq, b1_eq, if_pos rfl, nm_eq], hT⟩
def HI (v3 : Int32) (ll : Nat) (kk : Int32) : Prop := ∀ (aa : Option (Unit ⊕ (Int32 × MM × SR))), ix (v3 + kk) ll aa = aa
theorem s_160 {n L : Nat} {xs : Nat → Int32} {v3 : Int32} {tt : MM} {uu : SR} (hn : 21000 < n) (h : TOP tt uu) (h1 : HI v3 L 1) (h2 : HI v3 L 2) : ∃ t2 u2, f_L_law_160 n L xs v3 tt uu = some (.inr (v3 + 6, t2, u2)) ∧ TOP t2 u2 := by
  obtain ⟨dd, hW⟩ := h.1
  have g1 : ∀ (aa : Option (Unit ⊕ (Int32 × MM × SR))), ix (v3 + (1 : Int32)) L aa = aa := h1
  have g2 : ∀ (aa : Option (Unit ⊕ (Int32 × MM × SR))), ix (v3 + (2 : Int32)) L aa = aa := h2
  unfold f_L_law_160
  simp only [g1, g2]
  exact l_st ((m_person hW _ _).top h)
theorem s_193 {n L : Nat} {xs : Nat → Int32} {v3 : Int32} {tt : MM} {uu : SR} (hn : 21000 < n) (h : TOP tt uu) (h1 : HI v3 L 1) (h2 : HI v3 L 2) : ∃ t2 u2, f_L_law_193 n L xs v3 tt uu = some (.inr (v3 + 6, t2, u2)) ∧ TOP t2 u2 := by
  obtain ⟨dd, hW⟩ := h.1
  have g1 : ∀ (aa : Option (Unit ⊕ (Int32 × MM × SR))), ix (v3 + (1 : Int32)) L aa = aa := h1
  have g2 : ∀ (aa : Option (Unit ⊕ (Int32 × MM × SR))), ix (v3 + (2 : Int32)) L aa = aa := h2
  unfold f_L_law_193
  simp only [g1, g2]
  exact l_ro h (m_told hW _ _)
theorem s_226 {n L : Nat} {xs : Nat → Int32} {v3 : Int32} {tt : MM} {uu : SR} (hn : 21000 < n) (h : TOP tt uu) (h1 : HI v3 L 1) (h2 : HI v3 L 2) : ∃ t2 u2, f_L_law_226 n L xs v3 tt uu = some (.inr (v3 + 6, t2, u2)) ∧ TOP t2 u2 := by
  obtain ⟨dd, hW⟩ := h.1
  have g1 : ∀ (aa : Option (Unit ⊕ (Int32 × MM × SR))), ix (v3 + (1 : Int32)) L aa = aa := h1
  have g2 : ∀ (aa : Option (Unit ⊕ (Int32 × MM × SR))), ix (v3 + (2 : Int32)) L aa = aa := h2
  unfold f_L_law_226
  simp only [g1, g2]
  exact l_ro h (m_car hW (by omega) _ _)
theorem s_259 {n L : Nat} {xs : Nat → Int32} {v3 : Int32} {tt : MM} {uu : SR} (hn : 21000 < n) (h : TOP tt uu) (h1 : HI v3 L 1) : ∃ t2 u2, f_L_law_259 n L xs v3 tt uu = some (.inr (v3 + 6, t2, u2)) ∧ TOP t2 u2 := by
  obtain ⟨dd, hW⟩ := h.1
  have g1 : ∀ (aa : Option (Unit ⊕ (Int32 × MM × SR))), ix (v3 + (1 : Int32)) L aa = aa := h1
  unfold f_L_law_259
  simp only [g1]
  exact l_st ((m_limit hW (by omega) _).top h)
theorem s_282 {n L : Nat} {xs : Nat → Int32} {v3 : Int32} {tt : MM} {uu : SR} (hn : 21000 < n) (h : TOP tt uu) (h1 : HI v3 L 1) : ∃ t2 u2, f_L_law_282 n L xs v3 tt uu = some (.inr (v3 + 6, t2, u2)) ∧ TOP t2 u2 := by
  obtain ⟨dd, hW⟩ := h.1
  have g1 : ∀ (aa : Option (Unit ⊕ (Int32 × MM × SR))), ix (v3 + (1 : Int32)) L aa = aa := h1
  unfold f_L_law_282
  simp only [g1]
  exact l_st ((m_out hW (by omega) _).top h)
theorem s_305 {n L : Nat} {xs : Nat → Int32} {v3 : Int32} {tt : MM} {uu : SR} (hn : 21000 < n) (h : TOP tt uu) (h1 : HI v3 L 1) (h2 : HI v3 L 2) (h3 : HI v3 L 3) : ∃ t2 u2, f_L_law_305 n L xs v3 tt uu = some (.inr (v3 + 6, t2, u2)) ∧ TOP t2 u2 := by
  obtain ⟨dd, hW⟩ := h.1
  have g1 : ∀ (aa : Option (Unit ⊕ (Int32 × MM × SR))), ix (v3 + (1 : Int32)) L aa = aa := h1
  have g2 : ∀ (aa : Option (Unit ⊕ (Int32 × MM × SR))), ix (v3 + (2 : Int32)) L aa = aa := h2
  have g3 : ∀ (aa : Option (Unit ⊕ (Int32 × MM × SR))), ix (v3 + (3 : Int32)) L aa = aa := h3
  unfold f_L_law_305
  simp only [g1, g2, g3]
  exact l_st ((m_type hW h.2.1 (by omega) _ _).top h)
theorem s_368 {n L : Nat} {xs : Nat → Int32} {v3 : Int32} {tt : MM} {uu : SR} (hn : 21000 < n) (h : TOP tt uu)  : ∃ t2 u2, f_L_law_368 n L xs v3 tt uu = some (.inr (v3 + 6, t2, u2)) ∧ TOP t2 u2 := by
  obtain ⟨dd, hW⟩ := h.1
  unfold f_L_law_368
  exact l_st ((m_people hW h.2.1 (by omega) ).top h)
theorem s_381 {n L : Nat} {xs : Nat → Int32} {v3 : Int32} {tt : MM} {uu : SR} (hn : 21000 < n) (h : TOP tt uu)  : ∃ t2 u2, f_L_law_381 n L xs v3 tt uu = some (.inr (v3 + 6, t2, u2)) ∧ TOP t2 u2 := by
  obtain ⟨dd, hW⟩ := h.1
  unfold f_L_law_381
  exact l_st ((m_evening hW h.2.1 (by omega) ).top h)
theorem s_394 {n L : Nat} {xs : Nat → Int32} {v3 : Int32} {tt : MM} {uu : SR} (hn : 21000 < n) (h : TOP tt uu) (h1 : HI v3 L 1) : ∃ t2 u2, f_L_law_394 n L xs v3 tt uu = some (.inr (v3 + 6, t2, u2)) ∧ TOP t2 u2 := by
  obtain ⟨dd, hW⟩ := h.1
  have g1 : ∀ (aa : Option (Unit ⊕ (Int32 × MM × SR))), ix (v3 + (1 : Int32)) L aa = aa := h1
  unfold f_L_law_394
  simp only [g1]
  exact l_ro h (m_count hW (by omega) _)
theorem s_417 {n L : Nat} {xs : Nat → Int32} {v3 : Int32} {tt : MM} {uu : SR} (hn : 21000 < n) (h : TOP tt uu) (h1 : HI v3 L 1) : ∃ t2 u2, f_L_law_417 n L xs v3 tt uu = some (.inr (v3 + 6, t2, u2)) ∧ TOP t2 u2 := by
  obtain ⟨dd, hW⟩ := h.1
  have g1 : ∀ (aa : Option (Unit ⊕ (Int32 × MM × SR))), ix (v3 + (1 : Int32)) L aa = aa := h1
  unfold f_L_law_417
  simp only [g1]
  exact l_st ((m_board hW (by omega) _).top h)
theorem s_440 {n L : Nat} {xs : Nat → Int32} {v3 : Int32} {tt : MM} {uu : SR} (hn : 21000 < n) (h : TOP tt uu) (h1 : HI v3 L 1) : ∃ t2 u2, f_L_law_440 n L xs v3 tt uu = some (.inr (v3 + 6, t2, u2)) ∧ TOP t2 u2 := by
  obtain ⟨dd, hW⟩ := h.1
  have g1 : ∀ (aa : Option (Unit ⊕ (Int32 × MM × SR))), ix (v3 + (1 : Int32)) L aa = aa := h1
  unfold f_L_law_440
  simp only [g1]
  exact l_st ((m_leave hW (by omega) _).top h)
theorem s_463 {n L : Nat} {xs : Nat → Int32} {v3 : Int32} {tt : MM} {uu : SR} (hn : 21000 < n) (h : TOP tt uu) (h1 : HI v3 L 1) : ∃ t2 u2, f_L_law_463 n L xs v3 tt uu = some (.inr (v3 + 6, t2, u2)) ∧ TOP t2 u2 := by
  obtain ⟨dd, hW⟩ := h.1
  have g1 : ∀ (aa : Option (Unit ⊕ (Int32 × MM × SR))), ix (v3 + (1 : Int32)) L aa = aa := h1
  unfold f_L_law_463
  simp only [g1]
  exact l_st ((m_sand hW (by omega) _).top h)
theorem s_486 {n L : Nat} {xs : Nat → Int32} {v3 : Int32} {tt : MM} {uu : SR} (hn : 21000 < n) (h : TOP tt uu) (h1 : HI v3 L 1) : ∃ t2 u2, f_L_law_486 n L xs v3 tt uu = some (.inr (v3 + 6, t2, u2)) ∧ TOP t2 u2 := by
  obtain ⟨dd, hW⟩ := h.1
  have g1 : ∀ (aa : Option (Unit ⊕ (Int32 × MM × SR))), ix (v3 + (1 : Int32)) L aa = aa := h1
  unfold f_L_law_486
  simp only [g1]
  exact l_st ((m_turn hW _).top h)
theorem s_509 {n L : Nat} {xs : Nat → Int32} {v3 : Int32} {tt : MM} {uu : SR} (hn : 21000 < n) (h : TOP tt uu) (h1 : HI v3 L 1) : ∃ t2 u2, f_L_law_509 n L xs v3 tt uu = some (.inr (v3 + 6, t2, u2)) ∧ TOP t2 u2 := by
  obtain ⟨dd, hW⟩ := h.1
  have g1 : ∀ (aa : Option (Unit ⊕ (Int32 × MM × SR))), ix (v3 + (1 : Int32)) L aa = aa := h1
  unfold f_L_law_509
  simp only [g1]
  exact l_st ((m_may hW (by omega) _).top h)
theorem s_532 {n L : Nat} {xs : Nat → Int32} {v3 : Int32} {tt : MM} {uu : SR} (hn : 21000 < n) (h : TOP tt uu) (h1 : HI v3 L 1) (h2 : HI v3 L 2) : ∃ t2 u2, f_L_law_532 n L xs v3 tt uu = some (.inr (v3 + 6, t2, u2)) ∧ TOP t2 u2 := by
  obtain ⟨dd, hW⟩ := h.1
  have g1 : ∀ (aa : Option (Unit ⊕ (Int32 × MM × SR))), ix (v3 + (1 : Int32)) L aa = aa := h1
  have g2 : ∀ (aa : Option (Unit ⊕ (Int32 × MM × SR))), ix (v3 + (2 : Int32)) L aa = aa := h2
  unfold f_L_law_532
  simp only [g1, g2]
  exact l_st ((m_soonest hW (by omega) _ _).top h)
theorem s_565 {n L : Nat} {xs : Nat → Int32} {v3 : Int32} {tt : MM} {uu : SR} (hn : 21000 < n) (h : TOP tt uu) (h1 : HI v3 L 1) (h2 : HI v3 L 2) (h3 : HI v3 L 3) : ∃ t2 u2, f_L_law_565 n L xs v3 tt uu = some (.inr (v3 + 6, t2, u2)) ∧ TOP t2 u2 := by
  obtain ⟨dd, hW⟩ := h.1
  have g1 : ∀ (aa : Option (Unit ⊕ (Int32 × MM × SR))), ix (v3 + (1 : Int32)) L aa = aa := h1
  have g2 : ∀ (aa : Option (Unit ⊕ (Int32 × MM × SR))), ix (v3 + (2 : Int32)) L aa = aa := h2
  have g3 : ∀ (aa : Option (Unit ⊕ (Int32 × MM × SR))), ix (v3 + (3 : Int32)) L aa = aa := h3
  unfold f_L_law_565
  simp only [g1, g2, g3]
  exact l_st ((m_when hW (by omega) _ _ _).top h)
theorem s_608 {n L : Nat} {xs : Nat → Int32} {v3 : Int32} {tt : MM} {uu : SR} (hn : 21000 < n) (h : TOP tt uu)  : ∃ t2 u2, f_L_law_608 n L xs v3 tt uu = some (.inr (v3 + 6, t2, u2)) ∧ TOP t2 u2 := by
  obtain ⟨dd, hW⟩ := h.1
  unfold f_L_law_608
  exact l_st ((m_empty hW (by omega) ).top h)
theorem s_621 {n L : Nat} {xs : Nat → Int32} {v3 : Int32} {tt : MM} {uu : SR} (hn : 21000 < n) (h : TOP tt uu) (h1 : HI v3 L 1) (h2 : HI v3 L 2) : ∃ t2 u2, f_L_law_621 n L xs v3 tt uu = some (.inr (v3 + 6, t2, u2)) ∧ TOP t2 u2 := by
  obtain ⟨dd, hW⟩ := h.1
  have g1 : ∀ (aa : Option (Unit ⊕ (Int32 × MM × SR))), ix (v3 + (1 : Int32)) L aa = aa := h1
  have g2 : ∀ (aa : Option (Unit ⊕ (Int32 × MM × SR))), ix (v3 + (2 : Int32)) L aa = aa := h2
  unfold f_L_law_621
  simp only [g1, g2]
  exact l_st ((m_least hW (by omega) _ _).top h)
theorem s_654 {n L : Nat} {xs : Nat → Int32} {v3 : Int32} {tt : MM} {uu : SR} (hn : 21000 < n) (h : TOP tt uu) (h1 : HI v3 L 1) : ∃ t2 u2, f_L_law_654 n L xs v3 tt uu = some (.inr (v3 + 6, t2, u2)) ∧ TOP t2 u2 := by
  obtain ⟨dd, hW⟩ := h.1
  have g1 : ∀ (aa : Option (Unit ⊕ (Int32 × MM × SR))), ix (v3 + (1 : Int32)) L aa = aa := h1
  unfold f_L_law_654
  simp only [g1]
  exact l_st ((m_sure hW (by omega) _).top h)
theorem s_677 {n L : Nat} {xs : Nat → Int32} {v3 : Int32} {tt : MM} {uu : SR} (hn : 21000 < n) (h : TOP tt uu) (h1 : HI v3 L 1) (h2 : HI v3 L 2) : ∃ t2 u2, f_L_law_677 n L xs v3 tt uu = some (.inr (v3 + 6, t2, u2)) ∧ TOP t2 u2 := by
  obtain ⟨dd, hW⟩ := h.1
  have g1 : ∀ (aa : Option (Unit ⊕ (Int32 × MM × SR))), ix (v3 + (1 : Int32)) L aa = aa := h1
  have g2 : ∀ (aa : Option (Unit ⊕ (Int32 × MM × SR))), ix (v3 + (2 : Int32)) L aa = aa := h2
  unfold f_L_law_677
  simp only [g1, g2]
  exact l_st ((m_worst hW (by omega) _ _).top h)
theorem s_710 {n L : Nat} {xs : Nat → Int32} {v3 : Int32} {tt : MM} {uu : SR} (hn : 21000 < n) (h : TOP tt uu)  : ∃ t2 u2, f_L_law_710 n L xs v3 tt uu = some (.inr (v3 + 6, t2, u2)) ∧ TOP t2 u2 := by
  obtain ⟨dd, hW⟩ := h.1
  unfold f_L_law_710
  exact l_st (im_top h (by omega))
theorem s_723 {n L : Nat} {xs : Nat → Int32} {v3 : Int32} {tt : MM} {uu : SR} (hn : 21000 < n) (h : TOP tt uu)  : ∃ t2 u2, f_L_law_723 n L xs v3 tt uu = some (.inr (v3 + 6, t2, u2)) ∧ TOP t2 u2 := by
  obtain ⟨dd, hW⟩ := h.1
  unfold f_L_law_723
  exact l_st ((m_restore hW h.2.2.2 (by omega)).top h)
theorem s_736 {n L : Nat} {xs : Nat → Int32} {v3 : Int32} {tt : MM} {uu : SR} (hn : 21000 < n) (h : TOP tt uu) (h1 : HI v3 L 1) (h2 : HI v3 L 2) (h3 : HI v3 L 3) : ∃ t2 u2, f_L_law_736 n L xs v3 tt uu = some (.inr (v3 + 6, t2, u2)) ∧ TOP t2 u2 := by
  obtain ⟨dd, hW⟩ := h.1
  have g1 : ∀ (aa : Option (Unit ⊕ (Int32 × MM × SR))), ix (v3 + (1 : Int32)) L aa = aa := h1
  have g2 : ∀ (aa : Option (Unit ⊕ (Int32 × MM × SR))), ix (v3 + (2 : Int32)) L aa = aa := h2
  have g3 : ∀ (aa : Option (Unit ⊕ (Int32 × MM × SR))), ix (v3 + (3 : Int32)) L aa = aa := h3
  unfold f_L_law_736
  simp only [g1, g2, g3]
  exact l_st ((m_pour hW h.2.2.1 (by omega) _ _ _).top h)
theorem s_779 {n L : Nat} {xs : Nat → Int32} {v3 : Int32} {tt : MM} {uu : SR} (hn : 21000 < n) (h : TOP tt uu) (h1 : HI v3 L 1) (h2 : HI v3 L 2) (h3 : HI v3 L 3) : ∃ t2 u2, f_L_law_779 n L xs v3 tt uu = some (.inr (v3 + 6, t2, u2)) ∧ TOP t2 u2 := by
  obtain ⟨dd, hW⟩ := h.1
  have g1 : ∀ (aa : Option (Unit ⊕ (Int32 × MM × SR))), ix (v3 + (1 : Int32)) L aa = aa := h1
  have g2 : ∀ (aa : Option (Unit ⊕ (Int32 × MM × SR))), ix (v3 + (2 : Int32)) L aa = aa := h2
  have g3 : ∀ (aa : Option (Unit ⊕ (Int32 × MM × SR))), ix (v3 + (3 : Int32)) L aa = aa := h3
  unfold f_L_law_779
  simp only [g1, g2, g3]
  exact l_st ((m_film hW h.2.2.1 (by omega) _ _ _).top h)
theorem s_822 {n L : Nat} {xs : Nat → Int32} {v3 : Int32} {tt : MM} {uu : SR} (hn : 21000 < n) (h : TOP tt uu) (h1 : HI v3 L 1) (h2 : HI v3 L 2) (h3 : HI v3 L 3) : ∃ t2 u2, f_L_law_822 n L xs v3 tt uu = some (.inr (v3 + 6, t2, u2)) ∧ TOP t2 u2 := by
  obtain ⟨dd, hW⟩ := h.1
  have g1 : ∀ (aa : Option (Unit ⊕ (Int32 × MM × SR))), ix (v3 + (1 : Int32)) L aa = aa := h1
  have g2 : ∀ (aa : Option (Unit ⊕ (Int32 × MM × SR))), ix (v3 + (2 : Int32)) L aa = aa := h2
  have g3 : ∀ (aa : Option (Unit ⊕ (Int32 × MM × SR))), ix (v3 + (3 : Int32)) L aa = aa := h3
  unfold f_L_law_822
  simp only [g1, g2, g3]
  exact l_st ((m_sheet h.2.2.1 (by omega) _ _ _).top h)
theorem s_865 {n L : Nat} {xs : Nat → Int32} {v3 : Int32} {tt : MM} {uu : SR} (hn : 21000 < n) (h : TOP tt uu) (h1 : HI v3 L 1) : ∃ t2 u2, f_L_law_865 n L xs v3 tt uu = some (.inr (v3 + 6, t2, u2)) ∧ TOP t2 u2 := by
  obtain ⟨dd, hW⟩ := h.1
  have g1 : ∀ (aa : Option (Unit ⊕ (Int32 × MM × SR))), ix (v3 + (1 : Int32)) L aa = aa := h1
  unfold f_L_law_865
  simp only [g1]
  exact l_st ((m_drop h.2.2.1 _).top h)
theorem s_888 {n L : Nat} {xs : Nat → Int32} {v3 : Int32} {tt : MM} {uu : SR} (hn : 21000 < n) (h : TOP tt uu) (h1 : HI v3 L 1) (h2 : HI v3 L 2) (h3 : HI v3 L 3) (h4 : HI v3 L 4) : ∃ t2 u2, f_L_law_888 n L xs v3 tt uu = some (.inr (v3 + 6, t2, u2)) ∧ TOP t2 u2 := by
  obtain ⟨dd, hW⟩ := h.1
  have g1 : ∀ (aa : Option (Unit ⊕ (Int32 × MM × SR))), ix (v3 + (1 : Int32)) L aa = aa := h1
  have g2 : ∀ (aa : Option (Unit ⊕ (Int32 × MM × SR))), ix (v3 + (2 : Int32)) L aa = aa := h2
  have g3 : ∀ (aa : Option (Unit ⊕ (Int32 × MM × SR))), ix (v3 + (3 : Int32)) L aa = aa := h3
  have g4 : ∀ (aa : Option (Unit ⊕ (Int32 × MM × SR))), ix (v3 + (4 : Int32)) L aa = aa := h4
  unfold f_L_law_888
  simp only [g1, g2, g3, g4]
  exact l_st ((m_item h.2.2.1 _ _ _ _).top h)
theorem s_941 {n L : Nat} {xs : Nat → Int32} {v3 : Int32} {tt : MM} {uu : SR} (hn : 21000 < n) (h : TOP tt uu) (h1 : HI v3 L 1) (h2 : HI v3 L 2) (h3 : HI v3 L 3) (h4 : HI v3 L 4) (h5 : HI v3 L 5) : ∃ t2 u2, f_L_law_941 n L xs v3 tt uu = some (.inr (v3 + 6, t2, u2)) ∧ TOP t2 u2 := by
  obtain ⟨dd, hW⟩ := h.1
  have g1 : ∀ (aa : Option (Unit ⊕ (Int32 × MM × SR))), ix (v3 + (1 : Int32)) L aa = aa := h1
  have g2 : ∀ (aa : Option (Unit ⊕ (Int32 × MM × SR))), ix (v3 + (2 : Int32)) L aa = aa := h2
  have g3 : ∀ (aa : Option (Unit ⊕ (Int32 × MM × SR))), ix (v3 + (3 : Int32)) L aa = aa := h3
  have g4 : ∀ (aa : Option (Unit ⊕ (Int32 × MM × SR))), ix (v3 + (4 : Int32)) L aa = aa := h4
  have g5 : ∀ (aa : Option (Unit ⊕ (Int32 × MM × SR))), ix (v3 + (5 : Int32)) L aa = aa := h5
  unfold f_L_law_941
  simp only [g1, g2, g3, g4, g5]
  exact l_st ((m_copy h.2.2.1 (by omega) _ _ _ _ _).top h)
theorem law_step {n L : Nat} {xs : Nat → Int32} {v3 : Int32} {tt : MM} {uu : SR} (hn : 21000 < n) (h : TOP tt uu) (hx : ¬ ((Int32.ofNat L) - (6 : Int32)) < v3) (h0 : ∀ (aa : Option (Unit ⊕ (Int32 × MM × SR))), ix v3 L aa = aa) (h1 : HI v3 L 1) (h2 : HI v3 L 2) (h3 : HI v3 L 3) (h4 : HI v3 L 4) (h5 : HI v3 L 5) : ∃ t2 u2, lb_law n L xs v3 tt uu = some (.inr (v3 + 6, t2, u2)) ∧ TOP t2 u2 := by
  unfold lb_law
  rw [if_neg hx, h0]
  generalize (xs v3.toNatClampNeg) &&& (31 : Int32) = ck
  by_cases q0 : ck = 0
  · rw [if_pos q0]
    exact s_160 hn h h1 h2
  rw [if_neg q0]
  by_cases q1 : ck = 1
  · rw [if_pos q1]
    exact s_193 hn h h1 h2
  rw [if_neg q1]
  by_cases q2 : ck = 2
  · rw [if_pos q2]
    exact s_226 hn h h1 h2
  rw [if_neg q2]
  by_cases q3 : ck = 3
  · rw [if_pos q3]
    exact s_259 hn h h1
  rw [if_neg q3]
  by_cases q4 : ck = 4
  · rw [if_pos q4]
    exact s_282 hn h h1
  rw [if_neg q4]
  by_cases q5 : ck = 5
  · rw [if_pos q5]
    exact s_305 hn h h1 h2 h3
  rw [if_neg q5]
  by_cases q6 : ck = 6
  · rw [if_pos q6]
    exact s_368 hn h 
  rw [if_neg q6]
  by_cases q7 : ck = 7
  · rw [if_pos q7]
    exact s_381 hn h 
  rw [if_neg q7]
  by_cases q8 : ck = 8
  · rw [if_pos q8]
    exact s_394 hn h h1
  rw [if_neg q8]
  by_cases q9 : ck = 9
  · rw [if_pos q9]
    exact s_417 hn h h1
  rw [if_neg q9]
  by_cases q10 : ck = 10
  · rw [if_pos q10]
    exact s_440 hn h h1
  rw [if_neg q10]
  by_cases q11 : ck = 11
  · rw [if_pos q11]
    exact s_463 hn h h1
  rw [if_neg q11]
  by_cases q12 : ck = 12
  · rw [if_pos q12]
    exact s_486 hn h h1
  rw [if_neg q12]
  by_cases q13 : ck = 13
  · rw [if_pos q13]
    exact s_509 hn h h1
  rw [if_neg q13]
  by_cases q14 : ck = 14
  · rw [if_pos q14]
    exact s_532 hn h h1 h2
  rw [if_neg q14]
  by_cases q15 : ck = 15
  · rw [if_pos q15]
    exact s_565 hn h h1 h2 h3
  rw [if_neg q15]
  by_cases q16 : ck = 16
  · rw [if_pos q16]
    exact s_608 hn h 
  rw [if_neg q16]
  by_cases q17 : ck = 17
  · rw [if_pos q17]
    exact s_621 hn h h1 h2
  rw [if_neg q17]
  by_cases q18 : ck = 18
  · rw [if_pos q18]
    exact s_654 hn h h1
  rw [if_neg q18]
  by_cases q19 : ck = 19
  · rw [if_pos q19]
    exact s_677 hn h h1 h2
  rw [if_neg q19]
  by_cases q20 : ck = 20
  · rw [if_pos q20]
    exact s_710 hn h 
  rw [if_neg q20]
  by_cases q21 : ck = 21
  · rw [if_pos q21]
    exact s_723 hn h 
  rw [if_neg q21]
  by_cases q22 : ck = 22
  · rw [if_pos q22]
    exact s_736 hn h h1 h2 h3
  rw [if_neg q22]
  by_cases q23 : ck = 23
  · rw [if_pos q23]
    exact s_779 hn h h1 h2 h3
  rw [if_neg q23]
  by_cases q24 : ck = 24
  · rw [if_pos q24]
    exact s_822 hn h h1 h2 h3
  rw [if_neg q24]
  by_cases q25 : ck = 25
  · rw [if_pos q25]
    exact s_865 hn h h1
  rw [if_neg q25]
  by_cases q26 : ck = 26
  · rw [if_pos q26]
    exact s_888 hn h h1 h2 h3 h4
  rw [if_neg q26]
  by_cases q27 : ck = 27
  · rw [if_pos q27]
    exact s_941 hn h h1 h2 h3 h4 h5
  rw [if_neg q27]
  exact ⟨tt, uu, rfl, h⟩
/-! the start -/
def d00 : WD := (0, fun _ => 0, fun _ => 0, fun _ => 0, fun _ => 0, fun _ => 0, 0, 20)
theorem top_00 : TOP t00 u00 := by
  refine ⟨⟨d00, ?_, ?_, ?_, ?_⟩, TR_0 rfl rfl, ?_, Or.inl ⟨rfl, rfl⟩⟩
  · refine ⟨rfl, fun ii hi => absurd hi (Nat.not_lt_zero ii), fun ii hi => absurd hi (Nat.not_lt_zero ii), fun ii hi => absurd hi (Nat.not_lt_zero ii), fun ii hi => absurd hi (Nat.not_lt_zero ii), fun cc hc => rfl, rfl, rfl⟩
  · refine ⟨rfl, fun ii hi => absurd hi (Nat.not_lt_zero ii), fun ii hi => absurd hi (Nat.not_lt_zero ii), fun ii hi => absurd hi (Nat.not_lt_zero ii), fun ii hi => absurd hi (Nat.not_lt_zero ii), fun cc hc => rfl, rfl, rfl, rfl⟩
  · exact ⟨Nat.zero_le _, fun ii hi => absurd hi (Nat.not_lt_zero ii), fun cc hc => Nat.zero_le _, Nat.zero_le _, show 20 ≤ 999 by omega⟩
  · exact fun cc hc => noD_fit d00 cc hc
  · intro ii hi
    rcases (show ii = 0 ∨ ii = 1 ∨ ii = 2 ∨ ii = 3 by omega) with rfl | rfl | rfl | rfl
    · exact ⟨0, by omega, rfl, rfl, Or.inl ⟨rfl, rfl⟩, fun jj hj => rfl⟩
    · exact ⟨0, by omega, rfl, rfl, Or.inl ⟨rfl, rfl⟩, fun jj hj => rfl⟩
    · exact ⟨0, by omega, rfl, rfl, Or.inl ⟨rfl, rfl⟩, fun jj hj => rfl⟩
    · exact ⟨0, by omega, rfl, rfl, Or.inl ⟨rfl, rfl⟩, fun jj hj => rfl⟩
theorem pure_law (L : Nat) (xs : Nat → Int32) (hL : L ≤ 3072) : ∃ (n : Nat) (x : Unit), it3 (lb_law n L xs) n 0 t00 u00 = some x := by
  refine ⟨30000, ?_⟩
  obtain ⟨x, h1, -⟩ := it3_inv (bb := lb_law 30000 L xs) (fun kx v3 tt uu => v3 = nI (6 * kx) ∧ 6 * kx ≤ L + 6 ∧ TOP tt uu) 600 (fun _ => True) (by
    rintro kx v3 tt uu hle ⟨rfl, hk, hT⟩
    have ee : (Int32.ofNat L) - (6 : Int32) = iI ((L : Int) - 6) := by
      rw [show Int32.ofNat L = nI L from rfl, ← iI_nat L, show (6 : Int32) = iI 6 by decide, iI_sub]
    have hcmp : ((Int32.ofNat L) - (6 : Int32)) < nI (6 * kx) ↔ (L : Int) - 6 < (6 * kx : Nat) := by
      rw [ee, fa_lt, iI_toInt (by omega) (by omega), nI_toInt (by omega)]
    by_cases q : (L : Int) - 6 < (6 * kx : Nat)
    · right
      refine ⟨(), ?_, trivial⟩
      unfold lb_law
      rw [if_pos (hcmp.mpr q)]
    · left
      have hi : ∀ jj : Nat, jj ≤ 5 → HI (nI (6 * kx)) L (nI jj) := fun jj hj aa => by
        rw [nI_add]
        exact ix_nI (by omega) (by omega)
      obtain ⟨t2, u2, e1, hT2⟩ := law_step (n := 30000) (xs := xs) (by omega) hT (fun z => q (hcmp.mp z)) (fun aa => ix_nI (by omega) (by omega)) (hi 1 (by omega)) (hi 2 (by omega)) (hi 3 (by omega)) (hi 4 (by omega)) (hi 5 (by omega))
      refine ⟨by omega, nI (6 * kx) + 6, t2, u2, e1, ?_, by omega, hT2⟩
      exact nI_add (6 * kx) 6) 30000 0 t00 u00 (by omega) ⟨rfl, by omega, top_00⟩
  exact ⟨x, h1⟩
