/-! all out: the reference -/
def REf (uu ww : SR) : Prop := (∀ kk, kk ≠ 39 → kk ≠ 45 → kk ≠ 51 → kk ≠ 52 → ww.1 kk = uu.1 kk) ∧ (∀ jj, ¬ (10 ≤ jj ∧ jj ≤ 13) → ww.1 39 jj = uu.1 39 jj)
theorem REf.rf {uu : SR} : REf uu uu := ⟨fun _ _ _ _ _ => rfl, fun _ _ => rfl⟩
theorem REf.tr {uu vv ww : SR} (h1 : REf uu vv) (h2 : REf vv ww) : REf uu ww := ⟨fun kk a1 a2 a3 a4 => (h2.1 kk a1 a2 a3 a4).trans (h1.1 kk a1 a2 a3 a4), fun jj a1 => (h2.2 jj a1).trans (h1.2 jj a1)⟩
theorem RFr.ef {uu ww : SR} (h : RFr uu ww) : REf uu ww := ⟨fun kk a1 a2 _ _ => h.1 kk a1 a2, h.2.1⟩
theorem REf.s5 {uu ww : SR} {kk jj : Nat} {vv : Int32} (h : REf uu ww) (hk : kk = 51 ∨ kk = 52) : REf uu (sr1 ww kk jj vv) := ⟨fun xx a1 a2 a3 a4 => by rw [sr1_ne (by omega)]; exact h.1 xx a1 a2 a3 a4, fun xx a1 => by rw [sr1_ne (by omega)]; exact h.2 xx a1⟩
theorem RW.ef {uu ww : SR} {dd : WD} (h : RW uu dd) (hf : REf uu ww) : RW ww dd := by
  unfold RW at h ⊢
  rw [hf.1 40 (by omega) (by omega) (by omega) (by omega), hf.1 41 (by omega) (by omega) (by omega) (by omega), hf.1 42 (by omega) (by omega) (by omega) (by omega), hf.1 43 (by omega) (by omega) (by omega) (by omega), hf.1 44 (by omega) (by omega) (by omega) (by omega), hf.2 4 (by omega), hf.2 6 (by omega), hf.2 7 (by omega), hf.2 8 (by omega)]
  exact h
theorem RX.ef {uu ww : SR} {dd : WD} (h : RX uu dd) (hf : REf uu ww) : RX ww dd := by
  unfold RX at h ⊢
  rw [hf.1 40 (by omega) (by omega) (by omega) (by omega), hf.1 41 (by omega) (by omega) (by omega) (by omega), hf.1 42 (by omega) (by omega) (by omega) (by omega), hf.1 44 (by omega) (by omega) (by omega) (by omega), hf.2 4 (by omega), hf.2 6 (by omega), hf.2 7 (by omega), hf.2 8 (by omega)]
  exact h
theorem REf.rest {uu ww : SR} (h : REf uu ww) : RRest uu ww := ⟨fun kk hk => h.1 kk (by omega) (by omega) (by omega) (by omega), h.2 17 (by omega), h.2 29 (by omega)⟩
theorem R_sandE {uu : SR} {sd : Nat → Nat} {nn : Nat} {v1 : Int32} (c6 : ∀ cc, cc < 12 → uu.1 44 cc = nI (sd cc)) (hn : 13 < nn) : ∃ ww, it2 (lb_X8_isEvenWith_2 nn v1) nn (0 : Int32) uu = some ww ∧ RFr uu ww ∧ ∀ cc, cc < 12 → ww.1 45 cc = iI (sd cc : Int) := by
  obtain ⟨xx, h1, h2⟩ := it2_inv (bb := lb_X8_isEvenWith_2 nn v1) (fun ii v1 ww => v1 = nI ii ∧ RFr uu ww ∧ ∀ cc, cc < ii → ww.1 45 cc = iI (sd cc : Int)) 12 (fun ww => RFr uu ww ∧ ∀ cc, cc < 12 → ww.1 45 cc = iI (sd cc : Int)) (by
    rintro ii v1 ww hle ⟨rfl, hF, hL⟩
    by_cases h : ii < 12
    · refine Or.inl ⟨h, ?_⟩
      have g1 : ¬ (12 : Int32) ≤ nI ii := nI_ge (b := 12) h (by omega)
      simp only [lb_X8_isEvenWith_2, if_neg g1, ix_nI h (show 12 < 2 ^ 31 by omega), nI_clamp (show ii < 2 ^ 31 by omega), nm_eq, nI_1]
      refine ⟨_, _, rfl, rfl, hF.w45 _ _, fun cc hc => ?_⟩
      rw [sr1_at]
      by_cases h3 : cc = ii
      · subst h3
        rw [if_pos rfl, hF.1 44 (by omega) (by omega), c6 cc h, iI_nat]
      · rw [if_neg h3]
        exact hL cc (by omega)
    · refine Or.inr ?_
      have e : ii = 12 := by omega
      subst e
      have g1 : (12 : Int32) ≤ nI 12 := by decide
      simp only [lb_X8_isEvenWith_2, if_pos g1]
      exact ⟨_, rfl, hF, hL⟩) nn 0 uu (by omega) ⟨rfl, RFr.rf, fun cc hc => absurd hc (by omega)⟩
  exact ⟨xx, h1, h2.1, h2.2⟩
theorem R_evW {uu : SR} {dd : WD} {nn ss : Nat} (hX : RX uu dd) (hO : DOk dd) (hs : sb ss (ridS dd)) (hn : 13 < nn) : ∃ ww, f_X8_isEvenWith nn uu (nI ss) = some (if evB (ldm dd ss) (dli dd) then 1 else 0, ww) ∧ RFr uu ww := by
  have h10 := hO.1
  have hr := ridS_lt hO
  have hsl := hs.le
  obtain ⟨w0, e0, F0', L0⟩ := R_sandE (nn := nn) (v1 := nI ss) hX.2.2.2.2.2.1 hn
  obtain ⟨c1, c2, c3, c4, c5, c6, c7, c8, c9⟩ := hX.fr F0'
  obtain ⟨w1, h1, F1', L1⟩ := it2_inv (bb := lb_X8_isEvenWith_28 nn (nI ss)) (fun ii v2 ww => v2 = nI ii ∧ RFr w0 ww ∧ ∀ cc, cc < 12 → ww.1 45 cc = iI ((dsd dd cc : Int) + (nsum (lm dd ss cc) ii : Int))) (dN dd) (fun ww => RFr w0 ww ∧ ∀ cc, cc < 12 → ww.1 45 cc = iI (ldm dd ss cc)) (by
    rintro ii v2 ww hle ⟨rfl, hF, hL⟩
    have k1 : ww.1 39 4 = nI (dN dd) := (hF.2.1 4 (by omega)).trans c1
    unfold lb_X8_isEvenWith_28
    by_cases h : ii < dN dd
    · have k3 : ww.1 41 ii = nI (dw dd ii) := by rw [hF.1 41 (by omega) (by omega)]; exact c3 ii h
      have k4 : ww.1 42 ii = nI (dp dd ii) := by rw [hF.1 42 (by omega) (by omega)]; exact c4 ii h
      rw [k1, if_neg (nI_ge h (by omega)), R_has (by omega) (show ii < 31 by omega), b1_eq, if01]
      by_cases q : ss.testBit ii = true
      · have hp : dp dd ii < 12 := (rb_t (hs ii q)).2
        rw [if_pos q]
        simp only [ix_nI (show ii < 10 by omega) (show 10 < 2 ^ 31 by omega), nI_clamp (show ii < 2 ^ 31 by omega), k3, k4, ix_nI hp (show 12 < 2 ^ 31 by omega), nI_clamp (show dp dd ii < 2 ^ 31 by omega), nm_eq, nI_1]
        refine Or.inl ⟨h, _, _, rfl, rfl, hF.w45 _ _, fun cc hc => ?_⟩
        rw [sr1_at, nsum, lm]
        by_cases h5 : cc = dp dd ii
        · subst h5
          rw [if_pos rfl, if_pos ⟨q, rfl⟩, hL _ hp, ← iI_nat (dw dd ii), iI_add]
          congr 1
          rw [Int.natCast_add]
          omega
        · rw [if_neg h5, if_neg (fun z => h5 z.2.symm), Nat.add_zero]
          exact hL cc hc
      · rw [if_neg q, nm_eq, nI_1]
        refine Or.inl ⟨h, _, _, rfl, rfl, hF, fun cc hc => ?_⟩
        rw [nsum, lm, if_neg (fun z => q z.1), Nat.add_zero]
        exact hL cc hc
    · have e : ii = dN dd := by omega
      subst e
      rw [k1, if_pos (nI_le (Nat.le_refl (dN dd)) (by omega))]
      exact Or.inr ⟨_, rfl, hF, hL⟩) nn 0 w0 (by omega) ⟨rfl, RFr.rf, fun cc hc => by rw [L0 cc hc]; simp [nsum]⟩
  have hX1 := (hX.fr F0').fr F1'
  obtain ⟨w2, e2, F2', -⟩ := R_evenNow (nn := nn) (li := dli dd) L1 (ldm_Ok hO ss) hn hX1.2.2.2.2.2.2.2.1 hO.2.2.2.2
  refine ⟨w2, ?_, (F0'.tr F1').tr F2'⟩
  unfold f_X8_isEvenWith
  rw [e0, b1_eq, h1, b1_eq, e2, b1_eq, bz_01]
def RT2 (mm ce : Nat) (uu : SR) (PP : Nat → Prop) : Prop := ∀ ss, ss < mm → b01 (PP ss) (uu.1 ce ss)
theorem nb0 : vp_nar .boolean (0 : Int32) = 0 := by decide
theorem nb1 : vp_nar .boolean (1 : Int32) = 1 := by decide
theorem b01_n {pp : Prop} {vv : Int32} (h : b01 pp vv) : vp_nar .boolean vv = vv := by
  rcases h with ⟨_, rfl⟩ | ⟨_, rfl⟩
  · exact nb1
  · exact nb0
theorem b01_iff {pp qq : Prop} {vv : Int32} (h : b01 pp vv) (e : pp ↔ qq) : b01 qq vv := by
  rcases h with ⟨a, rfl⟩ | ⟨a, rfl⟩
  · exact Or.inl ⟨e.mp a, rfl⟩
  · exact Or.inr ⟨fun z => a (e.mpr z), rfl⟩
/-- one set's parts that may get out, into the row that is to be -/
theorem R_out1 {u0 : SR} {dd : WD} {nn hr set mm : Nat} {TT : Nat → Prop} (hX : RX u0 dd) (hO : DOk dd) (hset : sb set (ridS dd)) (hm : set < mm) (hm2 : mm ≤ 1024) (hT : RT2 mm 52 u0 TT) (hn : 1100 < nn) : ∃ u2, it2 (lb_X8_getOut_62 nn (nI hr) (nI set) (nI (set &&& hr))) nn (nI (set &&& hr)) u0 = some u2 ∧ REf u0 u2 ∧ u2.1 51 = u0.1 51 ∧ RT2 mm 52 u2 (fun ss => TT ss ∨ (okR dd ss hr = true ∧ reach hr set ss)) := by
  have hrl := ridS_lt hO
  have hsl := hset.le
  have hab : set &&& hr ≤ set := Nat.and_le_left
  obtain ⟨u2, h1, hF, h51, hT2⟩ := it2_inv (bb := lb_X8_getOut_62 nn (nI hr) (nI set) (nI (set &&& hr))) (fun idx v4 u2 => ∃ xx, v4 = nI xx ∧ sb xx (set &&& hr) ∧ xx + idx ≤ set &&& hr ∧ REf u0 u2 ∧ u2.1 51 = u0.1 51 ∧ RT2 mm 52 u2 (fun ss => TT ss ∨ (okR dd ss hr = true ∧ ∃ out, xx < out ∧ sb out (set &&& hr) ∧ ss = andn set out))) (set &&& hr) (fun u2 => REf u0 u2 ∧ u2.1 51 = u0.1 51 ∧ RT2 mm 52 u2 (fun ss => TT ss ∨ (okR dd ss hr = true ∧ ∃ out, 0 < out ∧ sb out (set &&& hr) ∧ ss = andn set out))) (by
    rintro idx v4 u2 hle ⟨xx, rfl, hx, hxi, hF, h51, hT2⟩
    unfold lb_X8_getOut_62
    by_cases q : xx = 0
    · subst q
      rw [if_pos (show nI 0 = (0 : Int32) from rfl)]
      exact Or.inr ⟨_, rfl, hF, h51, hT2⟩
    · have hxk : sb xx set := hx.tr sb_l
      have hlt : andn set xx < set := andn_lt q hxk
      have hrs : sb (andn set xx) (ridS dd) := andn_sb.tr hset
      have hnx : (nI xx - (1 : Int32)) &&& nI (set &&& hr) = nI ((xx - 1) &&& (set &&& hr)) := by
        rw [show nI xx - (1 : Int32) = nI (xx - 1) from sh_sub (bb := 1) (by omega), fa_and]
      have hnl : (xx - 1) &&& (set &&& hr) ≤ xx - 1 := Nat.and_le_left
      have hns : sb ((xx - 1) &&& (set &&& hr)) (set &&& hr) := sb_r
      have nxt : ∀ (u3 : SR) (vv : Int32), (∀ ss, ss ≠ andn set xx → u3.1 52 ss = u2.1 52 ss) → u3.1 52 (andn set xx) = vv → b01 ((TT (andn set xx) ∨ (okR dd (andn set xx) hr = true ∧ ∃ out, xx < out ∧ sb out (set &&& hr) ∧ andn set xx = andn set out)) ∨ okR dd (andn set xx) hr = true) vv → RT2 mm 52 u3 (fun ss => TT ss ∨ (okR dd ss hr = true ∧ ∃ out, (xx - 1) &&& (set &&& hr) < out ∧ sb out (set &&& hr) ∧ ss = andn set out)) := by
        intro u3 vv g1 g2 g3 ss hss
        by_cases z : ss = andn set xx
        · rw [z, g2]
          refine b01_iff g3 ⟨?_, ?_⟩
          · rintro ((a | ⟨a, out, a1, a2, a3⟩) | a)
            · exact Or.inl a
            · exact Or.inr ⟨a, out, by omega, a2, a3⟩
            · exact Or.inr ⟨a, xx, by omega, hx, rfl⟩
          · rintro (a | ⟨a, out, a1, a2, a3⟩)
            · exact Or.inl (Or.inl a)
            · exact Or.inr a
        · rw [g1 ss z]
          refine b01_iff (hT2 ss hss) ⟨?_, ?_⟩
          · rintro (a | ⟨a, out, a1, a2, a3⟩)
            · exact Or.inl a
            · exact Or.inr ⟨a, out, by omega, a2, a3⟩
          · rintro (a | ⟨a, out, a1, a2, a3⟩)
            · exact Or.inl a
            · refine Or.inr ⟨a, out, ?_, a2, a3⟩
              rcases Nat.lt_trichotomy out xx with y | y | y
              · have := sub_next _ xx out (sb_and.mp hx) (sb_and.mp a2) y
                omega
              · rw [y] at a3; exact absurd a3 z
              · exact y
      have hX2 := hX.ef hF
      have hal : andn set xx &&& hr ≤ andn set xx := Nat.and_le_left
      rw [if_neg (nI_ne0 (by omega) (by omega)), nI_nd, nm_eq, ix_nI (show andn set xx < 1024 by omega) (by omega), nI_clamp (show andn set xx < 2 ^ 31 by omega), fa_and, R_fit hX2 hO (by omega) (by omega)]
      simp only [b1_eq, if01, ix_nI (show andn set xx < 1024 by omega) (show 1024 < 2 ^ 31 by omega), nm_eq, hnx, nb0, nb1]
      have ent := hT2 (andn set xx) (by omega)
      by_cases q2 : u2.1 52 (andn set xx) = 0
      · have hno : ¬ (TT (andn set xx) ∨ (okR dd (andn set xx) hr = true ∧ ∃ out, xx < out ∧ sb out (set &&& hr) ∧ andn set xx = andn set out)) := by
          rcases ent with ⟨_, z⟩ | ⟨z, _⟩
          · rw [q2] at z; exact absurd z (by decide)
          · exact z
        rw [if_pos q2]
        by_cases q3 : fitB dd (andn set xx &&& hr) = true
        · obtain ⟨w3, e1, F3'⟩ := R_evW (nn := nn) hX2 hO hrs (by omega)
          rw [if_pos q3, e1, b1_eq]
          simp only [if01]
          have g51 : w3.1 51 = u2.1 51 := F3'.1 51 (by omega) (by omega)
          have g52 : w3.1 52 = u2.1 52 := F3'.1 52 (by omega) (by omega)
          by_cases q4 : evB (ldm dd (andn set xx)) (dli dd) = true
          · rw [if_pos q4]
            refine Or.inl ⟨by omega, _, _, rfl, _, rfl, hns, by omega, (hF.tr F3'.ef).s5 (Or.inr rfl), by rw [sr1_ne (by omega), g51]; exact h51, nxt _ 1 (fun ss z => by rw [sr1_o z, g52]) (by rw [sr1_s]) (Or.inl ⟨Or.inr ?_, rfl⟩)⟩
            unfold okR
            rw [q3, q4]
            rfl
          · rw [if_neg q4]
            refine Or.inl ⟨by omega, _, _, rfl, _, rfl, hns, by omega, (hF.tr F3'.ef).s5 (Or.inr rfl), by rw [sr1_ne (by omega), g51]; exact h51, nxt _ 0 (fun ss z => by rw [sr1_o z, g52]) (by rw [sr1_s]) (Or.inr ⟨?_, rfl⟩)⟩
            rintro (a | a)
            · exact hno a
            · unfold okR at a
              simp at a
              exact q4 a.2
        · rw [if_neg q3]
          refine Or.inl ⟨by omega, _, _, rfl, _, rfl, hns, by omega, hF.s5 (Or.inr rfl), by rw [sr1_ne (by omega)]; exact h51, nxt _ 0 (fun ss z => by rw [sr1_o z]) (by rw [sr1_s]) (Or.inr ⟨?_, rfl⟩)⟩
          rintro (a | a)
          · exact hno a
          · unfold okR at a
            simp at a
            exact q3 a.1
      · have hyes : TT (andn set xx) ∨ (okR dd (andn set xx) hr = true ∧ ∃ out, xx < out ∧ sb out (set &&& hr) ∧ andn set xx = andn set out) := by
          rcases ent with ⟨z, _⟩ | ⟨_, z⟩
          · exact z
          · exact absurd z q2
        rw [if_neg q2]
        exact Or.inl ⟨by omega, _, _, rfl, _, rfl, hns, by omega, hF.s5 (Or.inr rfl), by rw [sr1_ne (by omega)]; exact h51, nxt _ 1 (fun ss z => by rw [sr1_o z]) (by rw [sr1_s]) (Or.inl ⟨Or.inl hyes, rfl⟩)⟩) nn (nI (set &&& hr)) u0 (by omega) ⟨_, rfl, sb.rf, by omega, REf.rf, rfl, fun ss hss => b01_iff (hT ss hss) ⟨Or.inl, fun z => by
      rcases z with z | ⟨_, out, z1, z2, _⟩
      · exact z
      · have := z2.le
        omega⟩⟩
  refine ⟨u2, h1, hF, h51, fun ss hss => b01_iff (hT2 ss hss) ⟨?_, ?_⟩⟩
  · rintro (a | ⟨a, out, a1, a2, a3⟩)
    · exact Or.inl a
    · exact Or.inr ⟨a, out, by omega, a2.tr sb_l, a2.tr sb_r, a3⟩
  · rintro (a | ⟨a, out, a1, a2, a3, a4⟩)
    · exact Or.inl a
    · exact Or.inr ⟨a, out, by omega, sb_i a2 a3, a4⟩
theorem R_getOut {u0 : SR} {dd : WD} {nn hr : Nat} {CC : Nat → Prop} (hX : RX u0 dd) (hO : DOk dd) (hA : ∀ ss, CC ss → sb ss (ridS dd)) (hC : RT2 (2 ^ dN dd) 51 u0 CC) (hn : 1100 < nn) : ∃ u2, f_X8_getOut nn u0 (nI hr) = some u2 ∧ REf u0 u2 ∧ RT2 (2 ^ dN dd) 51 u2 (stp dd hr CC) := by
  have h10 := hO.1
  have hM : 2 ^ dN dd ≤ 2 ^ 10 := Nat.pow_le_pow_right (by decide) h10
  have hM2 : (2 : Nat) ^ 10 = 1024 := by decide
  have hsh : ∀ ww : SR, REf u0 ww → (1 : Int32) <<< ((ww.1 39 4) &&& 31) = nI (2 ^ dN dd) := fun ww h => by
    rw [(hX.ef h).1, bit_sh (by omega)]
  obtain ⟨w1, e1, F1', g1, T1⟩ := it2_inv (bb := lb_X8_getOut_2 nn (nI hr)) (fun kx v2 ww => v2 = nI kx ∧ REf u0 ww ∧ ww.1 51 = u0.1 51 ∧ RT2 kx 52 ww CC) (2 ^ dN dd) (fun ww => REf u0 ww ∧ ww.1 51 = u0.1 51 ∧ RT2 (2 ^ dN dd) 52 ww CC) (by
    rintro kx v2 ww hle ⟨rfl, hF, h51, hT⟩
    unfold lb_X8_getOut_2
    rw [hsh ww hF]
    by_cases q : kx < 2 ^ dN dd
    · have hc := hC kx q
      rw [if_neg (nI_ge q (by omega)), ix_nI (show kx < 1024 by omega) (by omega), ix_nI (show kx < 1024 by omega) (by omega), nI_clamp (show kx < 2 ^ 31 by omega), h51, b01_n hc, nm_eq, nm_eq, nI_1]
      refine Or.inl ⟨q, _, _, rfl, rfl, hF.s5 (Or.inr rfl), by rw [sr1_ne (by omega)]; exact h51, fun ss hss => ?_⟩
      by_cases z : ss = kx
      · rw [z, sr1_s]; exact hc
      · rw [sr1_o z]; exact hT ss (by omega)
    · have e : kx = 2 ^ dN dd := by omega
      subst e
      rw [if_pos (nI_le (Nat.le_refl _) (by omega))]
      exact Or.inr ⟨_, rfl, hF, h51, hT⟩) nn 0 u0 (by omega) ⟨rfl, REf.rf, rfl, fun ss hss => absurd hss (by omega)⟩
  obtain ⟨w2, e2, F2', g2, T2⟩ := it2_inv (bb := lb_X8_getOut_32 nn (nI hr)) (fun kx v2 ww => v2 = nI kx ∧ REf u0 ww ∧ ww.1 51 = u0.1 51 ∧ RT2 (2 ^ dN dd) 52 ww (fun ss => CC ss ∨ (okR dd ss hr = true ∧ ∃ set, set < kx ∧ CC set ∧ reach hr set ss))) (2 ^ dN dd) (fun ww => REf u0 ww ∧ ww.1 51 = u0.1 51 ∧ RT2 (2 ^ dN dd) 52 ww (fun ss => CC ss ∨ (okR dd ss hr = true ∧ ∃ set, set < 2 ^ dN dd ∧ CC set ∧ reach hr set ss))) (by
    rintro kx v2 ww hle ⟨rfl, hF, h51, hT⟩
    unfold lb_X8_getOut_32
    rw [hsh ww hF]
    by_cases q : kx < 2 ^ dN dd
    · have hc := hC kx q
      rw [if_neg (nI_ge q (by omega)), ix_nI (show kx < 1024 by omega) (by omega), nI_clamp (show kx < 2 ^ 31 by omega), h51]
      by_cases q2 : u0.1 51 kx = 0
      · have hno : ¬ CC kx := by
          rcases hc with ⟨_, z⟩ | ⟨z, _⟩
          · rw [q2] at z; exact absurd z (by decide)
          · exact z
        have e3 : it2 (lb_X8_getOut_62 nn (nI hr) (nI kx) (0 : Int32)) nn (0 : Int32) ww = some ww := it2_out (by
          unfold lb_X8_getOut_62
          rw [if_pos rfl]) nn (by omega)
        rw [if_pos q2, e3, b1_eq, nm_eq, nI_1]
        refine Or.inl ⟨q, _, _, rfl, rfl, hF, h51, fun ss hss => b01_iff (hT ss hss) ⟨?_, ?_⟩⟩
        · rintro (a | ⟨a, set, a1, a2, a3⟩)
          · exact Or.inl a
          · exact Or.inr ⟨a, set, by omega, a2, a3⟩
        · rintro (a | ⟨a, set, a1, a2, a3⟩)
          · exact Or.inl a
          · by_cases z : set = kx
            · rw [z] at a2; exact absurd a2 hno
            · exact Or.inr ⟨a, set, by omega, a2, a3⟩
      · have hyes : CC kx := by
          rcases hc with ⟨z, _⟩ | ⟨_, z⟩
          · exact z
          · exact absurd z q2
        obtain ⟨w3, e3, F3', h513, T3⟩ := R_out1 (nn := nn) (hr := hr) (hX.ef hF) hO (hA kx hyes) q (by omega) hT hn
        rw [if_neg q2, fa_and, nm_eq, e3, b1_eq, nm_eq, nI_1]
        refine Or.inl ⟨q, _, _, rfl, rfl, hF.tr F3', h513.trans h51, fun ss hss => b01_iff (T3 ss hss) ⟨?_, ?_⟩⟩
        · rintro ((a | ⟨a, set, a1, a2, a3⟩) | ⟨a, a1⟩)
          · exact Or.inl a
          · exact Or.inr ⟨a, set, by omega, a2, a3⟩
          · exact Or.inr ⟨a, kx, by omega, hyes, a1⟩
        · rintro (a | ⟨a, set, a1, a2, a3⟩)
          · exact Or.inl (Or.inl a)
          · by_cases z : set = kx
            · rw [z] at a3; exact Or.inr ⟨a, a3⟩
            · exact Or.inl (Or.inr ⟨a, set, by omega, a2, a3⟩)
    · have e : kx = 2 ^ dN dd := by omega
      subst e
      rw [if_pos (nI_le (Nat.le_refl _) (by omega))]
      exact Or.inr ⟨_, rfl, hF, h51, hT⟩) nn 0 w1 (by omega) ⟨rfl, F1', g1, fun ss hss => b01_iff (T1 ss hss) ⟨Or.inl, fun z => by
      rcases z with z | ⟨_, set, z1, _⟩
      · exact z
      · omega⟩⟩
  obtain ⟨w3, e3, F3', T3⟩ := it2_inv (bb := lb_X8_getOut_136 nn) (fun kx v2 ww => v2 = nI kx ∧ REf u0 ww ∧ ww.1 52 = w2.1 52 ∧ (∀ ss, ss < kx → ww.1 51 ss = w2.1 52 ss)) (2 ^ dN dd) (fun ww => REf u0 ww ∧ (∀ ss, ss < 2 ^ dN dd → ww.1 51 ss = w2.1 52 ss)) (by
    rintro kx v2 ww hle ⟨rfl, hF, h52, hT⟩
    unfold lb_X8_getOut_136
    rw [hsh ww hF]
    by_cases q : kx < 2 ^ dN dd
    · rw [if_neg (nI_ge q (by omega)), ix_nI (show kx < 1024 by omega) (by omega), ix_nI (show kx < 1024 by omega) (by omega), nI_clamp (show kx < 2 ^ 31 by omega), h52, b01_n (T2 kx q), nm_eq, nm_eq, nI_1]
      refine Or.inl ⟨q, _, _, rfl, rfl, hF.s5 (Or.inl rfl), by rw [sr1_ne (by omega)]; exact h52, fun ss hss => ?_⟩
      by_cases z : ss = kx
      · rw [z, sr1_s]
      · rw [sr1_o z]; exact hT ss (by omega)
    · have e : kx = 2 ^ dN dd := by omega
      subst e
      rw [if_pos (nI_le (Nat.le_refl _) (by omega))]
      exact Or.inr ⟨_, rfl, hF, hT⟩) nn 0 w2 (by omega) ⟨rfl, F2', rfl, fun ss hss => absurd hss (by omega)⟩
  refine ⟨w3, ?_, F3', fun ss hss => ?_⟩
  · unfold f_X8_getOut
    rw [e1, b1_eq, e2, b1_eq, show it2 (lb_X8_getOut_136 nn) nn (0 : Int32) w2 = some w3 from e3]
    rfl
  · rw [T3 ss hss]
    refine b01_iff (T2 ss hss) ⟨?_, ?_⟩
    · rintro (a | ⟨a, set, a1, a2, a3⟩)
      · exact Or.inl a
      · exact Or.inr ⟨a, set, a2, a3⟩
    · rintro (a | ⟨a, set, a2, a3⟩)
      · exact Or.inl a
      · exact Or.inr ⟨a, set, Nat.lt_of_le_of_lt (hA set a2).le (setOf_lt _ _), a2, a3⟩
