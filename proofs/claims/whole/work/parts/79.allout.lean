/-! all out: the class -/
theorem C_ride {t0 : MM} {dd : WD} {nn ss hr : Nat} (hC : CW t0 dd) (hO : DOk dd) (h20 : BalF (t0 20) (fun cc => (dsd dd cc : Int))) (hs : ss < 1024) (hn : 13 < nn) : ∃ gg, f_X1_mayRide nn t0 (nI ss) (nI hr) = some (if okR dd ss hr then 1 else 0, stA t0 21 gg) := by
  have h1 : ss &&& hr ≤ ss := Nat.and_le_left
  unfold f_X1_mayRide okR
  rw [fa_and, C_fit hC hO (by omega) (by omega), b1_eq, if01]
  by_cases q : fitB dd (ss &&& hr) = true
  · obtain ⟨g1, e1, B1⟩ := C_become2 (tt := t0) (k0 := 21) (k1 := 20) (by omega) h20
    obtain ⟨g2, e2, B2⟩ := C_hThese (nn := nn) (kb := 21) (mm := ss) hC hO (by omega) (by omega) (by omega) B1
    have B3 : BalF (stA t0 21 g2 21) (ldm dd ss) := by rw [stA_same]; exact B2
    have k7 : stA t0 21 g2 1 7 = nI (dli dd) := by rw [stA_ne _ _ (by omega)]; exact hC.2.2.2.2.2.2.2
    rw [if_pos q, e1, b1_eq, e2, b1_eq, k7, C_even B3 (ldm_Ok hO ss) hO.2.2.2.2, b1_eq, bz_01, q, Bool.true_and]
    exact ⟨g2, rfl⟩
  · have q' : fitB dd (ss &&& hr) = false := by simpa using q
    rw [q']
    exact ⟨t0 21, by rw [stA_self]; rfl⟩
theorem C_letOut {t0 : MM} {dd : WD} {nn kk cc : Nat} {CC : Nat → Prop} (hC : CW t0 dd) (hO : DOk dd) (h20 : BalF (t0 20) (fun ce => (dsd dd ce : Int))) (hc : cc < 12) (hk : sb kk (ridS dd)) (hS : SI dd cc CC kk (t0 22)) (hst : stp dd (whoAt dd cc) CC kk) (hn : 1100 < nn) : ∃ t2, f_X1_letOut nn t0 (nI kk) (nI (whoAt dd cc)) = some t2 ∧ (∀ jj, jj ≠ 21 → jj ≠ 22 → t2 jj = t0 jj) ∧ (∀ ss, ¬ sb ss (ridS dd) → t2 22 ss = t0 22 ss) ∧ SI dd cc CC kk (t2 22) ∧ (∀ ss, reach (whoAt dd cc) kk ss → t2 22 ss ≠ 0) := by
  have hr := ridS_lt hO
  have hkl := hk.le
  have hab : kk &&& whoAt dd cc ≤ kk := Nat.and_le_left
  obtain ⟨xx, h1, f1, f2, hS2, hall⟩ := it2_inv (bb := lb_X1_letOut_7 nn (nI kk) (nI (whoAt dd cc)) (nI (kk &&& whoAt dd cc))) (fun idx v4 t2 => ∃ xx, v4 = nI xx ∧ sb xx (kk &&& whoAt dd cc) ∧ xx + idx ≤ kk &&& whoAt dd cc ∧ (∀ jj, jj ≠ 21 → jj ≠ 22 → t2 jj = t0 jj) ∧ (∀ ss, ¬ sb ss (ridS dd) → t2 22 ss = t0 22 ss) ∧ SI dd cc CC kk (t2 22) ∧ (∀ out, sb out (kk &&& whoAt dd cc) → xx < out → t2 22 (andn kk out) ≠ 0)) (kk &&& whoAt dd cc) (fun t2 => (∀ jj, jj ≠ 21 → jj ≠ 22 → t2 jj = t0 jj) ∧ (∀ ss, ¬ sb ss (ridS dd) → t2 22 ss = t0 22 ss) ∧ SI dd cc CC kk (t2 22) ∧ (∀ out, out ≠ 0 → sb out (kk &&& whoAt dd cc) → t2 22 (andn kk out) ≠ 0)) (by
    rintro idx v4 t2 hle ⟨xx, rfl, hx, hxi, f1, f2, hS2, hall⟩
    unfold lb_X1_letOut_7
    by_cases q : xx = 0
    · subst q
      rw [if_pos (show nI 0 ≤ (0 : Int32) by decide)]
      exact Or.inr ⟨_, rfl, f1, f2, hS2, fun out h0 ho => hall out ho (by omega)⟩
    · have hxk : sb xx kk := hx.tr sb_l
      have hxh : sb xx (whoAt dd cc) := hx.tr sb_r
      have hre : reach (whoAt dd cc) kk (andn kk xx) := ⟨xx, q, hxk, hxh, rfl⟩
      have hlt := hre.lt
      have hrs : sb (andn kk xx) (ridS dd) := hre.sb.tr hk
      have hnx : (nI xx - (1 : Int32)) &&& nI (kk &&& whoAt dd cc) = nI ((xx - 1) &&& (kk &&& whoAt dd cc)) := by
        rw [show nI xx - (1 : Int32) = nI (xx - 1) from sh_sub (bb := 1) (by omega), fa_and]
      have hnl : (xx - 1) &&& (kk &&& whoAt dd cc) ≤ xx - 1 := Nat.and_le_left
      have hns : sb ((xx - 1) &&& (kk &&& whoAt dd cc)) (kk &&& whoAt dd cc) := sb_r
      have nxt : ∀ (t3 : MM), (∀ ss, t2 22 ss ≠ 0 → t3 22 ss ≠ 0) → t3 22 (andn kk xx) ≠ 0 → ∀ out, sb out (kk &&& whoAt dd cc) → (xx - 1) &&& (kk &&& whoAt dd cc) < out → t3 22 (andn kk out) ≠ 0 := by
        intro t3 g1 g2 out ho hlt2
        rcases Nat.lt_trichotomy out xx with z | z | z
        · have := sub_next _ xx out (sb_and.mp hx) (sb_and.mp ho) z
          omega
        · rw [z]; exact g2
        · exact g1 _ (hall out ho z)
      have hC2 : CW t2 dd := by
        unfold CW
        rw [f1 1 (by omega) (by omega), f1 2 (by omega) (by omega), f1 3 (by omega) (by omega), f1 4 (by omega) (by omega), f1 5 (by omega) (by omega), f1 6 (by omega) (by omega)]
        exact hC
      rw [if_neg (nI_nle (by omega) (by omega)), nI_nd, nm_eq, ix_nI (show andn kk xx < 1024 by omega) (by omega), nI_clamp (show andn kk xx < 2 ^ 31 by omega)]
      by_cases q2 : t2 22 (andn kk xx) = 0
      · obtain ⟨gg, e1⟩ := C_ride (nn := nn) (ss := andn kk xx) (hr := whoAt dd cc) hC2 hO (by rw [f1 20 (by omega) (by omega)]; exact h20) (by omega) (by omega)
        rw [if_pos q2, e1, b1_eq]
        simp only [if01, ix_nI (show andn kk xx < 1024 by omega) (show 1024 < 2 ^ 31 by omega), nm_eq, hnx]
        have fr1 : ∀ vv : Int32, ∀ jj, jj ≠ 21 → jj ≠ 22 → st1 (stA t2 21 gg) 22 (andn kk xx) vv jj = t0 jj := fun vv jj h1 h2 => by
          rw [st1_ne h2, stA_ne _ _ h1]; exact f1 jj h1 h2
        have e22 : ∀ vv : Int32, st1 (stA t2 21 gg) 22 (andn kk xx) vv 22 = upd (t2 22) (andn kk xx) vv := fun vv => by
          rw [st1_stA', stA_same, stA_ne _ _ (by omega)]
        have fr2 : ∀ vv : Int32, ∀ ss, ¬ sb ss (ridS dd) → st1 (stA t2 21 gg) 22 (andn kk xx) vv 22 ss = t0 22 ss := fun vv ss h1 => by
          rw [e22, upd_at, if_neg (fun z => h1 (by rw [z]; exact hrs))]; exact f2 ss h1
        by_cases q3 : okR dd (andn kk xx) (whoAt dd cc) = true
        · rw [if_pos q3]
          refine Or.inl ⟨by omega, _, _, rfl, _, rfl, hns, by omega, fr1 1, fr2 1, ?_, nxt _ (fun ss h1 => ?_) ?_⟩
          · rw [e22]
            refine hS2.up q2 (by omega) hrs (Or.inl ⟨rfl, ?_⟩)
            rcases hst with z | ⟨z1, set, z2, z3⟩
            · exact Or.inr ⟨q3, kk, z, hre⟩
            · exact Or.inr ⟨q3, set, z2, z3.tr hre⟩
          · rw [e22, upd_at]
            split
            · decide
            · exact h1
          · rw [e22, upd_at, if_pos rfl]; decide
        · have q3' : okR dd (andn kk xx) (whoAt dd cc) = false := by simpa using q3
          rw [if_neg q3]
          refine Or.inl ⟨by omega, _, _, rfl, _, rfl, hns, by omega, fr1 2, fr2 2, ?_, nxt _ (fun ss h1 => ?_) ?_⟩
          · rw [e22]
            exact hS2.up q2 (by omega) hrs (Or.inr ⟨rfl, dead_of hc q3', by omega⟩)
          · rw [e22, upd_at]
            split
            · decide
            · exact h1
          · rw [e22, upd_at, if_pos rfl]; decide
      · rw [if_neg q2, hnx, nm_eq]
        exact Or.inl ⟨by omega, _, _, rfl, _, rfl, hns, by omega, f1, f2, hS2, nxt _ (fun _ h => h) q2⟩) nn (nI (kk &&& whoAt dd cc)) t0 (by omega) ⟨_, rfl, sb.rf, by omega, fun _ _ _ => rfl, fun _ _ => rfl, hS, fun out ho hlt => absurd ho.le (by omega)⟩
  refine ⟨xx, ?_, f1, f2, hS2, fun ss hre => ?_⟩
  · unfold f_X1_letOut
    rw [fa_and, nm_eq, h1]
    rfl
  · obtain ⟨out, z0, z1, z2, rfl⟩ := hre
    exact hall out z0 (sb_i z1 z2)
theorem C_step {t0 : MM} {dd : WD} {nn cc : Nat} {CC : Nat → Prop} (hC : CW t0 dd) (hO : DOk dd) (h20 : BalF (t0 20) (fun ce => (dsd dd ce : Int))) (hc : cc < 12) (hA : AL dd CC) (hN : ∀ ss, ss ≤ ridS dd → ¬ sb ss (ridS dd) → t0 22 ss = 0) (hS : SV dd CC (t0 22)) (hn : 1100 < nn) : ∃ t2, f_X1_stepAt nn t0 (nI cc) (nI (ridS dd)) = some t2 ∧ (∀ jj, jj ≠ 21 → jj ≠ 22 → t2 jj = t0 jj) ∧ (∀ ss, ss ≤ ridS dd → ¬ sb ss (ridS dd) → t2 22 ss = 0) ∧ SV dd (stp dd (whoAt dd cc) CC) (t2 22) := by
  have hr := ridS_lt hO
  have hw := whoAt_lt hO cc
  unfold f_X1_stepAt
  rw [C_who hC hO (by omega) (by omega), b1_eq]
  by_cases q : whoAt dd cc = 0
  · rw [q, if_pos (show nI 0 = (0 : Int32) from rfl)]
    have hI := SI_0 (cc := cc) hS
    refine ⟨t0, rfl, fun _ _ _ => rfl, hN, ?_⟩
    have h9 := SI_end (cc := cc) hA ⟨hI.1, hI.2.1, hI.2.2.1, hI.2.2.2.1, fun set h1 h2 h3 ss hre => by
      obtain ⟨out, z0, z1, z2, rfl⟩ := hre
      have := z2.le
      omega⟩
    rw [q] at h9
    exact h9
  · rw [if_neg (nI_ne0 (by omega) (by omega))]
    obtain ⟨t2, h1, f1, f2, hS2⟩ := it2_inv (bb := lb_X1_stepAt_17 nn (nI (whoAt dd cc))) (fun idx v4 t2 => v4 = nI (ridS dd - idx) ∧ (∀ jj, jj ≠ 21 → jj ≠ 22 → t2 jj = t0 jj) ∧ (∀ ss, ¬ sb ss (ridS dd) → t2 22 ss = t0 22 ss) ∧ SI dd cc CC (ridS dd - idx) (t2 22)) (ridS dd) (fun t2 => (∀ jj, jj ≠ 21 → jj ≠ 22 → t2 jj = t0 jj) ∧ (∀ ss, ¬ sb ss (ridS dd) → t2 22 ss = t0 22 ss) ∧ SI dd cc CC 0 (t2 22)) (by
      rintro idx v4 t2 hle ⟨rfl, f1, f2, hS2⟩
      unfold lb_X1_stepAt_17
      by_cases q0 : idx < ridS dd
      · have hdn : nI (ridS dd - idx) + (-1 : Int32) = nI (ridS dd - (idx + 1)) := by
          rw [down1, ← iI_nat]
          congr 1
          omega
        have hC2 : CW t2 dd := by
          unfold CW
          rw [f1 1 (by omega) (by omega), f1 2 (by omega) (by omega), f1 3 (by omega) (by omega), f1 4 (by omega) (by omega), f1 5 (by omega) (by omega), f1 6 (by omega) (by omega)]
          exact hC
        have g20 : BalF (t2 20) (fun ce => (dsd dd ce : Int)) := by rw [f1 20 (by omega) (by omega)]; exact h20
        have dn : ∀ st : Nat → Int32, SI dd cc CC (ridS dd - idx) st → (sb (ridS dd - idx) (ridS dd) → st (ridS dd - idx) = 1 → ∀ ss, reach (whoAt dd cc) (ridS dd - idx) ss → st ss ≠ 0) → SI dd cc CC (ridS dd - (idx + 1)) st := fun st h1 h2 => ⟨h1.1, h1.2.1, h1.2.2.1, h1.2.2.2.1, fun set k1 k2 k3 ss k4 => by
          by_cases z : set = ridS dd - idx
          · rw [z] at k1 k3 k4
            exact h2 k1 k3 ss k4
          · exact h1.2.2.2.2 set k1 (by omega) k3 ss k4⟩
        rw [if_neg (nI_nle (show 0 < ridS dd - idx by omega) (by omega)), ix_nI (show ridS dd - idx < 1024 by omega) (by omega), nI_clamp (show ridS dd - idx < 2 ^ 31 by omega), hdn]
        by_cases q1 : t2 22 (ridS dd - idx) = 1
        · have hks : sb (ridS dd - idx) (ridS dd) := by
            apply Classical.byContradiction
            intro z
            have := f2 _ z
            rw [hN _ (by omega) z, q1] at this
            exact absurd this (by decide)
          rw [if_pos q1, fa_and]
          by_cases q2 : (ridS dd - idx) &&& whoAt dd cc = 0
          · rw [q2, if_pos (show nI 0 = (0 : Int32) from rfl), nm_eq]
            refine Or.inl ⟨q0, _, _, rfl, rfl, f1, f2, dn _ hS2 (fun _ _ ss hre => ?_)⟩
            obtain ⟨out, z0, z1, z2, rfl⟩ := hre
            have := (sb_i z1 z2).le
            omega
          · have hal : (ridS dd - idx) &&& whoAt dd cc ≤ ridS dd - idx := Nat.and_le_left
            rw [if_neg (nI_ne0 (by omega) (by omega))]
            obtain ⟨t3, e1, g1, g2, hS3, hall⟩ := C_letOut (nn := nn) hC2 hO g20 hc hks hS2 (hS2.2.2.1 _ hks q1) hn
            rw [e1, b1_eq, nm_eq]
            exact Or.inl ⟨q0, _, _, rfl, rfl, fun jj h1 h2 => (g1 jj h1 h2).trans (f1 jj h1 h2), fun ss h1 => (g2 ss h1).trans (f2 ss h1), dn _ hS3 (fun _ _ => hall)⟩
        · rw [if_neg q1, nm_eq]
          exact Or.inl ⟨q0, _, _, rfl, rfl, f1, f2, dn _ hS2 (fun _ z => absurd z q1)⟩
      · have e : ridS dd - idx = 0 := by omega
        rw [e] at hS2 ⊢
        rw [if_pos (show nI 0 ≤ (0 : Int32) by decide)]
        exact Or.inr ⟨_, rfl, f1, f2, hS2⟩) nn (nI (ridS dd)) t0 (by omega) ⟨rfl, fun _ _ _ => rfl, fun _ _ => rfl, SI_0 hS⟩
    rw [h1]
    exact ⟨t2, rfl, f1, fun ss h2 h3 => (f2 ss h3).trans (hN ss h2 h3), SI_end hA hS2⟩
theorem C_few0 {tt : MM} {nn rr : Nat} (hr : rr < 1024) (hn : 1100 < nn) : ∃ t2, it2 (lb_X1_fewestMinutes_10 nn (nI rr)) nn (0 : Int32) tt = some t2 ∧ (∀ jj, jj ≠ 22 → t2 jj = tt jj) ∧ (∀ ss, ss ≤ rr → t2 22 ss = 0) :=
  it2_inv (bb := lb_X1_fewestMinutes_10 nn (nI rr)) (fun kx v2 t2 => v2 = nI kx ∧ (∀ jj, jj ≠ 22 → t2 jj = tt jj) ∧ (∀ ss, ss < kx → t2 22 ss = 0)) (rr + 1) (fun t2 => (∀ jj, jj ≠ 22 → t2 jj = tt jj) ∧ (∀ ss, ss ≤ rr → t2 22 ss = 0)) (by
    rintro kx v2 t2 hle ⟨rfl, f1, f2⟩
    unfold lb_X1_fewestMinutes_10
    by_cases q : kx ≤ rr
    · rw [if_neg (nI_nlt q (by omega)), ix_nI (show kx < 1024 by omega) (by omega), nI_clamp (show kx < 2 ^ 31 by omega), nm_eq, nm_eq, nI_1]
      refine Or.inl ⟨by omega, _, _, rfl, rfl, fun jj hj => by rw [st1_ne hj]; exact f1 jj hj, fun ss hs => ?_⟩
      rw [st1_at]
      by_cases q2 : ss = kx
      · rw [if_pos q2]
      · rw [if_neg q2]; exact f2 ss (by omega)
    · rw [if_pos (nI_lt (by omega) (by omega))]
      exact Or.inr ⟨_, rfl, f1, fun ss hs => f2 ss (by omega)⟩) nn 0 tt (by omega) ⟨rfl, fun _ _ => rfl, fun ss hs => absurd hs (by omega)⟩
