/-! all in: the class's search, its recursion -/
theorem C_parts {tt : MM} {dd : WD} {st how nn mm bs : Nat} {ro : Nat → Nat} {rec : MM → Int32 → Int32 → Int32 → Option MM} (hW : WT dd st) (hO : DOk dd) (h4 : rn st 10 ≤ 4) (hh : how ≤ 2) (hn : 20 < nn) (hrec : GO dd st how nn rec (mm + 1)) (hm : mm < 12) (hN : ND st mm ro) (hP : PW dd st how mm ro) (hC : CW tt dd) (k2 : tt 17 2 = nI st) (k3 : tt 17 3 = nI how) (k4 : tt 17 4 = nI bs) (hbs : bs ≤ 786432) (hB : BalF (tt 18) (LD dd st ro mm)) : ∃ t2, it3 (lb_X0_goOn_45 nn rec (nI mm) (nI (lft st ro mm)) (nI (q4n (dg st ro))) (nI (whoAt dd ((ft dd + mm) % 12)))) nn (nI (lft st ro mm)) (0 : Int32) tt = some t2 ∧ FI tt t2 ∧ ∃ b2', t2 17 4 = nI b2' ∧ b2' ≤ bs ∧ BalF (t2 18) (LD dd st ro mm) ∧ (∀ ta, alike st mm ro ta → VW dd st how ta → grp st ta mm ≠ 0 → b2' ≤ val st ta) ∧ (b2' = bs ∨ ∃ ta, alike st mm ro ta ∧ VW dd st how ta ∧ b2' = val st ta) := by
  have hs := hW.1
  have hll : lft st ro mm < 1024 := lft_lt
  have hcnt : fa_cnt (fun jj => (lft st ro mm).testBit jj) 10 ≤ 4 := Nat.le_trans (cnt_sb (lft_sb hs) 10) h4
  have hwl := whoAt_lt hO ((ft dd + mm) % 12)
  exact it3_inv (bb := lb_X0_goOn_45 nn rec (nI mm) (nI (lft st ro mm)) (nI (q4n (dg st ro))) (nI (whoAt dd ((ft dd + mm) % 12)))) (fun idx v5 v6 t2 => v5 = nI (sbn (lft st ro mm) idx) ∧ v6 = nI idx ∧ FI tt t2 ∧ ∃ b2', t2 17 4 = nI b2' ∧ b2' ≤ bs ∧ BalF (t2 18) (LD dd st ro mm) ∧ (∀ ta, alike st mm ro ta → VW dd st how ta → sbn (lft st ro mm) idx < grp st ta mm → b2' ≤ val st ta) ∧ (b2' = bs ∨ ∃ ta, alike st mm ro ta ∧ VW dd st how ta ∧ b2' = val st ta)) 15 (fun t2 => FI tt t2 ∧ ∃ b2', t2 17 4 = nI b2' ∧ b2' ≤ bs ∧ BalF (t2 18) (LD dd st ro mm) ∧ (∀ ta, alike st mm ro ta → VW dd st how ta → grp st ta mm ≠ 0 → b2' ≤ val st ta) ∧ (b2' = bs ∨ ∃ ta, alike st mm ro ta ∧ VW dd st how ta ∧ b2' = val st ta)) (by
    rintro idx v5 v6 t2 hle ⟨rfl, rfl, hF, b2', w4, hb, hB2, hlow, hatt⟩
    have hx : sb (sbn (lft st ro mm) idx) (lft st ro mm) := sbn_sb idx
    have hxl := hx.le
    unfold lb_X0_goOn_45
    rw [if_neg (show ¬ (16 : Int32) ≤ nI idx from nI_ge (b := 16) (by omega) (by omega))]
    by_cases q : sbn (lft st ro mm) idx = 0
    · rw [q, if_pos (show nI 0 = (0 : Int32) from rfl)]
      rw [q] at hlow
      exact Or.inr ⟨_, rfl, hF, b2', w4, hb, hB2, fun ta t1 t3 t4 => hlow ta t1 t3 (by omega), hatt⟩
    · have hidx : idx < 15 := by
        rcases Nat.lt_or_eq_of_le hle with z | z
        · exact z
        · rw [z] at q
          exact absurd (sbn15 _ hll hcnt) q
      have hnx : (nI (sbn (lft st ro mm) idx) - (1 : Int32)) &&& nI (lft st ro mm) = nI (sbn (lft st ro mm) (idx + 1)) := by
        rw [show nI (sbn (lft st ro mm) idx) - (1 : Int32) = nI (sbn (lft st ro mm) idx - 1) from sh_sub (bb := 1) (by omega), fa_and]
        rfl
      have nxt : ∀ b3' : Nat, b3' ≤ b2' → (∀ ta, alike st mm ro ta → VW dd st how ta → grp st ta mm = sbn (lft st ro mm) idx → b3' ≤ val st ta) → ∀ ta, alike st mm ro ta → VW dd st how ta → sbn (lft st ro mm) (idx + 1) < grp st ta mm → b3' ≤ val st ta := by
        intro b3' g1 g2 ta t1 t3 t4
        have hg : sb (grp st ta mm) (lft st ro mm) := by
          have := grp_sb (st := st) (ta := ta) (mm := mm) hs
          rw [al_lft t1 hs (Nat.le_refl _)] at this
          exact this
        rcases Nat.lt_trichotomy (grp st ta mm) (sbn (lft st ro mm) idx) with z | z | z
        · have h9 := sub_next _ _ _ (sb_and.mp hx) (sb_and.mp hg) z
          have h10 : sbn (lft st ro mm) (idx + 1) = (sbn (lft st ro mm) idx - 1) &&& lft st ro mm := rfl
          omega
        · exact g2 ta t1 t3 z
        · exact Nat.le_trans g1 (hlow ta t1 t3 z)
      have hC2 := hC.fi hF
      have w2 : t2 17 2 = nI st := by rw [hF.2 2 (by omega)]; exact k2
      have w3 : t2 17 3 = nI how := by rw [hF.2 3 (by omega)]; exact k3
      have p10 : (2 : Nat) ^ 10 = 1024 := by decide
      have hor : whoAt dd ((ft dd + mm) % 12) ||| sbn (lft st ro mm) idx < 2 ^ 10 := Nat.or_lt_two_pow (by omega) (by omega)
      have hor2 : whoAt dd ((ft dd + mm) % 12) ||| sbn (lft st ro mm) idx < 2 ^ 31 := Nat.lt_trans hor (by decide)
      rw [if_neg (nI_ne0 (by omega) (by omega)), C_mgt w3 hh hll (show sbn (lft st ro mm) idx < 1024 by omega), b1_eq, if01, fa_or, C_fit hC2 hO (by omega) hor2]
      simp only [b1_eq, if01, nm_eq, nI_1, hnx]
      have skip : (∀ ta, alike st mm ro ta → VW dd st how ta → grp st ta mm = sbn (lft st ro mm) idx → b2' ≤ val st ta) → (nI (sbn (lft st ro mm) (idx + 1)) = nI (sbn (lft st ro mm) (idx + 1)) ∧ nI (idx + 1) = nI (idx + 1) ∧ FI tt t2 ∧ ∃ b3', t2 17 4 = nI b3' ∧ b3' ≤ bs ∧ BalF (t2 18) (LD dd st ro mm) ∧ (∀ ta, alike st mm ro ta → VW dd st how ta → sbn (lft st ro mm) (idx + 1) < grp st ta mm → b3' ≤ val st ta) ∧ (b3' = bs ∨ ∃ ta, alike st mm ro ta ∧ VW dd st how ta ∧ b3' = val st ta)) := fun g => ⟨rfl, rfl, hF, b2', w4, hb, hB2, nxt b2' (Nat.le_refl _) g, hatt⟩
      by_cases q1 : mgB how (sbn (lft st ro mm) idx) (lft st ro mm) = true
      · rw [if_pos q1]
        by_cases q2 : fitB dd (whoAt dd ((ft dd + mm) % 12) ||| sbn (lft st ro mm) idx) = true
        · rw [if_pos q2]
          obtain ⟨t3, b3', e1, F3', h34, B3, s1, s2, s3⟩ := C_putIn (nn := nn) (how := how) (rec := rec) hW hO h4 hn hrec hm hN hP q hx q1 q2 hC2 w2 w3 w4 (by omega) hB2
          rw [e1, b1_eq]
          refine Or.inl ⟨hidx, _, _, _, rfl, rfl, rfl, hF.tr F3', b3', h34, by omega, B3, nxt b3' s1 s2, ?_⟩
          rcases s3 with s3 | s3
          · rw [s3]; exact hatt
          · exact Or.inr s3
        · rw [if_neg q2]
          refine Or.inl ⟨hidx, _, _, _, rfl, skip (fun ta t1 t3 t4 => ?_)⟩
          have h8 := (t3.2 mm hm (by rw [t4]; exact q)).2.1
          rw [t4] at h8
          exact absurd h8 q2
      · rw [if_neg q1]
        refine Or.inl ⟨hidx, _, _, _, rfl, skip (fun ta t1 t3 t4 => ?_)⟩
        have h8 := (t3.2 mm hm (by rw [t4]; exact q)).1
        rw [t4, al_lft t1 hs (Nat.le_refl _)] at h8
        exact absurd h8 q1) nn (nI (lft st ro mm)) 0 tt (by omega) ⟨rfl, rfl, FI.rf, bs, k4, Nat.le_refl _, hB, fun ta t1 t3 t4 => by
      have hg : sb (grp st ta mm) (lft st ro mm) := by
        have := grp_sb (st := st) (ta := ta) (mm := mm) hs
        rw [al_lft t1 hs (Nat.le_refl _)] at this
        exact this
      have := hg.le
      have e : sbn (lft st ro mm) 0 = lft st ro mm := rfl
      omega, Or.inl rfl⟩
theorem C_goOn {dd : WD} {st how nn : Nat} (hW : WT dd st) (hO : DOk dd) (h4 : rn st 10 ≤ 4) (hh : how ≤ 2) (hn : 20 < nn) : ∀ kk mm, 13 ≤ kk + mm → mm ≤ 12 → GO dd st how nn (f_X0_goOn nn kk) mm := by
  have hs := hW.1
  have hft := ft_lt dd
  intro kk
  induction kk with
  | zero => intro mm h1 h2; omega
  | succ kk ih =>
    intro mm hk hm ro tt bs hN hP hl hC k2 k3 k4 hbs hB
    show ∃ t2 b2', g_X0_goOn nn (f_X0_goOn nn kk) tt (nI mm) (nI (lft st ro mm)) (nI (q4n (dg st ro))) = some t2 ∧ FI tt t2 ∧ t2 17 4 = nI b2' ∧ BalF (t2 18) (LD dd st ro mm) ∧ SP dd st how mm ro bs b2'
    unfold g_X0_goOn
    by_cases q : mm = 12
    · subst q
      rw [if_pos (show (11 : Int32) < nI 12 by decide)]
      refine ⟨_, bs, rfl, FI.rf, k4, hB, Nat.le_refl _, fun ta t1 t3 => ?_, Or.inl rfl⟩
      exfalso
      obtain ⟨ii, hb⟩ := nz_bit hl
      obtain ⟨z1, z2⟩ := (lft_t hs).mp hb
      have h1 := (al_bit t1 hs z1).2 (by omega)
      have h2 := t3.1 _ (rn_lt (bit10 hs z1) z1)
      omega
    · have hm' : mm < 12 := by omega
      have esh : nI bs >>> ((16 : Int32) &&& 31) = nI (bs / 65536) := pk_shrN (by omega) ((16 : Int32) &&& 31) 16 (by decide)
      have hdv : bs / 65536 ≤ bs := Nat.div_le_self _ _
      rw [if_neg (show ¬ (11 : Int32) < nI mm from nI_nlt (a := 11) (by omega) (by omega)), k4, esh]
      by_cases q2 : mm ≤ bs / 65536
      · have hcc : (ft dd + mm) % 12 < 12 := Nat.mod_lt _ (by decide)
        have erem : (nI (ft dd) + nI mm) - (nI (ft dd) + nI mm) / (12 : Int32) * (12 : Int32) = nI ((ft dd + mm) % 12) := by
          rw [nI_add]
          exact pk_rem (a := ft dd + mm) (d := 12) (by omega) (by omega) (by omega)
        have hrec : GO dd st how nn (f_X0_goOn nn kk) (mm + 1) := ih (mm + 1) (by omega) (by omega)
        obtain ⟨t2, e1, F2', b2', w4, hb, B2, hlow, hatt⟩ := C_parts (nn := nn) hW hO h4 hh hn hrec hm' hN hP hC k2 k3 k4 hbs hB
        rw [if_pos (nI_le q2 (by omega)), C_foot hC hO, b1_eq, erem, C_who hC hO (by omega) (by omega), b1_eq, e1, b1_eq]
        unfold g_X0_goOn_108
        have hP2 : PW dd st how (mm + 1) ro := fun m2 h2 hg => by
          by_cases z : m2 = mm
          · rw [z] at hg
            exact absurd (nob_g hs hN hm) hg
          · exact hP m2 (by omega) hg
        obtain ⟨t3, b3', e3, F3', h34, B3, s1, s2, s3⟩ := hrec ro t2 b2' (nob_ND hN) hP2 (by rw [nob_l hs hN hm]; exact hl) (hC.fi F2') (by rw [F2'.2 2 (by omega)]; exact k2) (by rw [F2'.2 3 (by omega)]; exact k3) w4 (by omega) (by rw [nob_LD hs hN hm]; exact B2)
        rw [nob_l hs hN hm] at e3
        rw [nI_1, e3]
        refine ⟨t3, b3', rfl, F2'.tr F3', h34, by rw [nob_LD hs hN hm] at B3; exact B3, by omega, fun ta t1 t4 => ?_, ?_⟩
        · by_cases z : grp st ta mm = 0
          · exact s2 ta (nob_in hs hN hm t1 z) t4
          · exact Nat.le_trans s1 (hlow ta t1 t4 z)
        · rcases s3 with s3 | ⟨ta, t1, t4, t5⟩
          · rw [s3]; exact hatt
          · exact Or.inr ⟨ta, nob_dn t1, t4, t5⟩
      · rw [if_neg (nI_ge (by omega) (by omega))]
        refine ⟨_, bs, rfl, FI.rf, k4, hB, Nat.le_refl _, fun ta t1 t3 => ?_, Or.inl rfl⟩
        have h1 := val_ge hs hl t1
        have h2 : bs < mm * 65536 := by omega
        exact Nat.le_of_lt (Nat.lt_of_lt_of_le h2 h1)
/-- the search as a whole -/
theorem C_search {tt : MM} {dd : WD} {st how nn : Nat} (hW : WT dd st) (hO : DOk dd) (h0 : st ≠ 0) (h4 : rn st 10 ≤ 4) (hh : how ≤ 2) (hn : 20 < nn) (hC : CW tt dd) : ∃ t2 b2', f_X0_search nn tt (nI st) (nI how) = some (if b2' < 786432 then 1 else 0, t2) ∧ (∀ jj, jj ≠ 17 → jj ≠ 18 → t2 jj = tt jj) ∧ t2 17 2 = nI st ∧ t2 17 4 = nI b2' ∧ b2' ≤ 786432 ∧ (∀ ta, VW dd st how ta → b2' ≤ val st ta) ∧ (b2' = 786432 ∨ ∃ ta, VW dd st how ta ∧ b2' = val st ta) := by
  have hs := hW.1
  obtain ⟨t3, et3⟩ : ∃ t3, t3 = st1 (st1 (st1 tt 17 2 (nI st)) 17 3 (nI how)) 17 4 (786432 : Int32) := ⟨_, rfl⟩
  have f3 : ∀ jj, jj ≠ 17 → t3 jj = tt jj := fun jj hj => by rw [et3, st1_ne hj, st1_ne hj, st1_ne hj]
  have hC3 : CW t3 dd := by
    unfold CW
    rw [f3 1 (by omega), f3 2 (by omega), f3 3 (by omega), f3 4 (by omega), f3 5 (by omega), f3 6 (by omega)]
    exact hC
  obtain ⟨g1, e1, B1⟩ := C_wAll (kb := 18) hC3 hO (show 13 < nn by omega) (by omega)
  have hN : ND st 0 (fun _ => 99) := fun _ _ => Or.inr rfl
  have hl : lft st (fun _ => 99) 0 = st := eq_bits (fun ii => by
    rw [lft_t hs]
    exact ⟨fun z => z.1, fun z => ⟨z, by omega⟩⟩)
  have hd : q4n (dg st (fun _ => 99)) = 0 := by
    have e : q4n (dg st (fun _ => 99)) = q4n (fun _ => 0) := q4n_cong (fun kk _ => by unfold dg; rw [if_neg (fun z => absurd z.2 (show ¬ (99 < 12) by omega))])
    rw [e]
    rfl
  have al : ∀ ta, alike st 0 (fun _ => 99) ta := fun ta kk _ => ⟨fun z => by omega, fun _ => by omega⟩
  obtain ⟨t2, b2', e2, F2', w4, B2, s1, s2, s3⟩ := C_goOn (nn := nn) hW hO h4 hh hn 13 0 (by omega) (by omega) (fun _ => 99) (stA t3 18 g1) 786432 hN (fun m2 h2 _ => absurd h2 (by omega)) (by rw [hl]; exact h0) (CW_stA hC3 (by omega)) (by rw [stA_ne _ _ (by omega), et3, st1_o (by omega), st1_o (by omega), st1_s]) (by rw [stA_ne _ _ (by omega), et3, st1_o (by omega), st1_s]) (by rw [stA_ne _ _ (by omega), et3, st1_s]; rfl) (Nat.le_refl _) (by rw [stA_same, LD_0]; exact B1)
  rw [hl, hd] at e2
  refine ⟨t2, b2', ?_, fun jj h1 h2 => ?_, ?_, w4, s1, fun ta t1 => s2 ta (al ta) t1, ?_⟩
  · unfold f_X0_search
    rw [nm_eq, nm_eq, nm_eq, ← et3, e1, b1_eq, show f_X0_goOn nn 13 (stA t3 18 g1) (0 : Int32) (nI st) (0 : Int32) = some t2 from e2, b1_eq, w4]
    by_cases q : b2' < 786432
    · rw [if_neg (show ¬ (786432 : Int32) ≤ nI b2' from nI_ge (b := 786432) q (by omega)), if_pos q]
    · rw [if_pos (show (786432 : Int32) ≤ nI b2' from nI_le (a := 786432) (by omega) (by omega)), if_neg q]
  · rw [F2'.1 jj h1 h2, stA_ne _ _ h2]; exact f3 jj h1
  · rw [F2'.2 2 (by omega), stA_ne _ _ (by omega), et3, st1_o (by omega), st1_o (by omega), st1_s]
  · rcases s3 with s3 | ⟨ta, t1, t4, t5⟩
    · exact Or.inl s3
    · exact Or.inr ⟨ta, t4, t5⟩
