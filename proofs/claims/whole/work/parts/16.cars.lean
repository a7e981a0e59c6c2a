theorem cw_X7_person : CwV RX7 yX7_person cX7_person 3 2 (some .int) := ⟨k_247, k_245, k_246, k_1, by decide +kernel, by decide⟩
def f_X7_person (t : MM) (v1 : Int32) (v2 : Int32) : Option (Int32 × MM) :=
  (if v1 < 0 then some ((-1 : Int32), t) else (if (4 : Int32) ≤ v1 then some ((-1 : Int32), t) else (if v2 < (1 : Int32) then some ((-1 : Int32), t) else (if v2 ≤ (99 : Int32) then (if (t 1 5) < (10 : Int32) then b1 (f_X6_addOne t v1 v2) (fun y_1 => some (y_1.1, y_1.2)) else some ((-3 : Int32), t)) else some ((-1 : Int32), t)))))
set_option maxHeartbeats 4000000 in
theorem w_X7_person_e {F : FX} {G : GX} {Q : State → Prop} (C : Cx F G cX7_person 3 RX7) (hR : Rm F 3) (t : MM) (r : SR)  (v1 : Int32) (v2 : Int32) (res : Int32 × MM) (hf : f_X7_person t v1 v2 = some res) (hK : RetI F G Q cX7_person 3 .int res.1 (res.2, r)) : At F G Q 3 0 [(0, .ref (G.2.1 0)), (1, .int v1), (2, .int v2)] [] (t, r) := by
  unfold f_X7_person at hf
  refine a_iload_n C (i := 1) (q := 1) dX7_person_0 rfl 1 rfl rfl ?_
  refine a_if_lt C (tgt := 20) (q := 4) dX7_person_1 hf (by decide) rfl (fun hf => ?_) (fun hf => ?_)
  · refine a_iconst C (v := (-1 : Int32)) (q := 21) dX7_person_20 rfl (by decide) ?_
    have hf := Option.some.inj hf; subst hf
    exact (show RetI F G Q cX7_person 3 .int (-1 : Int32) (t, r) from hK) rfl _ _ dX7_person_21
  · refine a_iload_n C (i := 1) (q := 5) dX7_person_4 rfl 1 rfl rfl ?_
    refine a_iconst C (v := (4 : Int32)) (q := 6) dX7_person_5 rfl (by decide) ?_
    refine a_icmp_ge C (tgt := 20) (q := 9) dX7_person_6 hf (by decide) rfl (fun hf => ?_) (fun hf => ?_)
    · refine a_iconst C (v := (-1 : Int32)) (q := 21) dX7_person_20 rfl (by decide) ?_
      have hf := Option.some.inj hf; subst hf
      exact (show RetI F G Q cX7_person 3 .int (-1 : Int32) (t, r) from hK) rfl _ _ dX7_person_21
    · refine a_iload_n C (i := 2) (q := 10) dX7_person_9 rfl 2 rfl rfl ?_
      refine a_iconst C (v := (1 : Int32)) (q := 11) dX7_person_10 rfl (by decide) ?_
      refine a_icmp_lt C (tgt := 20) (q := 14) dX7_person_11 hf (by decide) rfl (fun hf => ?_) (fun hf => ?_)
      · refine a_iconst C (v := (-1 : Int32)) (q := 21) dX7_person_20 rfl (by decide) ?_
        have hf := Option.some.inj hf; subst hf
        exact (show RetI F G Q cX7_person 3 .int (-1 : Int32) (t, r) from hK) rfl _ _ dX7_person_21
      · refine a_iload_n C (i := 2) (q := 15) dX7_person_14 rfl 2 rfl rfl ?_
        refine a_bipush C (v := (99 : Int32)) (q := 17) dX7_person_15 rfl (by decide) ?_
        refine a_icmp_le C (tgt := 22) (q := 20) dX7_person_17 hf (by decide) rfl (fun hf => ?_) (fun hf => ?_)
        · refine a_aload_n C (i := 0) (q := 23) dX7_person_22 rfl 0 rfl rfl ?_
          refine a_get7 C (q := 26) dX7_person_23 0 (by decide) k_213 (by decide) rfl rfl rfl ?_
          refine a_get6 C (q := 29) dX7_person_26 5 (by decide) k_45 (by decide) rfl rfl rfl ?_
          refine a_bipush C (v := (10 : Int32)) (q := 31) dX7_person_29 rfl (by decide) ?_
          refine a_icmp_lt C (tgt := 37) (q := 34) dX7_person_31 hf (by decide) rfl (fun hf => ?_) (fun hf => ?_)
          · refine a_aload_n C (i := 0) (q := 38) dX7_person_37 rfl 0 rfl rfl ?_
            refine a_get7 C (q := 41) dX7_person_38 0 (by decide) k_213 (by decide) rfl rfl rfl ?_
            refine a_iload_n C (i := 1) (q := 42) dX7_person_41 rfl 1 rfl rfl ?_
            refine a_iload_n C (i := 2) (q := 43) dX7_person_42 rfl 2 rfl rfl ?_
            refine a_callVI C (q := 46) (As := [.int v1, .int v2]) (st := []) dX7_person_43 hR (by decide) hf (fun b => b.1) (fun b => (b.2, r)) (by decide) rfl rfl cw_X6_addOne (fun b hb => c_X6_addOne _ G t r v1 v2 b hb) rfl rfl (Nat.le_of_ble_eq_true rfl) k_248 rfl (fun y_1 hf => ?_)
            have hf := Option.some.inj hf; subst hf
            exact (show RetI F G Q cX7_person 3 .int y_1.1 (y_1.2, r) from hK) rfl _ _ dX7_person_46
          · refine a_bipush C (v := (-3 : Int32)) (q := 36) dX7_person_34 rfl (by decide) ?_
            have hf := Option.some.inj hf; subst hf
            exact (show RetI F G Q cX7_person 3 .int (-3 : Int32) (t, r) from hK) rfl _ _ dX7_person_36
        · refine a_iconst C (v := (-1 : Int32)) (q := 21) dX7_person_20 rfl (by decide) ?_
          have hf := Option.some.inj hf; subst hf
          exact (show RetI F G Q cX7_person 3 .int (-1 : Int32) (t, r) from hK) rfl _ _ dX7_person_21
theorem c_X7_person (l : Launch) (G : GX) (t : MM) (r : SR) (v1 : Int32) (v2 : Int32) (res : Int32 × MM) (hf : f_X7_person t v1 v2 = some res) : MetC l G yX7_person cX7_person 3 (some .int) 3 (t, r) [.ref (G.2.1 0), .int v1, .int v2] (PostI G res.1 (res.2, r)) :=
  m_I (by decide) (Nat.le_of_ble_eq_true rfl) (fun F Q C h1 h2 h3 hK => w_X7_person_e C (Rm.of h1 h3) t r v1 v2 res hf hK)
theorem cw_X7_told : CwV RX7 yX7_told cX7_told 3 2 (some .int) := ⟨k_255, k_253, k_254, k_1, by decide +kernel, by decide⟩
def f_X7_told (t : MM) (v1 : Int32) (v2 : Int32) : Option (Int32) :=
  b1 (f_X6_has t v1) (fun y_1 => (if y_1 = 0 then some (-1 : Int32) else (if v2 = 0 then ix v1 10 (some (t 2 v1.toNatClampNeg)) else (if v2 = 1 then ix v1 10 (some (t 3 v1.toNatClampNeg)) else (if v2 = 2 then ix v1 10 (some (t 4 v1.toNatClampNeg)) else (if v2 = 3 then ix v1 10 ((if (t 4 v1.toNatClampNeg) = (12 : Int32) then some (-4 : Int32) else ix v1 10 (some (t 5 v1.toNatClampNeg)))) else some (-1 : Int32)))))))
set_option maxHeartbeats 4000000 in
theorem w_X7_told_e {F : FX} {G : GX} {Q : State → Prop} (C : Cx F G cX7_told 3 RX7) (hR : Rm F 3) (t : MM) (r : SR)  (v1 : Int32) (v2 : Int32) (res : Int32) (hf : f_X7_told t v1 v2 = some res) (hK : RetI F G Q cX7_told 3 .int res (t, r)) : At F G Q 3 0 [(0, .ref (G.2.1 0)), (1, .int v1), (2, .int v2)] [] (t, r) := by
  unfold f_X7_told at hf
  refine a_aload_n C (i := 0) (q := 1) dX7_told_0 rfl 0 rfl rfl ?_
  refine a_get7 C (q := 4) dX7_told_1 0 (by decide) k_213 (by decide) rfl rfl rfl ?_
  refine a_iload_n C (i := 1) (q := 5) dX7_told_4 rfl 1 rfl rfl ?_
  refine a_callVI C (q := 8) (As := [.int v1]) (st := []) dX7_told_5 hR (by decide) hf (fun b => b) (fun _ => (t, r)) (by decide) rfl rfl cw_X6_has (fun b hb => c_X6_has _ G t r v1 b hb) rfl rfl (Nat.le_of_ble_eq_true rfl) k_256 rfl (fun y_1 hf => ?_)
  refine a_if_ne C (tgt := 13) (q := 11) dX7_told_8 hf (by decide) rfl (fun hf => ?_) (fun hf => ?_)
  · refine a_iload_n C (i := 2) (q := 14) dX7_told_13 rfl 2 rfl rfl ?_
    rcases ite_cut hf with ⟨hc0, hf⟩ | ⟨hc0, hf⟩
    · refine a_tblIn C (tgt := 44) (q := 14) (v := 0) dX7_told_14 hc0 (by decide) (by decide) rfl (by decide) rfl ?_
      refine a_aload_n C (i := 0) (q := 45) dX7_told_44 rfl 0 rfl rfl ?_
      refine a_get7 C (q := 48) dX7_told_45 0 (by decide) k_213 (by decide) rfl rfl rfl ?_
      refine a_get6 C (q := 51) dX7_told_48 0 (by decide) k_33 (by decide) rfl rfl rfl ?_
      refine a_iload_n C (i := 1) (q := 52) dX7_told_51 rfl 1 rfl rfl ?_
      refine a_iald C (q := 53) (g := t 2) dX7_told_52 hf (by decide) rfl rfl (fun hf => ?_)
      have hf := Option.some.inj hf; subst hf
      exact (show RetI F G Q cX7_told 3 .int (t 2 v1.toNatClampNeg) (t, r) from hK) rfl _ _ dX7_told_53
    · rcases ite_cut hf with ⟨hc1, hf⟩ | ⟨hc1, hf⟩
      · refine a_tblIn C (tgt := 54) (q := 14) (v := 1) dX7_told_14 hc1 (by decide) (by decide) rfl (by decide) rfl ?_
        refine a_aload_n C (i := 0) (q := 55) dX7_told_54 rfl 0 rfl rfl ?_
        refine a_get7 C (q := 58) dX7_told_55 0 (by decide) k_213 (by decide) rfl rfl rfl ?_
        refine a_get6 C (q := 61) dX7_told_58 1 (by decide) k_36 (by decide) rfl rfl rfl ?_
        refine a_iload_n C (i := 1) (q := 62) dX7_told_61 rfl 1 rfl rfl ?_
        refine a_iald C (q := 63) (g := t 3) dX7_told_62 hf (by decide) rfl rfl (fun hf => ?_)
        have hf := Option.some.inj hf; subst hf
        exact (show RetI F G Q cX7_told 3 .int (t 3 v1.toNatClampNeg) (t, r) from hK) rfl _ _ dX7_told_63
      · rcases ite_cut hf with ⟨hc2, hf⟩ | ⟨hc2, hf⟩
        · refine a_tblIn C (tgt := 64) (q := 14) (v := 2) dX7_told_14 hc2 (by decide) (by decide) rfl (by decide) rfl ?_
          refine a_aload_n C (i := 0) (q := 65) dX7_told_64 rfl 0 rfl rfl ?_
          refine a_get7 C (q := 68) dX7_told_65 0 (by decide) k_213 (by decide) rfl rfl rfl ?_
          refine a_get6 C (q := 71) dX7_told_68 2 (by decide) k_39 (by decide) rfl rfl rfl ?_
          refine a_iload_n C (i := 1) (q := 72) dX7_told_71 rfl 1 rfl rfl ?_
          refine a_iald C (q := 73) (g := t 4) dX7_told_72 hf (by decide) rfl rfl (fun hf => ?_)
          have hf := Option.some.inj hf; subst hf
          exact (show RetI F G Q cX7_told 3 .int (t 4 v1.toNatClampNeg) (t, r) from hK) rfl _ _ dX7_told_73
        · rcases ite_cut hf with ⟨hc3, hf⟩ | ⟨hc3, hf⟩
          · refine a_tblIn C (tgt := 74) (q := 14) (v := 3) dX7_told_14 hc3 (by decide) (by decide) rfl (by decide) rfl ?_
            refine a_aload_n C (i := 0) (q := 75) dX7_told_74 rfl 0 rfl rfl ?_
            refine a_get7 C (q := 78) dX7_told_75 0 (by decide) k_213 (by decide) rfl rfl rfl ?_
            refine a_get6 C (q := 81) dX7_told_78 2 (by decide) k_39 (by decide) rfl rfl rfl ?_
            refine a_iload_n C (i := 1) (q := 82) dX7_told_81 rfl 1 rfl rfl ?_
            refine a_iald C (q := 83) (g := t 4) dX7_told_82 hf (by decide) rfl rfl (fun hf => ?_)
            refine a_bipush C (v := (12 : Int32)) (q := 85) dX7_told_83 rfl (by decide) ?_
            refine a_icmp_ne C (tgt := 93) (q := 88) dX7_told_85 hf (by decide) rfl (fun hf => ?_) (fun hf => ?_)
            · refine a_aload_n C (i := 0) (q := 94) dX7_told_93 rfl 0 rfl rfl ?_
              refine a_get7 C (q := 97) dX7_told_94 0 (by decide) k_213 (by decide) rfl rfl rfl ?_
              refine a_get6 C (q := 100) dX7_told_97 3 (by decide) k_41 (by decide) rfl rfl rfl ?_
              refine a_iload_n C (i := 1) (q := 101) dX7_told_100 rfl 1 rfl rfl ?_
              refine a_iald C (q := 102) (g := t 5) dX7_told_101 hf (by decide) rfl rfl (fun hf => ?_)
              have hf := Option.some.inj hf; subst hf
              exact (show RetI F G Q cX7_told 3 .int (t 5 v1.toNatClampNeg) (t, r) from hK) rfl _ _ dX7_told_102
            · refine a_bipush C (v := (-4 : Int32)) (q := 90) dX7_told_88 rfl (by decide) ?_
              refine a_goto C (q := 102) dX7_told_90 (by decide) ?_
              have hf := Option.some.inj hf; subst hf
              exact (show RetI F G Q cX7_told 3 .int (-4 : Int32) (t, r) from hK) rfl _ _ dX7_told_102
          · refine a_tblOut C (tgt := 103) (q := 14) dX7_told_14 (tO4 hc0 hc1 hc2 hc3) (by decide) rfl ?_
            refine a_iconst C (v := (-1 : Int32)) (q := 104) dX7_told_103 rfl (by decide) ?_
            have hf := Option.some.inj hf; subst hf
            exact (show RetI F G Q cX7_told 3 .int (-1 : Int32) (t, r) from hK) rfl _ _ dX7_told_104
  · refine a_iconst C (v := (-1 : Int32)) (q := 12) dX7_told_11 rfl (by decide) ?_
    have hf := Option.some.inj hf; subst hf
    exact (show RetI F G Q cX7_told 3 .int (-1 : Int32) (t, r) from hK) rfl _ _ dX7_told_12
theorem c_X7_told (l : Launch) (G : GX) (t : MM) (r : SR) (v1 : Int32) (v2 : Int32) (res : Int32) (hf : f_X7_told t v1 v2 = some res) : MetC l G yX7_told cX7_told 3 (some .int) 3 (t, r) [.ref (G.2.1 0), .int v1, .int v2] (PostI G res (t, r)) :=
  m_I (by decide) (Nat.le_of_ble_eq_true rfl) (fun F Q C h1 h2 h3 hK => w_X7_told_e C (Rm.of h1 h3) t r v1 v2 res hf hK)
theorem cw_X7_car : CwV RX7 yX7_car cX7_car 4 2 (some .int) := ⟨k_263, k_261, k_262, k_1, by decide +kernel, by decide⟩
def f_X7_car (n : Nat) (t : MM) (v1 : Int32) (v2 : Int32) : Option (Int32) :=
  (if v1 < 0 then some (-1 : Int32) else (if v1 < (12 : Int32) then b1 (f_X6_whoIsAt n t v1) (fun y_1 => (if v2 = 0 then b1 (f_X6_loadOf n t v1) (fun y_2 => some y_2) else (if v2 = 1 then b1 (f_X6_seatsOf n t y_1) (fun y_3 => some y_3) else (if v2 = 2 then ix v1 12 (some (t 6 v1.toNatClampNeg)) else (if v2 = 3 then some y_1 else some (-1 : Int32)))))) else some (-1 : Int32)))
set_option maxHeartbeats 4000000 in
theorem w_X7_car_e {F : FX} {G : GX} {Q : State → Prop} (C : Cx F G cX7_car 4 RX7) (hR : Rm F 4) (n : Nat) (t : MM) (r : SR)  (v1 : Int32) (v2 : Int32) (res : Int32) (hf : f_X7_car n t v1 v2 = some res) (hK : RetI F G Q cX7_car 4 .int res (t, r)) : At F G Q 4 0 [(0, .ref (G.2.1 0)), (1, .int v1), (2, .int v2)] [] (t, r) := by
  unfold f_X7_car at hf
  refine a_iload_n C (i := 1) (q := 1) dX7_car_0 rfl 1 rfl rfl ?_
  refine a_if_lt C (tgt := 10) (q := 4) dX7_car_1 hf (by decide) rfl (fun hf => ?_) (fun hf => ?_)
  · refine a_iconst C (v := (-1 : Int32)) (q := 11) dX7_car_10 rfl (by decide) ?_
    have hf := Option.some.inj hf; subst hf
    exact (show RetI F G Q cX7_car 4 .int (-1 : Int32) (t, r) from hK) rfl _ _ dX7_car_11
  · refine a_iload_n C (i := 1) (q := 5) dX7_car_4 rfl 1 rfl rfl ?_
    refine a_bipush C (v := (12 : Int32)) (q := 7) dX7_car_5 rfl (by decide) ?_
    refine a_icmp_lt C (tgt := 12) (q := 10) dX7_car_7 hf (by decide) rfl (fun hf => ?_) (fun hf => ?_)
    · refine a_aload_n C (i := 0) (q := 13) dX7_car_12 rfl 0 rfl rfl ?_
      refine a_get7 C (q := 16) dX7_car_13 0 (by decide) k_213 (by decide) rfl rfl rfl ?_
      refine a_iload_n C (i := 1) (q := 17) dX7_car_16 rfl 1 rfl rfl ?_
      refine a_callVI C (q := 20) (As := [.int v1]) (st := []) dX7_car_17 hR (by decide) hf (fun b => b) (fun _ => (t, r)) (by decide) rfl rfl cw_X6_whoIsAt (fun b hb => c_X6_whoIsAt _ G n t r v1 b hb) rfl rfl (Nat.le_of_ble_eq_true rfl) k_264 rfl (fun y_1 hf => ?_)
      refine a_istore_n C (i := 3) (q := 21) (lv' := [(3, .int y_1), (0, .ref (G.2.1 0)), (1, .int v1), (2, .int v2)]) dX7_car_20 rfl (by decide) rfl rfl ?_
      refine a_iload_n C (i := 2) (q := 22) dX7_car_21 rfl 3 rfl rfl ?_
      rcases ite_cut hf with ⟨hc0, hf⟩ | ⟨hc0, hf⟩
      · refine a_tblIn C (tgt := 52) (q := 22) (v := 0) dX7_car_22 hc0 (by decide) (by decide) rfl (by decide) rfl ?_
        refine a_aload_n C (i := 0) (q := 53) dX7_car_52 rfl 1 rfl rfl ?_
        refine a_get7 C (q := 56) dX7_car_53 0 (by decide) k_213 (by decide) rfl rfl rfl ?_
        refine a_iload_n C (i := 1) (q := 57) dX7_car_56 rfl 2 rfl rfl ?_
        refine a_callVI C (q := 60) (As := [.int v1]) (st := []) dX7_car_57 hR (by decide) hf (fun b => b) (fun _ => (t, r)) (by decide) rfl rfl cw_X6_loadOf (fun b hb => c_X6_loadOf _ G n t r v1 b hb) rfl rfl (Nat.le_of_ble_eq_true rfl) k_268 rfl (fun y_2 hf => ?_)
        have hf := Option.some.inj hf; subst hf
        exact (show RetI F G Q cX7_car 4 .int y_2 (t, r) from hK) rfl _ _ dX7_car_60
      · rcases ite_cut hf with ⟨hc1, hf⟩ | ⟨hc1, hf⟩
        · refine a_tblIn C (tgt := 61) (q := 22) (v := 1) dX7_car_22 hc1 (by decide) (by decide) rfl (by decide) rfl ?_
          refine a_aload_n C (i := 0) (q := 62) dX7_car_61 rfl 1 rfl rfl ?_
          refine a_get7 C (q := 65) dX7_car_62 0 (by decide) k_213 (by decide) rfl rfl rfl ?_
          refine a_iload_n C (i := 3) (q := 66) dX7_car_65 rfl 0 rfl rfl ?_
          refine a_callVI C (q := 69) (As := [.int y_1]) (st := []) dX7_car_66 hR (by decide) hf (fun b => b) (fun _ => (t, r)) (by decide) rfl rfl cw_X6_seatsOf (fun b hb => c_X6_seatsOf _ G n t r y_1 b hb) rfl rfl (Nat.le_of_ble_eq_true rfl) k_277 rfl (fun y_3 hf => ?_)
          have hf := Option.some.inj hf; subst hf
          exact (show RetI F G Q cX7_car 4 .int y_3 (t, r) from hK) rfl _ _ dX7_car_69
        · rcases ite_cut hf with ⟨hc2, hf⟩ | ⟨hc2, hf⟩
          · refine a_tblIn C (tgt := 70) (q := 22) (v := 2) dX7_car_22 hc2 (by decide) (by decide) rfl (by decide) rfl ?_
            refine a_aload_n C (i := 0) (q := 71) dX7_car_70 rfl 1 rfl rfl ?_
            refine a_get7 C (q := 74) dX7_car_71 0 (by decide) k_213 (by decide) rfl rfl rfl ?_
            refine a_get6 C (q := 77) dX7_car_74 4 (by decide) k_43 (by decide) rfl rfl rfl ?_
            refine a_iload_n C (i := 1) (q := 78) dX7_car_77 rfl 2 rfl rfl ?_
            refine a_iald C (q := 79) (g := t 6) dX7_car_78 hf (by decide) rfl rfl (fun hf => ?_)
            have hf := Option.some.inj hf; subst hf
            exact (show RetI F G Q cX7_car 4 .int (t 6 v1.toNatClampNeg) (t, r) from hK) rfl _ _ dX7_car_79
          · rcases ite_cut hf with ⟨hc3, hf⟩ | ⟨hc3, hf⟩
            · refine a_tblIn C (tgt := 80) (q := 22) (v := 3) dX7_car_22 hc3 (by decide) (by decide) rfl (by decide) rfl ?_
              refine a_iload_n C (i := 3) (q := 81) dX7_car_80 rfl 0 rfl rfl ?_
              have hf := Option.some.inj hf; subst hf
              exact (show RetI F G Q cX7_car 4 .int y_1 (t, r) from hK) rfl _ _ dX7_car_81
            · refine a_tblOut C (tgt := 82) (q := 22) dX7_car_22 (tO4 hc0 hc1 hc2 hc3) (by decide) rfl ?_
              refine a_iconst C (v := (-1 : Int32)) (q := 83) dX7_car_82 rfl (by decide) ?_
              have hf := Option.some.inj hf; subst hf
              exact (show RetI F G Q cX7_car 4 .int (-1 : Int32) (t, r) from hK) rfl _ _ dX7_car_83
    · refine a_iconst C (v := (-1 : Int32)) (q := 11) dX7_car_10 rfl (by decide) ?_
      have hf := Option.some.inj hf; subst hf
      exact (show RetI F G Q cX7_car 4 .int (-1 : Int32) (t, r) from hK) rfl _ _ dX7_car_11
theorem c_X7_car (l : Launch) (G : GX) (n : Nat) (t : MM) (r : SR) (v1 : Int32) (v2 : Int32) (res : Int32) (hf : f_X7_car n t v1 v2 = some res) : MetC l G yX7_car cX7_car 4 (some .int) 4 (t, r) [.ref (G.2.1 0), .int v1, .int v2] (PostI G res (t, r)) :=
  m_I (by decide) (Nat.le_of_ble_eq_true rfl) (fun F Q C h1 h2 h3 hK => w_X7_car_e C (Rm.of h1 h3) n t r v1 v2 res hf hK)
theorem cw_X7_limit : CwV RX7 yX7_limit cX7_limit 3 1 (some .int) := ⟨k_286, k_284, k_285, k_1, by decide +kernel, by decide⟩
def f_X7_limit (n : Nat) (t : MM) (v1 : Int32) : Option (Int32 × MM) :=
  (if v1 < 0 then some ((-1 : Int32), t) else (if v1 ≤ (999 : Int32) then b1 (f_X6_weighAll n t 28) (fun y_1 => b1 (f_X2_isEvenWithin y_1 28 v1) (fun y_2 => (if y_2 = 0 then some ((-2 : Int32), y_1) else nm (y_1 1 7) (fun v2_3 => nm (st1 y_1 1 7 v1) (fun t_4 => some (v2_3, t_4)))))) else some ((-1 : Int32), t)))
set_option maxHeartbeats 4000000 in
theorem w_X7_limit_e {F : FX} {G : GX} {Q : State → Prop} (C : Cx F G cX7_limit 3 RX7) (hR : Rm F 5) (n : Nat) (t : MM) (r : SR)  (v1 : Int32) (res : Int32 × MM) (hf : f_X7_limit n t v1 = some res) (hK : RetI F G Q cX7_limit 3 .int res.1 (res.2, r)) : At F G Q 3 0 [(0, .ref (G.2.1 0)), (1, .int v1)] [] (t, r) := by
  unfold f_X7_limit at hf
  refine a_iload_n C (i := 1) (q := 1) dX7_limit_0 rfl 1 rfl rfl ?_
  refine a_if_lt C (tgt := 11) (q := 4) dX7_limit_1 hf (by decide) rfl (fun hf => ?_) (fun hf => ?_)
  · refine a_iconst C (v := (-1 : Int32)) (q := 12) dX7_limit_11 rfl (by decide) ?_
    have hf := Option.some.inj hf; subst hf
    exact (show RetI F G Q cX7_limit 3 .int (-1 : Int32) (t, r) from hK) rfl _ _ dX7_limit_12
  · refine a_iload_n C (i := 1) (q := 5) dX7_limit_4 rfl 1 rfl rfl ?_
    refine a_sipush C (v := (999 : Int32)) (q := 8) dX7_limit_5 rfl (by decide) ?_
    refine a_icmp_le C (tgt := 13) (q := 11) dX7_limit_8 hf (by decide) rfl (fun hf => ?_) (fun hf => ?_)
    · refine a_aload_n C (i := 0) (q := 14) dX7_limit_13 rfl 0 rfl rfl ?_
      refine a_get7 C (q := 17) dX7_limit_14 0 (by decide) k_213 (by decide) rfl rfl rfl ?_
      refine a_aload_n C (i := 0) (q := 18) dX7_limit_17 rfl 0 rfl rfl ?_
      refine a_get7 C (q := 21) dX7_limit_18 6 (by decide) k_219 (by decide) rfl rfl rfl ?_
      refine a_callVV C (q := 24) (As := [.ref (G.2.1 28)]) (st := []) dX7_limit_21 hR (by decide) hf (fun b => (b, r)) (by decide) rfl rfl cw_X6_weighAll (fun b hb => c_X6_weighAll _ G n t r 28 (by unfold isBal; decide) b hb) rfl rfl (Nat.le_of_ble_eq_true rfl) k_287 rfl (fun y_1 hf => ?_)
      refine a_aload_n C (i := 0) (q := 25) dX7_limit_24 rfl 0 rfl rfl ?_
      refine a_get7 C (q := 28) dX7_limit_25 6 (by decide) k_219 (by decide) rfl rfl rfl ?_
      refine a_iload_n C (i := 1) (q := 29) dX7_limit_28 rfl 1 rfl rfl ?_
      refine a_callVI C (q := 32) (As := [.int v1]) (st := []) dX7_limit_29 hR (by decide) hf (fun b => b) (fun _ => (y_1, r)) (by decide) rfl rfl cw_X2_isEvenWithin (fun b hb => c_X2_isEvenWithin _ G y_1 r 28 v1 (by unfold isBal; decide) b hb) rfl rfl (Nat.le_of_ble_eq_true rfl) k_319 rfl (fun y_2 hf => ?_)
      refine a_if_ne C (tgt := 38) (q := 35) dX7_limit_32 hf (by decide) rfl (fun hf => ?_) (fun hf => ?_)
      · refine a_aload_n C (i := 0) (q := 39) dX7_limit_38 rfl 0 rfl rfl ?_
        refine a_get7 C (q := 42) dX7_limit_39 0 (by decide) k_213 (by decide) rfl rfl rfl ?_
        refine a_get6 C (q := 45) dX7_limit_42 7 (by decide) k_49 (by decide) rfl rfl rfl ?_
        refine a_istore_nN C (i := 2) (q := 46) (lv' := fun z => [(2, .int z), (0, .ref (G.2.1 0)), (1, .int v1)]) dX7_limit_45 hf rfl (by decide) (fun _ => rfl) rfl (fun v2_3 hf => ?_)
        refine a_aload_n C (i := 0) (q := 47) dX7_limit_46 rfl 1 rfl rfl ?_
        refine a_get7 C (q := 50) dX7_limit_47 0 (by decide) k_213 (by decide) rfl rfl rfl ?_
        refine a_iload_n C (i := 1) (q := 51) dX7_limit_50 rfl 2 rfl rfl ?_
        refine a_put6N C (q := 54) (mk := (fun z => (z, r))) dX7_limit_51 hf 7 (by decide) k_49 (by decide) rfl rfl cellE_C1 rfl rfl rfl (Nat.le_of_ble_eq_true rfl) rfl (fun t_4 hf => ?_)
        refine a_iload_n C (i := 2) (q := 55) dX7_limit_54 rfl 0 rfl rfl ?_
        have hf := Option.some.inj hf; subst hf
        exact (show RetI F G Q cX7_limit 3 .int v2_3 (t_4, r) from hK) rfl _ _ dX7_limit_55
      · refine a_bipush C (v := (-2 : Int32)) (q := 37) dX7_limit_35 rfl (by decide) ?_
        have hf := Option.some.inj hf; subst hf
        exact (show RetI F G Q cX7_limit 3 .int (-2 : Int32) (y_1, r) from hK) rfl _ _ dX7_limit_37
    · refine a_iconst C (v := (-1 : Int32)) (q := 12) dX7_limit_11 rfl (by decide) ?_
      have hf := Option.some.inj hf; subst hf
      exact (show RetI F G Q cX7_limit 3 .int (-1 : Int32) (t, r) from hK) rfl _ _ dX7_limit_12
theorem c_X7_limit (l : Launch) (G : GX) (n : Nat) (t : MM) (r : SR) (v1 : Int32) (res : Int32 × MM) (hf : f_X7_limit n t v1 = some res) : MetC l G yX7_limit cX7_limit 3 (some .int) 5 (t, r) [.ref (G.2.1 0), .int v1] (PostI G res.1 (res.2, r)) :=
  m_I (by decide) (Nat.le_of_ble_eq_true rfl) (fun F Q C h1 h2 h3 hK => w_X7_limit_e C (Rm.of h1 h3) n t r v1 res hf hK)
theorem cw_X7_out : CwV RX7 yX7_out cX7_out 2 1 (some .int) := ⟨k_340, k_338, k_339, k_1, by decide +kernel, by decide⟩
def f_X7_out (n : Nat) (t : MM) (v1 : Int32) : Option (Int32 × MM) :=
  b1 (f_X6_weighAll n t 28) (fun y_1 => (if v1 = 0 then some (y_1 28 0, y_1) else (if v1 = 1 then some (y_1 28 1, y_1) else (if v1 = 2 then some (y_1 28 2, y_1) else (if v1 = 3 then some (y_1 28 3, y_1) else (if v1 = 4 then b1 (f_X2_wholePart y_1 28) (fun y_2 => some (y_2.toInt32, y_1)) else (if v1 = 5 then b1 (f_X2_rootPart y_1 28) (fun y_3 => some (y_3.toInt32, y_1)) else some ((-100000001 : Int32), y_1))))))))
set_option maxHeartbeats 4000000 in
theorem w_X7_out_e {F : FX} {G : GX} {Q : State → Prop} (C : Cx F G cX7_out 2 RX7) (hR : Rm F 5) (n : Nat) (t : MM) (r : SR)  (v1 : Int32) (res : Int32 × MM) (hf : f_X7_out n t v1 = some res) (hK : RetI F G Q cX7_out 2 .int res.1 (res.2, r)) : At F G Q 2 0 [(0, .ref (G.2.1 0)), (1, .int v1)] [] (t, r) := by
  unfold f_X7_out at hf
  refine a_aload_n C (i := 0) (q := 1) dX7_out_0 rfl 0 rfl rfl ?_
  refine a_get7 C (q := 4) dX7_out_1 0 (by decide) k_213 (by decide) rfl rfl rfl ?_
  refine a_aload_n C (i := 0) (q := 5) dX7_out_4 rfl 0 rfl rfl ?_
  refine a_get7 C (q := 8) dX7_out_5 6 (by decide) k_219 (by decide) rfl rfl rfl ?_
  refine a_callVV C (q := 11) (As := [.ref (G.2.1 28)]) (st := []) dX7_out_8 hR (by decide) hf (fun b => (b, r)) (by decide) rfl rfl cw_X6_weighAll (fun b hb => c_X6_weighAll _ G n t r 28 (by unfold isBal; decide) b hb) rfl rfl (Nat.le_of_ble_eq_true rfl) k_287 rfl (fun y_1 hf => ?_)
  refine a_iload_n C (i := 1) (q := 12) dX7_out_11 rfl 1 rfl rfl ?_
  rcases ite_cut hf with ⟨hc0, hf⟩ | ⟨hc0, hf⟩
  · refine a_tblIn C (tgt := 52) (q := 12) (v := 0) dX7_out_12 hc0 (by decide) (by decide) rfl (by decide) rfl ?_
    refine a_aload_n C (i := 0) (q := 53) dX7_out_52 rfl 0 rfl rfl ?_
    refine a_get7 C (q := 56) dX7_out_53 6 (by decide) k_219 (by decide) rfl rfl rfl ?_
    refine a_get2 C (q := 59) dX7_out_56 0 (by decide) k_109 (by decide) rfl rfl rfl ?_
    have hf := Option.some.inj hf; subst hf
    exact (show RetI F G Q cX7_out 2 .int (y_1 28 0) (y_1, r) from hK) rfl _ _ dX7_out_59
  · rcases ite_cut hf with ⟨hc1, hf⟩ | ⟨hc1, hf⟩
    · refine a_tblIn C (tgt := 60) (q := 12) (v := 1) dX7_out_12 hc1 (by decide) (by decide) rfl (by decide) rfl ?_
      refine a_aload_n C (i := 0) (q := 61) dX7_out_60 rfl 0 rfl rfl ?_
      refine a_get7 C (q := 64) dX7_out_61 6 (by decide) k_219 (by decide) rfl rfl rfl ?_
      refine a_get2 C (q := 67) dX7_out_64 1 (by decide) k_111 (by decide) rfl rfl rfl ?_
      have hf := Option.some.inj hf; subst hf
      exact (show RetI F G Q cX7_out 2 .int (y_1 28 1) (y_1, r) from hK) rfl _ _ dX7_out_67
    · rcases ite_cut hf with ⟨hc2, hf⟩ | ⟨hc2, hf⟩
      · refine a_tblIn C (tgt := 68) (q := 12) (v := 2) dX7_out_12 hc2 (by decide) (by decide) rfl (by decide) rfl ?_
        refine a_aload_n C (i := 0) (q := 69) dX7_out_68 rfl 0 rfl rfl ?_
        refine a_get7 C (q := 72) dX7_out_69 6 (by decide) k_219 (by decide) rfl rfl rfl ?_
        refine a_get2 C (q := 75) dX7_out_72 2 (by decide) k_113 (by decide) rfl rfl rfl ?_
        have hf := Option.some.inj hf; subst hf
        exact (show RetI F G Q cX7_out 2 .int (y_1 28 2) (y_1, r) from hK) rfl _ _ dX7_out_75
      · rcases ite_cut hf with ⟨hc3, hf⟩ | ⟨hc3, hf⟩
        · refine a_tblIn C (tgt := 76) (q := 12) (v := 3) dX7_out_12 hc3 (by decide) (by decide) rfl (by decide) rfl ?_
          refine a_aload_n C (i := 0) (q := 77) dX7_out_76 rfl 0 rfl rfl ?_
          refine a_get7 C (q := 80) dX7_out_77 6 (by decide) k_219 (by decide) rfl rfl rfl ?_
          refine a_get2 C (q := 83) dX7_out_80 3 (by decide) k_115 (by decide) rfl rfl rfl ?_
          have hf := Option.some.inj hf; subst hf
          exact (show RetI F G Q cX7_out 2 .int (y_1 28 3) (y_1, r) from hK) rfl _ _ dX7_out_83
        · rcases ite_cut hf with ⟨hc4, hf⟩ | ⟨hc4, hf⟩
          · refine a_tblIn C (tgt := 84) (q := 12) (v := 4) dX7_out_12 hc4 (by decide) (by decide) rfl (by decide) rfl ?_
            refine a_aload_n C (i := 0) (q := 85) dX7_out_84 rfl 0 rfl rfl ?_
            refine a_get7 C (q := 88) dX7_out_85 6 (by decide) k_219 (by decide) rfl rfl rfl ?_
            refine a_callVL C (q := 91) (As := []) (st := []) dX7_out_88 hR (by decide) hf (fun b => b) (fun _ => (y_1, r)) (by decide) rfl rfl cw_X2_wholePart (fun b hb => c_X2_wholePart _ G y_1 r 28 (by unfold isBal; decide) b hb) rfl rfl (Nat.le_of_ble_eq_true rfl) k_341 rfl (fun y_2 hf => ?_)
            refine a_l2i C (q := 92) dX7_out_91 rfl ?_
            have hf := Option.some.inj hf; subst hf
            exact (show RetI F G Q cX7_out 2 .int y_2.toInt32 (y_1, r) from hK) rfl _ _ dX7_out_92
          · rcases ite_cut hf with ⟨hc5, hf⟩ | ⟨hc5, hf⟩
            · refine a_tblIn C (tgt := 93) (q := 12) (v := 5) dX7_out_12 hc5 (by decide) (by decide) rfl (by decide) rfl ?_
              refine a_aload_n C (i := 0) (q := 94) dX7_out_93 rfl 0 rfl rfl ?_
              refine a_get7 C (q := 97) dX7_out_94 6 (by decide) k_219 (by decide) rfl rfl rfl ?_
              refine a_callVL C (q := 100) (As := []) (st := []) dX7_out_97 hR (by decide) hf (fun b => b) (fun _ => (y_1, r)) (by decide) rfl rfl cw_X2_rootPart (fun b hb => c_X2_rootPart _ G y_1 r 28 (by unfold isBal; decide) b hb) rfl rfl (Nat.le_of_ble_eq_true rfl) k_342 rfl (fun y_3 hf => ?_)
              refine a_l2i C (q := 101) dX7_out_100 rfl ?_
              have hf := Option.some.inj hf; subst hf
              exact (show RetI F G Q cX7_out 2 .int y_3.toInt32 (y_1, r) from hK) rfl _ _ dX7_out_101
            · refine a_tblOut C (tgt := 102) (q := 12) dX7_out_12 (tO6 hc0 hc1 hc2 hc3 hc4 hc5) (by decide) rfl ?_
              refine a_ldc C (v := (-100000001 : Int32)) (q := 104) dX7_out_102 rfl k_343 ?_
              have hf := Option.some.inj hf; subst hf
              exact (show RetI F G Q cX7_out 2 .int (-100000001 : Int32) (y_1, r) from hK) rfl _ _ dX7_out_104
theorem c_X7_out (l : Launch) (G : GX) (n : Nat) (t : MM) (r : SR) (v1 : Int32) (res : Int32 × MM) (hf : f_X7_out n t v1 = some res) : MetC l G yX7_out cX7_out 2 (some .int) 5 (t, r) [.ref (G.2.1 0), .int v1] (PostI G res.1 (res.2, r)) :=
  m_I (by decide) (Nat.le_of_ble_eq_true rfl) (fun F Q C h1 h2 h3 hK => w_X7_out_e C (Rm.of h1 h3) n t r v1 res hf hK)
theorem cw_X7_byteOf : CwS yX7_byteOf cX7_byteOf 3 2 (some .int) := ⟨k_350, k_349, k_1, by decide +kernel, by decide⟩
def f_X7_byteOf (v0 : Int64) (v2 : Int32) : Option (Int32) :=
  some ((((v0.toUInt64 >>> (((8 : Int32) * v2).toInt64.toUInt64 &&& Int64.toUInt64 63)).toInt64).toInt32) &&& (255 : Int32))
set_option maxHeartbeats 4000000 in
theorem w_X7_byteOf_e {F : FX} {G : GX} {Q : State → Prop} (C : Cx F G cX7_byteOf 3 RX7) (hR : Rm F 2) (s : MM) (r : SR)  (v0 : Int64) (v2 : Int32) (res : Int32) (hf : f_X7_byteOf v0 v2 = some res) (hK : RetI F G Q cX7_byteOf 3 .int res (s, r)) : At F G Q 3 0 [(0, .long v0), (2, .int v2)] [] (s, r) := by
  unfold f_X7_byteOf at hf
  refine a_lload_n C (i := 0) (q := 1) dX7_byteOf_0 rfl 0 rfl rfl ?_
  refine a_bipush C (v := (8 : Int32)) (q := 3) dX7_byteOf_1 rfl (by decide) ?_
  refine a_iload_n C (i := 2) (q := 4) dX7_byteOf_3 rfl 1 rfl rfl ?_
  refine a_imul C (q := 5) dX7_byteOf_4 rfl ?_
  refine a_lushr C (q := 6) dX7_byteOf_5 rfl ?_
  refine a_l2i C (q := 7) dX7_byteOf_6 rfl ?_
  refine a_sipush C (v := (255 : Int32)) (q := 10) dX7_byteOf_7 rfl (by decide) ?_
  refine a_iand C (q := 11) dX7_byteOf_10 rfl ?_
  have hf := Option.some.inj hf; subst hf
  exact (show RetI F G Q cX7_byteOf 3 .int ((((v0.toUInt64 >>> (((8 : Int32) * v2).toInt64.toUInt64 &&& Int64.toUInt64 63)).toInt64).toInt32) &&& (255 : Int32)) (s, r) from hK) rfl _ _ dX7_byteOf_11
theorem c_X7_byteOf (l : Launch) (G : GX) (s : MM) (r : SR) (v0 : Int64) (v2 : Int32) (res : Int32) (hf : f_X7_byteOf v0 v2 = some res) : MetC l G yX7_byteOf cX7_byteOf 3 (some .int) 2 (s, r) [.long v0, .int v2] (PostI G res (s, r)) :=
  m_I (by decide) (Nat.le_of_ble_eq_true rfl) (fun F Q C h1 h2 h3 hK => w_X7_byteOf_e C (Rm.of h1 h3) s r v0 v2 res hf hK)
theorem cw_X7_type : CwV RX7 yX7_type cX7_type 5 2 (some .int) := ⟨k_347, k_345, k_346, k_1, by decide +kernel, by decide⟩
def P_X7_type_16 (F : FX) (G : GX) (Q : State → Prop) (r : SR) (t : MM) (v1 : Int64) (v3 : Int32) (v4 : Int32) : Prop := At F G Q 5 16 [(0, .ref (G.2.1 0)), (1, .long v1), (3, .int v3), (4, .int v4)] [] (t, r)
def E_X7_type_16 (F : FX) (G : GX) (Q : State → Prop) (r : SR) (t : MM) (v1 : Int64) (v3 : Int32) : (Int32 × MM) ⊕ (Unit) → Prop := fun q => match q with
  | .inl y => RetI F G Q cX7_type 5 .int y.1 (y.2, r)
  | .inr _ => At F G Q 5 42 [(0, .ref (G.2.1 0)), (1, .long v1), (3, .int v3)] [] (t, r)
def lb_X7_type_16 (n : Nat) (t : MM) (v1 : Int64) (v3 : Int32) (v4 : Int32) : Option (((Int32 × MM) ⊕ (Unit)) ⊕ (Int32)) :=
  (if v3 ≤ v4 then some (.inl (.inr ())) else b1 (f_X7_byteOf v1 v4) (fun y_1 => b1 (f_X5_isTypable y_1) (fun y_2 => (if y_2 = 0 then some (.inl (.inl ((-1 : Int32), t))) else nm (v4 + 1) (fun v4_3 => some (.inr v4_3))))))
set_option maxHeartbeats 4000000 in
theorem w_X7_type_16 {F : FX} {G : GX} {Q : State → Prop} (C : Cx F G cX7_type 5 RX7) (hR : Rm F 3) (n : Nat) (r : SR) (t : MM) (v1 : Int64) (v3 : Int32)  (v4 : Int32) (res : ((Int32 × MM) ⊕ (Unit)) ⊕ (Int32)) (hf : lb_X7_type_16 n t v1 v3 v4 = some res) (hK : Sum.elim (E_X7_type_16 F G Q r t v1 v3) (fun q => match q with | v4 => P_X7_type_16 F G Q r t v1 v3 v4) res) : P_X7_type_16 F G Q r t v1 v3 v4 := by
  unfold lb_X7_type_16 at hf
  show At F G Q 5 16 [(0, .ref (G.2.1 0)), (1, .long v1), (3, .int v3), (4, .int v4)] [] (t, r)
  refine a_iload C (i := 4) (q := 18) dX7_type_16 rfl 3 rfl ?_
  refine a_iload_n C (i := 3) (q := 19) dX7_type_18 rfl 2 rfl rfl ?_
  refine a_icmp_ge C (tgt := 42) (q := 22) dX7_type_19 hf (by decide) rfl (fun hf => ?_) (fun hf => ?_)
  · have hf := Option.some.inj hf; subst hf
    exact a_sub [0, 1, 2] rfl (show At F G Q 5 42 [(0, .ref (G.2.1 0)), (1, .long v1), (3, .int v3)] [] (t, r) from hK)
  · refine a_lload_n C (i := 1) (q := 23) dX7_type_22 rfl 1 rfl rfl ?_
    refine a_iload C (i := 4) (q := 25) dX7_type_23 rfl 3 rfl ?_
    refine a_callSI C (q := 28) (As := [.long v1, .int v4]) (st := []) dX7_type_25 hR (by decide) hf (fun b => b) (fun _ => (t, r)) cw_X7_byteOf (fun b hb => c_X7_byteOf _ G t r v1 v4 b hb) rfl rfl (Nat.le_of_ble_eq_true rfl) k_348 rfl (fun y_1 hf => ?_)
    refine a_callSI C (q := 31) (As := [.int y_1]) (st := []) dX7_type_28 hR (by decide) hf (fun b => b) (fun _ => (t, r)) cw_X5_isTypable (fun b hb => c_X5_isTypable _ G t r y_1 b hb) rfl rfl (Nat.le_of_ble_eq_true rfl) k_351 rfl (fun y_2 hf => ?_)
    refine a_if_ne C (tgt := 36) (q := 34) dX7_type_31 hf (by decide) rfl (fun hf => ?_) (fun hf => ?_)
    · refine a_iincN C (i := 4) (k := 3) (q := 39) (lv' := fun z => [(4, .int z), (0, .ref (G.2.1 0)), (1, .long v1), (3, .int v3)]) dX7_type_36 hf rfl rfl (by decide) (fun _ => rfl) rfl (fun v4_3 hf => ?_)
      refine a_goto C (q := 16) dX7_type_39 (by decide) ?_
      have hf := Option.some.inj hf; subst hf
      exact a_sub [1, 2, 3, 0] rfl (show At F G Q 5 16 [(0, .ref (G.2.1 0)), (1, .long v1), (3, .int v3), (4, .int v4_3)] [] (t, r) from hK)
    · refine a_iconst C (v := (-1 : Int32)) (q := 35) dX7_type_34 rfl (by decide) ?_
      have hf := Option.some.inj hf; subst hf
      exact (show RetI F G Q cX7_type 5 .int (-1 : Int32) (t, r) from hK) rfl _ _ dX7_type_35
theorem lp_X7_type_16 {F : FX} {G : GX} {Q : State → Prop} (C : Cx F G cX7_type 5 RX7) (hR : Rm F 3) (n : Nat) (r : SR) (t : MM) (v1 : Int64) (v3 : Int32)  (v4 : Int32) (x : (Int32 × MM) ⊕ (Unit)) (h : it1 (lb_X7_type_16 n t v1 v3) n v4 = some x) (hE : E_X7_type_16 F G Q r t v1 v3 x) : At F G Q 5 16 [(0, .ref (G.2.1 0)), (1, .long v1), (3, .int v3), (4, .int v4)] [] (t, r) :=
  it1_ind (b := (lb_X7_type_16 n t v1 v3)) (E := E_X7_type_16 F G Q r t v1 v3) (P := fun v4 => P_X7_type_16 F G Q r t v1 v3 v4) (fun v4 res hf hK => w_X7_type_16 C hR n r t v1 v3   v4 res hf hK) n v4 x h hE
def P_X7_type_64 (F : FX) (G : GX) (Q : State → Prop) (r : SR) (v1 : Int64) (v4 : Int32) (t : MM) : Prop := At F G Q 5 64 [(0, .ref (G.2.1 0)), (1, .long v1), (4, .int v4)] [] (t, r)
def E_X7_type_64 (F : FX) (G : GX) (Q : State → Prop) (r : SR) (v1 : Int64) : MM → Prop := fun q => match q with
  | t => At F G Q 5 88 [(0, .ref (G.2.1 0))] [] (t, r)
def lb_X7_type_64 (n : Nat) (v1 : Int64) (v4 : Int32) (t : MM) : Option ((MM) ⊕ (Int32 × MM)) :=
  (if v4 < 0 then some (.inl t) else b1 (f_X7_byteOf v1 v4) (fun y_5 => b1 (f_X5_append t y_5) (fun y_6 => nm (v4 + (-1)) (fun v4_7 => some (.inr (v4_7, y_6))))))
set_option maxHeartbeats 4000000 in
theorem w_X7_type_64 {F : FX} {G : GX} {Q : State → Prop} (C : Cx F G cX7_type 5 RX7) (hR : Rm F 3) (n : Nat) (r : SR) (v1 : Int64)  (v4 : Int32) (t : MM) (res : (MM) ⊕ (Int32 × MM)) (hf : lb_X7_type_64 n v1 v4 t = some res) (hK : Sum.elim (E_X7_type_64 F G Q r v1) (fun q => match q with | (v4, t) => P_X7_type_64 F G Q r v1 v4 t) res) : P_X7_type_64 F G Q r v1 v4 t := by
  unfold lb_X7_type_64 at hf
  show At F G Q 5 64 [(0, .ref (G.2.1 0)), (1, .long v1), (4, .int v4)] [] (t, r)
  refine a_iload C (i := 4) (q := 66) dX7_type_64 rfl 2 rfl ?_
  refine a_if_lt C (tgt := 88) (q := 69) dX7_type_66 hf (by decide) rfl (fun hf => ?_) (fun hf => ?_)
  · have hf := Option.some.inj hf; subst hf
    exact a_sub [0] rfl (show At F G Q 5 88 [(0, .ref (G.2.1 0))] [] (t, r) from hK)
  · refine a_aload_n C (i := 0) (q := 70) dX7_type_69 rfl 0 rfl rfl ?_
    refine a_get7 C (q := 73) dX7_type_70 2 (by decide) k_215 (by decide) rfl rfl rfl ?_
    refine a_lload_n C (i := 1) (q := 74) dX7_type_73 rfl 1 rfl rfl ?_
    refine a_iload C (i := 4) (q := 76) dX7_type_74 rfl 2 rfl ?_
    refine a_callSI C (q := 79) (As := [.long v1, .int v4]) (st := [.ref (G.2.1 13)]) dX7_type_76 hR (by decide) hf (fun b => b) (fun _ => (t, r)) cw_X7_byteOf (fun b hb => c_X7_byteOf _ G t r v1 v4 b hb) rfl rfl (Nat.le_of_ble_eq_true rfl) k_348 rfl (fun y_5 hf => ?_)
    refine a_callVV C (q := 82) (As := [.int y_5]) (st := []) dX7_type_79 hR (by decide) hf (fun b => (b, r)) (by decide) rfl rfl cw_X5_append (fun b hb => c_X5_append _ G t r y_5 b hb) rfl rfl (Nat.le_of_ble_eq_true rfl) k_354 rfl (fun y_6 hf => ?_)
    refine a_iincN C (i := 4) (k := 2) (q := 85) (lv' := fun z => [(4, .int z), (0, .ref (G.2.1 0)), (1, .long v1)]) dX7_type_82 hf rfl rfl (by decide) (fun _ => rfl) rfl (fun v4_7 hf => ?_)
    refine a_goto C (q := 64) dX7_type_85 (by decide) ?_
    have hf := Option.some.inj hf; subst hf
    exact a_sub [1, 2, 0] rfl (show At F G Q 5 64 [(0, .ref (G.2.1 0)), (1, .long v1), (4, .int v4_7)] [] (y_6, r) from hK)
theorem lp_X7_type_64 {F : FX} {G : GX} {Q : State → Prop} (C : Cx F G cX7_type 5 RX7) (hR : Rm F 3) (n : Nat) (r : SR) (v1 : Int64)  (v4 : Int32) (t : MM) (x : MM) (h : it2 (lb_X7_type_64 n v1) n v4 t = some x) (hE : E_X7_type_64 F G Q r v1 x) : At F G Q 5 64 [(0, .ref (G.2.1 0)), (1, .long v1), (4, .int v4)] [] (t, r) :=
  it2_ind (b := (lb_X7_type_64 n v1)) (E := E_X7_type_64 F G Q r v1) (P := fun v4 t => P_X7_type_64 F G Q r v1 v4 t) (fun v4 t res hf hK => w_X7_type_64 C hR n r v1   v4 t res hf hK) n v4 t x h hE
def f_X7_type (n : Nat) (t : MM) (v1 : Int64) (v3 : Int32) : Option (Int32 × MM) :=
  (if v3 < (1 : Int32) then some ((-1 : Int32), t) else (if v3 ≤ (8 : Int32) then bR (it1 (lb_X7_type_16 n t v1 v3) n (0 : Int32)) (fun y => some y) (fun _ => (if ((t 13 2) + v3) ≤ (120 : Int32) then nm (v3 - (1 : Int32)) (fun v4_4 => b1 (it2 (lb_X7_type_64 n v1) n v4_4 t) (fun t_8 => some (t_8 13 2, t_8))) else some ((-3 : Int32), t))) else some ((-1 : Int32), t)))
set_option maxHeartbeats 4000000 in
theorem w_X7_type_e {F : FX} {G : GX} {Q : State → Prop} (C : Cx F G cX7_type 5 RX7) (hR : Rm F 3) (n : Nat) (t : MM) (r : SR)  (v1 : Int64) (v3 : Int32) (res : Int32 × MM) (hf : f_X7_type n t v1 v3 = some res) (hK : RetI F G Q cX7_type 5 .int res.1 (res.2, r)) : At F G Q 5 0 [(0, .ref (G.2.1 0)), (1, .long v1), (3, .int v3)] [] (t, r) := by
  unfold f_X7_type at hf
  refine a_iload_n C (i := 3) (q := 1) dX7_type_0 rfl 2 rfl rfl ?_
  refine a_iconst C (v := (1 : Int32)) (q := 2) dX7_type_1 rfl (by decide) ?_
  refine a_icmp_lt C (tgt := 11) (q := 5) dX7_type_2 hf (by decide) rfl (fun hf => ?_) (fun hf => ?_)
  · refine a_iconst C (v := (-1 : Int32)) (q := 12) dX7_type_11 rfl (by decide) ?_
    have hf := Option.some.inj hf; subst hf
    exact (show RetI F G Q cX7_type 5 .int (-1 : Int32) (t, r) from hK) rfl _ _ dX7_type_12
  · refine a_iload_n C (i := 3) (q := 6) dX7_type_5 rfl 2 rfl rfl ?_
    refine a_bipush C (v := (8 : Int32)) (q := 8) dX7_type_6 rfl (by decide) ?_
    refine a_icmp_le C (tgt := 13) (q := 11) dX7_type_8 hf (by decide) rfl (fun hf => ?_) (fun hf => ?_)
    · refine a_iconst C (v := (0 : Int32)) (q := 14) dX7_type_13 rfl (by decide) ?_
      refine a_istore C (i := 4) (q := 16) (lv' := [(4, .int (0 : Int32)), (0, .ref (G.2.1 0)), (1, .long v1), (3, .int v3)]) dX7_type_14 (by decide) rfl rfl ?_
      rcases bR_some hf with ⟨y, h1, hf⟩ | ⟨u0, h1, hf⟩
      · refine a_sub [1, 2, 3, 0] rfl (lp_X7_type_16 C hR n r t v1 v3  (0 : Int32) _ h1 ?_)
        have hf := Option.some.inj hf; subst hf
        exact hK
      · refine a_sub [1, 2, 3, 0] rfl (lp_X7_type_16 C hR n r t v1 v3  (0 : Int32) _ h1 ?_)
        show At F G Q 5 42 [(0, .ref (G.2.1 0)), (1, .long v1), (3, .int v3)] [] (t, r)
        refine a_aload_n C (i := 0) (q := 43) dX7_type_42 rfl 0 rfl rfl ?_
        refine a_get7 C (q := 46) dX7_type_43 2 (by decide) k_215 (by decide) rfl rfl rfl ?_
        refine a_get5 C (q := 49) dX7_type_46 2 (by decide) k_79 (by decide) rfl rfl rfl ?_
        refine a_iload_n C (i := 3) (q := 50) dX7_type_49 rfl 2 rfl rfl ?_
        refine a_iadd C (q := 51) dX7_type_50 rfl ?_
        refine a_bipush C (v := (120 : Int32)) (q := 53) dX7_type_51 rfl (by decide) ?_
        refine a_icmp_le C (tgt := 59) (q := 56) dX7_type_53 hf (by decide) rfl (fun hf => ?_) (fun hf => ?_)
        · refine a_iload_n C (i := 3) (q := 60) dX7_type_59 rfl 2 rfl rfl ?_
          refine a_iconst C (v := (1 : Int32)) (q := 61) dX7_type_60 rfl (by decide) ?_
          refine a_isub C (q := 62) dX7_type_61 rfl ?_
          refine a_istoreN C (i := 4) (q := 64) (lv' := fun z => [(4, .int z), (0, .ref (G.2.1 0)), (1, .long v1), (3, .int v3)]) dX7_type_62 hf (by decide) (fun _ => rfl) rfl (fun v4_4 hf => ?_)
          obtain ⟨t_8, h1, hf⟩ := b1_some hf
          refine a_sub [1, 2, 0] rfl (lp_X7_type_64 C hR n r v1  v4_4 t _ h1 ?_)
          show At F G Q 5 88 [(0, .ref (G.2.1 0))] [] (t_8, r)
          refine a_aload_n C (i := 0) (q := 89) dX7_type_88 rfl 0 rfl rfl ?_
          refine a_get7 C (q := 92) dX7_type_89 2 (by decide) k_215 (by decide) rfl rfl rfl ?_
          refine a_get5 C (q := 95) dX7_type_92 2 (by decide) k_79 (by decide) rfl rfl rfl ?_
          have hf := Option.some.inj hf; subst hf
          exact (show RetI F G Q cX7_type 5 .int (t_8 13 2) (t_8, r) from hK) rfl _ _ dX7_type_95
        · refine a_bipush C (v := (-3 : Int32)) (q := 58) dX7_type_56 rfl (by decide) ?_
          have hf := Option.some.inj hf; subst hf
          exact (show RetI F G Q cX7_type 5 .int (-3 : Int32) (t, r) from hK) rfl _ _ dX7_type_58
    · refine a_iconst C (v := (-1 : Int32)) (q := 12) dX7_type_11 rfl (by decide) ?_
      have hf := Option.some.inj hf; subst hf
      exact (show RetI F G Q cX7_type 5 .int (-1 : Int32) (t, r) from hK) rfl _ _ dX7_type_12
theorem c_X7_type (l : Launch) (G : GX) (n : Nat) (t : MM) (r : SR) (v1 : Int64) (v3 : Int32) (res : Int32 × MM) (hf : f_X7_type n t v1 v3 = some res) : MetC l G yX7_type cX7_type 5 (some .int) 3 (t, r) [.ref (G.2.1 0), .long v1, .int v3] (PostI G res.1 (res.2, r)) :=
  m_I (by decide) (Nat.le_of_ble_eq_true rfl) (fun F Q C h1 h2 h3 hK => w_X7_type_e C (Rm.of h1 h3) n t r v1 v3 res hf hK)
theorem cw_X7_people : CwV RX7 yX7_people cX7_people 3 0 (some .int) := ⟨k_361, k_359, k_360, k_1, by decide +kernel, by decide⟩
def P_X7_people_63 (F : FX) (G : GX) (Q : State → Prop) (r : SR) (v1 : Int32) (v2 : Int32) (t : MM) : Prop := At F G Q 3 63 [(0, .ref (G.2.1 0)), (1, .int v1), (2, .int v2)] [] (t, r)
def E_X7_people_63 (F : FX) (G : GX) (Q : State → Prop) (r : SR) (v1 : Int32) : MM → Prop := fun q => match q with
  | t => At F G Q 3 100 [(1, .int v1)] [] (t, r)
def lb_X7_people_63 (n : Nat) (v1 : Int32) (v2 : Int32) (t : MM) : Option ((MM) ⊕ (Int32 × MM)) :=
  (if v1 ≤ v2 then some (.inl t) else ix v2 64 (ix v2 64 (b1 (f_X6_addOne t (t 15 v2.toNatClampNeg) (t 16 v2.toNatClampNeg)) (fun y_6 => nm (v2 + 1) (fun v2_7 => some (.inr (v2_7, y_6.2)))))))
set_option maxHeartbeats 4000000 in
theorem w_X7_people_63 {F : FX} {G : GX} {Q : State → Prop} (C : Cx F G cX7_people 3 RX7) (hR : Rm F 12) (n : Nat) (r : SR) (v1 : Int32)  (v2 : Int32) (t : MM) (res : (MM) ⊕ (Int32 × MM)) (hf : lb_X7_people_63 n v1 v2 t = some res) (hK : Sum.elim (E_X7_people_63 F G Q r v1) (fun q => match q with | (v2, t) => P_X7_people_63 F G Q r v1 v2 t) res) : P_X7_people_63 F G Q r v1 v2 t := by
  unfold lb_X7_people_63 at hf
  show At F G Q 3 63 [(0, .ref (G.2.1 0)), (1, .int v1), (2, .int v2)] [] (t, r)
  refine a_iload_n C (i := 2) (q := 64) dX7_people_63 rfl 2 rfl rfl ?_
  refine a_iload_n C (i := 1) (q := 65) dX7_people_64 rfl 1 rfl rfl ?_
  refine a_icmp_ge C (tgt := 100) (q := 68) dX7_people_65 hf (by decide) rfl (fun hf => ?_) (fun hf => ?_)
  · have hf := Option.some.inj hf; subst hf
    exact a_sub [1] rfl (show At F G Q 3 100 [(1, .int v1)] [] (t, r) from hK)
  · refine a_aload_n C (i := 0) (q := 69) dX7_people_68 rfl 0 rfl rfl ?_
    refine a_get7 C (q := 72) dX7_people_69 0 (by decide) k_213 (by decide) rfl rfl rfl ?_
    refine a_aload_n C (i := 0) (q := 73) dX7_people_72 rfl 0 rfl rfl ?_
    refine a_get7 C (q := 76) dX7_people_73 2 (by decide) k_215 (by decide) rfl rfl rfl ?_
    refine a_get5 C (q := 79) dX7_people_76 3 (by decide) k_81 (by decide) rfl rfl rfl ?_
    refine a_iload_n C (i := 2) (q := 80) dX7_people_79 rfl 2 rfl rfl ?_
    refine a_iald C (q := 81) (g := t 15) dX7_people_80 hf (by decide) rfl rfl (fun hf => ?_)
    refine a_aload_n C (i := 0) (q := 82) dX7_people_81 rfl 0 rfl rfl ?_
    refine a_get7 C (q := 85) dX7_people_82 2 (by decide) k_215 (by decide) rfl rfl rfl ?_
    refine a_get5 C (q := 88) dX7_people_85 4 (by decide) k_83 (by decide) rfl rfl rfl ?_
    refine a_iload_n C (i := 2) (q := 89) dX7_people_88 rfl 2 rfl rfl ?_
    refine a_iald C (q := 90) (g := t 16) dX7_people_89 hf (by decide) rfl rfl (fun hf => ?_)
    refine a_callVI C (q := 93) (As := [.int (t 15 v2.toNatClampNeg), .int (t 16 v2.toNatClampNeg)]) (st := []) dX7_people_90 hR (by decide) hf (fun b => b.1) (fun b => (b.2, r)) (by decide) rfl rfl cw_X6_addOne (fun b hb => c_X6_addOne _ G t r (t 15 v2.toNatClampNeg) (t 16 v2.toNatClampNeg) b hb) rfl rfl (Nat.le_of_ble_eq_true rfl) k_248 rfl (fun y_6 hf => ?_)
    refine a_pop C (q := 94) dX7_people_93 rfl rfl ?_
    refine a_iincN C (i := 2) (k := 2) (q := 97) (lv' := fun z => [(2, .int z), (0, .ref (G.2.1 0)), (1, .int v1)]) dX7_people_94 hf rfl rfl (by decide) (fun _ => rfl) rfl (fun v2_7 hf => ?_)
    refine a_goto C (q := 63) dX7_people_97 (by decide) ?_
    have hf := Option.some.inj hf; subst hf
    exact a_sub [1, 2, 0] rfl (show At F G Q 3 63 [(0, .ref (G.2.1 0)), (1, .int v1), (2, .int v2_7)] [] (y_6.2, r) from hK)
theorem lp_X7_people_63 {F : FX} {G : GX} {Q : State → Prop} (C : Cx F G cX7_people 3 RX7) (hR : Rm F 12) (n : Nat) (r : SR) (v1 : Int32)  (v2 : Int32) (t : MM) (x : MM) (h : it2 (lb_X7_people_63 n v1) n v2 t = some x) (hE : E_X7_people_63 F G Q r v1 x) : At F G Q 3 63 [(0, .ref (G.2.1 0)), (1, .int v1), (2, .int v2)] [] (t, r) :=
  it2_ind (b := (lb_X7_people_63 n v1)) (E := E_X7_people_63 F G Q r v1) (P := fun v2 t => P_X7_people_63 F G Q r v1 v2 t) (fun v2 t res hf hK => w_X7_people_63 C hR n r v1   v2 t res hf hK) n v2 t x h hE
def f_X7_people (n : Nat) (t : MM) : Option (Int32 × MM) :=
  b1 (f_X5_readPeople n t) (fun y_1 => nm (st1 y_1.2 13 2 (0 : Int32)) (fun t_2 => (if 0 ≤ y_1.1 then b1 (f_X6_weighSand n t_2 28) (fun y_3 => b1 (f_X2_isEvenWithin y_3 28 (y_3 1 7)) (fun y_4 => (if y_4 = 0 then some ((-2 : Int32), y_3) else nm (st1 y_3 1 5 (0 : Int32)) (fun t_5 => b1 (it2 (lb_X7_people_63 n y_1.1) n (0 : Int32) t_5) (fun t_8 => some (y_1.1, t_8)))))) else some (y_1.1, t_2))))
set_option maxHeartbeats 4000000 in
theorem w_X7_people_e {F : FX} {G : GX} {Q : State → Prop} (C : Cx F G cX7_people 3 RX7) (hR : Rm F 12) (n : Nat) (t : MM) (r : SR)   (res : Int32 × MM) (hf : f_X7_people n t = some res) (hK : RetI F G Q cX7_people 3 .int res.1 (res.2, r)) : At F G Q 3 0 [(0, .ref (G.2.1 0))] [] (t, r) := by
  unfold f_X7_people at hf
  refine a_aload_n C (i := 0) (q := 1) dX7_people_0 rfl 0 rfl rfl ?_
  refine a_get7 C (q := 4) dX7_people_1 2 (by decide) k_215 (by decide) rfl rfl rfl ?_
  refine a_callVI C (q := 7) (As := []) (st := []) dX7_people_4 hR (by decide) hf (fun b => b.1) (fun b => (b.2, r)) (by decide) rfl rfl cw_X5_readPeople (fun b hb => c_X5_readPeople _ G n t r b hb) rfl rfl (Nat.le_of_ble_eq_true rfl) k_362 rfl (fun y_1 hf => ?_)
  refine a_istore_n C (i := 1) (q := 8) (lv' := [(1, .int y_1.1), (0, .ref (G.2.1 0))]) dX7_people_7 rfl (by decide) rfl rfl ?_
  refine a_aload_n C (i := 0) (q := 9) dX7_people_8 rfl 1 rfl rfl ?_
  refine a_get7 C (q := 12) dX7_people_9 2 (by decide) k_215 (by decide) rfl rfl rfl ?_
  refine a_iconst C (v := (0 : Int32)) (q := 13) dX7_people_12 rfl (by decide) ?_
  refine a_put5N C (q := 16) (mk := (fun z => (z, r))) dX7_people_13 hf 2 (by decide) k_79 (by decide) rfl rfl cellE_C1 rfl rfl rfl (Nat.le_of_ble_eq_true rfl) rfl (fun t_2 hf => ?_)
  refine a_iload_n C (i := 1) (q := 17) dX7_people_16 rfl 0 rfl rfl ?_
  refine a_if_ge C (tgt := 22) (q := 20) dX7_people_17 hf (by decide) rfl (fun hf => ?_) (fun hf => ?_)
  · refine a_aload_n C (i := 0) (q := 23) dX7_people_22 rfl 1 rfl rfl ?_
    refine a_get7 C (q := 26) dX7_people_23 0 (by decide) k_213 (by decide) rfl rfl rfl ?_
    refine a_aload_n C (i := 0) (q := 27) dX7_people_26 rfl 1 rfl rfl ?_
    refine a_get7 C (q := 30) dX7_people_27 6 (by decide) k_219 (by decide) rfl rfl rfl ?_
    refine a_callVV C (q := 33) (As := [.ref (G.2.1 28)]) (st := []) dX7_people_30 hR (by decide) hf (fun b => (b, r)) (by decide) rfl rfl cw_X6_weighSand (fun b hb => c_X6_weighSand _ G n t_2 r 28 (by unfold isBal; decide) b hb) rfl rfl (Nat.le_of_ble_eq_true rfl) k_484 rfl (fun y_3 hf => ?_)
    refine a_aload_n C (i := 0) (q := 34) dX7_people_33 rfl 1 rfl rfl ?_
    refine a_get7 C (q := 37) dX7_people_34 6 (by decide) k_219 (by decide) rfl rfl rfl ?_
    refine a_aload_n C (i := 0) (q := 38) dX7_people_37 rfl 1 rfl rfl ?_
    refine a_get7 C (q := 41) dX7_people_38 0 (by decide) k_213 (by decide) rfl rfl rfl ?_
    refine a_get6 C (q := 44) dX7_people_41 7 (by decide) k_49 (by decide) rfl rfl rfl ?_
    refine a_callVI C (q := 47) (As := [.int (y_3 1 7)]) (st := []) dX7_people_44 hR (by decide) hf (fun b => b) (fun _ => (y_3, r)) (by decide) rfl rfl cw_X2_isEvenWithin (fun b hb => c_X2_isEvenWithin _ G y_3 r 28 (y_3 1 7) (by unfold isBal; decide) b hb) rfl rfl (Nat.le_of_ble_eq_true rfl) k_319 rfl (fun y_4 hf => ?_)
    refine a_if_ne C (tgt := 53) (q := 50) dX7_people_47 hf (by decide) rfl (fun hf => ?_) (fun hf => ?_)
    · refine a_aload_n C (i := 0) (q := 54) dX7_people_53 rfl 1 rfl rfl ?_
      refine a_get7 C (q := 57) dX7_people_54 0 (by decide) k_213 (by decide) rfl rfl rfl ?_
      refine a_iconst C (v := (0 : Int32)) (q := 58) dX7_people_57 rfl (by decide) ?_
      refine a_put6N C (q := 61) (mk := (fun z => (z, r))) dX7_people_58 hf 5 (by decide) k_45 (by decide) rfl rfl cellE_C1 rfl rfl rfl (Nat.le_of_ble_eq_true rfl) rfl (fun t_5 hf => ?_)
      refine a_iconst C (v := (0 : Int32)) (q := 62) dX7_people_61 rfl (by decide) ?_
      refine a_istore_n C (i := 2) (q := 63) (lv' := [(2, .int (0 : Int32)), (1, .int y_1.1), (0, .ref (G.2.1 0))]) dX7_people_62 rfl (by decide) rfl rfl ?_
      obtain ⟨t_8, h1, hf⟩ := b1_some hf
      refine a_sub [2, 1, 0] rfl (lp_X7_people_63 C hR n r y_1.1  (0 : Int32) t_5 _ h1 ?_)
      show At F G Q 3 100 [(1, .int y_1.1)] [] (t_8, r)
      refine a_iload_n C (i := 1) (q := 101) dX7_people_100 rfl 0 rfl rfl ?_
      have hf := Option.some.inj hf; subst hf
      exact (show RetI F G Q cX7_people 3 .int y_1.1 (t_8, r) from hK) rfl _ _ dX7_people_101
    · refine a_bipush C (v := (-2 : Int32)) (q := 52) dX7_people_50 rfl (by decide) ?_
      have hf := Option.some.inj hf; subst hf
      exact (show RetI F G Q cX7_people 3 .int (-2 : Int32) (y_3, r) from hK) rfl _ _ dX7_people_52
  · refine a_iload_n C (i := 1) (q := 21) dX7_people_20 rfl 0 rfl rfl ?_
    have hf := Option.some.inj hf; subst hf
    exact (show RetI F G Q cX7_people 3 .int y_1.1 (t_2, r) from hK) rfl _ _ dX7_people_21
theorem c_X7_people (l : Launch) (G : GX) (n : Nat) (t : MM) (r : SR)  (res : Int32 × MM) (hf : f_X7_people n t = some res) : MetC l G yX7_people cX7_people 3 (some .int) 12 (t, r) [.ref (G.2.1 0)] (PostI G res.1 (res.2, r)) :=
  m_I (by decide) (Nat.le_of_ble_eq_true rfl) (fun F Q C h1 h2 h3 hK => w_X7_people_e C (Rm.of h1 h3) n t r res hf hK)
theorem cw_X7_board : CwV RX7 yX7_board cX7_board 2 1 (some .int) := ⟨k_501, k_499, k_500, k_1, by decide +kernel, by decide⟩
def f_X7_board (n : Nat) (t : MM) (v1 : Int32) : Option (Int32 × MM) :=
  b1 (f_X6_waits t v1) (fun y_1 => (if y_1 = 0 then some ((-1 : Int32), t) else b1 (f_X6_mayGetIn n t v1 28) (fun y_2 => (if y_2.1 = 0 then some ((-2 : Int32), y_2.2) else b1 (f_X6_getIn y_2.2 v1) (fun y_3 => b1 (f_X6_foot y_3) (fun y_4 => b1 (f_X6_whoIsAt n y_3 y_4) (fun y_5 => b1 (f_X6_seatsOf n y_3 y_5) (fun y_6 => some (y_6, y_3)))))))))
set_option maxHeartbeats 4000000 in
theorem w_X7_board_e {F : FX} {G : GX} {Q : State → Prop} (C : Cx F G cX7_board 2 RX7) (hR : Rm F 6) (n : Nat) (t : MM) (r : SR)  (v1 : Int32) (res : Int32 × MM) (hf : f_X7_board n t v1 = some res) (hK : RetI F G Q cX7_board 2 .int res.1 (res.2, r)) : At F G Q 2 0 [(0, .ref (G.2.1 0)), (1, .int v1)] [] (t, r) := by
  unfold f_X7_board at hf
  refine a_aload_n C (i := 0) (q := 1) dX7_board_0 rfl 0 rfl rfl ?_
  refine a_get7 C (q := 4) dX7_board_1 0 (by decide) k_213 (by decide) rfl rfl rfl ?_
  refine a_iload_n C (i := 1) (q := 5) dX7_board_4 rfl 1 rfl rfl ?_
  refine a_callVI C (q := 8) (As := [.int v1]) (st := []) dX7_board_5 hR (by decide) hf (fun b => b) (fun _ => (t, r)) (by decide) rfl rfl cw_X6_waits (fun b hb => c_X6_waits _ G t r v1 b hb) rfl rfl (Nat.le_of_ble_eq_true rfl) k_502 rfl (fun y_1 hf => ?_)
  refine a_if_ne C (tgt := 13) (q := 11) dX7_board_8 hf (by decide) rfl (fun hf => ?_) (fun hf => ?_)
  · refine a_aload_n C (i := 0) (q := 14) dX7_board_13 rfl 0 rfl rfl ?_
    refine a_get7 C (q := 17) dX7_board_14 0 (by decide) k_213 (by decide) rfl rfl rfl ?_
    refine a_iload_n C (i := 1) (q := 18) dX7_board_17 rfl 1 rfl rfl ?_
    refine a_aload_n C (i := 0) (q := 19) dX7_board_18 rfl 0 rfl rfl ?_
    refine a_get7 C (q := 22) dX7_board_19 6 (by decide) k_219 (by decide) rfl rfl rfl ?_
    refine a_callVI C (q := 25) (As := [.int v1, .ref (G.2.1 28)]) (st := []) dX7_board_22 hR (by decide) hf (fun b => b.1) (fun b => (b.2, r)) (by decide) rfl rfl cw_X6_mayGetIn (fun b hb => c_X6_mayGetIn _ G n t r v1 28 (by unfold isBal; decide) b hb) rfl rfl (Nat.le_of_ble_eq_true rfl) k_507 rfl (fun y_2 hf => ?_)
    refine a_if_ne C (tgt := 31) (q := 28) dX7_board_25 hf (by decide) rfl (fun hf => ?_) (fun hf => ?_)
    · refine a_aload_n C (i := 0) (q := 32) dX7_board_31 rfl 0 rfl rfl ?_
      refine a_get7 C (q := 35) dX7_board_32 0 (by decide) k_213 (by decide) rfl rfl rfl ?_
      refine a_iload_n C (i := 1) (q := 36) dX7_board_35 rfl 1 rfl rfl ?_
      refine a_callVV C (q := 39) (As := [.int v1]) (st := []) dX7_board_36 hR (by decide) hf (fun b => (b, r)) (by decide) rfl rfl cw_X6_getIn (fun b hb => c_X6_getIn _ G y_2.2 r v1 b hb) rfl rfl (Nat.le_of_ble_eq_true rfl) k_521 rfl (fun y_3 hf => ?_)
      refine a_aload_n C (i := 0) (q := 40) dX7_board_39 rfl 0 rfl rfl ?_
      refine a_get7 C (q := 43) dX7_board_40 0 (by decide) k_213 (by decide) rfl rfl rfl ?_
      refine a_aload_n C (i := 0) (q := 44) dX7_board_43 rfl 0 rfl rfl ?_
      refine a_get7 C (q := 47) dX7_board_44 0 (by decide) k_213 (by decide) rfl rfl rfl ?_
      refine a_aload_n C (i := 0) (q := 48) dX7_board_47 rfl 0 rfl rfl ?_
      refine a_get7 C (q := 51) dX7_board_48 0 (by decide) k_213 (by decide) rfl rfl rfl ?_
      refine a_callVI C (q := 54) (As := []) (st := [.ref (G.2.1 1), .ref (G.2.1 1)]) dX7_board_51 hR (by decide) hf (fun b => b) (fun _ => (y_3, r)) (by decide) rfl rfl cw_X6_foot (fun b hb => c_X6_foot _ G y_3 r b hb) rfl rfl (Nat.le_of_ble_eq_true rfl) k_525 rfl (fun y_4 hf => ?_)
      refine a_callVI C (q := 57) (As := [.int y_4]) (st := [.ref (G.2.1 1)]) dX7_board_54 hR (by decide) hf (fun b => b) (fun _ => (y_3, r)) (by decide) rfl rfl cw_X6_whoIsAt (fun b hb => c_X6_whoIsAt _ G n y_3 r y_4 b hb) rfl rfl (Nat.le_of_ble_eq_true rfl) k_264 rfl (fun y_5 hf => ?_)
      refine a_callVI C (q := 60) (As := [.int y_5]) (st := []) dX7_board_57 hR (by decide) hf (fun b => b) (fun _ => (y_3, r)) (by decide) rfl rfl cw_X6_seatsOf (fun b hb => c_X6_seatsOf _ G n y_3 r y_5 b hb) rfl rfl (Nat.le_of_ble_eq_true rfl) k_277 rfl (fun y_6 hf => ?_)
      have hf := Option.some.inj hf; subst hf
      exact (show RetI F G Q cX7_board 2 .int y_6 (y_3, r) from hK) rfl _ _ dX7_board_60
    · refine a_bipush C (v := (-2 : Int32)) (q := 30) dX7_board_28 rfl (by decide) ?_
      have hf := Option.some.inj hf; subst hf
      exact (show RetI F G Q cX7_board 2 .int (-2 : Int32) (y_2.2, r) from hK) rfl _ _ dX7_board_30
  · refine a_iconst C (v := (-1 : Int32)) (q := 12) dX7_board_11 rfl (by decide) ?_
    have hf := Option.some.inj hf; subst hf
    exact (show RetI F G Q cX7_board 2 .int (-1 : Int32) (t, r) from hK) rfl _ _ dX7_board_12
theorem c_X7_board (l : Launch) (G : GX) (n : Nat) (t : MM) (r : SR) (v1 : Int32) (res : Int32 × MM) (hf : f_X7_board n t v1 = some res) : MetC l G yX7_board cX7_board 2 (some .int) 6 (t, r) [.ref (G.2.1 0), .int v1] (PostI G res.1 (res.2, r)) :=
  m_I (by decide) (Nat.le_of_ble_eq_true rfl) (fun F Q C h1 h2 h3 hK => w_X7_board_e C (Rm.of h1 h3) n t r v1 res hf hK)
theorem cw_X7_leave : CwV RX7 yX7_leave cX7_leave 2 1 (some .int) := ⟨k_529, k_527, k_528, k_1, by decide +kernel, by decide⟩
def f_X7_leave (n : Nat) (t : MM) (v1 : Int32) : Option (Int32 × MM) :=
  b1 (f_X6_ridesAtFoot t v1) (fun y_1 => (if y_1 = 0 then some ((-1 : Int32), t) else b1 (f_X6_mayGetOut n t v1 28) (fun y_2 => (if y_2.1 = 0 then some ((-2 : Int32), y_2.2) else b1 (f_X6_getOut y_2.2 v1) (fun y_3 => ix v1 10 (some ((y_3 1 6) - (y_3 5 v1.toNatClampNeg), y_3)))))))
set_option maxHeartbeats 4000000 in
theorem w_X7_leave_e {F : FX} {G : GX} {Q : State → Prop} (C : Cx F G cX7_leave 2 RX7) (hR : Rm F 6) (n : Nat) (t : MM) (r : SR)  (v1 : Int32) (res : Int32 × MM) (hf : f_X7_leave n t v1 = some res) (hK : RetI F G Q cX7_leave 2 .int res.1 (res.2, r)) : At F G Q 2 0 [(0, .ref (G.2.1 0)), (1, .int v1)] [] (t, r) := by
  unfold f_X7_leave at hf
  refine a_aload_n C (i := 0) (q := 1) dX7_leave_0 rfl 0 rfl rfl ?_
  refine a_get7 C (q := 4) dX7_leave_1 0 (by decide) k_213 (by decide) rfl rfl rfl ?_
  refine a_iload_n C (i := 1) (q := 5) dX7_leave_4 rfl 1 rfl rfl ?_
  refine a_callVI C (q := 8) (As := [.int v1]) (st := []) dX7_leave_5 hR (by decide) hf (fun b => b) (fun _ => (t, r)) (by decide) rfl rfl cw_X6_ridesAtFoot (fun b hb => c_X6_ridesAtFoot _ G t r v1 b hb) rfl rfl (Nat.le_of_ble_eq_true rfl) k_530 rfl (fun y_1 hf => ?_)
  refine a_if_ne C (tgt := 13) (q := 11) dX7_leave_8 hf (by decide) rfl (fun hf => ?_) (fun hf => ?_)
  · refine a_aload_n C (i := 0) (q := 14) dX7_leave_13 rfl 0 rfl rfl ?_
    refine a_get7 C (q := 17) dX7_leave_14 0 (by decide) k_213 (by decide) rfl rfl rfl ?_
    refine a_iload_n C (i := 1) (q := 18) dX7_leave_17 rfl 1 rfl rfl ?_
    refine a_aload_n C (i := 0) (q := 19) dX7_leave_18 rfl 0 rfl rfl ?_
    refine a_get7 C (q := 22) dX7_leave_19 6 (by decide) k_219 (by decide) rfl rfl rfl ?_
    refine a_callVI C (q := 25) (As := [.int v1, .ref (G.2.1 28)]) (st := []) dX7_leave_22 hR (by decide) hf (fun b => b.1) (fun b => (b.2, r)) (by decide) rfl rfl cw_X6_mayGetOut (fun b hb => c_X6_mayGetOut _ G n t r v1 28 (by unfold isBal; decide) b hb) rfl rfl (Nat.le_of_ble_eq_true rfl) k_534 rfl (fun y_2 hf => ?_)
    refine a_if_ne C (tgt := 31) (q := 28) dX7_leave_25 hf (by decide) rfl (fun hf => ?_) (fun hf => ?_)
    · refine a_aload_n C (i := 0) (q := 32) dX7_leave_31 rfl 0 rfl rfl ?_
      refine a_get7 C (q := 35) dX7_leave_32 0 (by decide) k_213 (by decide) rfl rfl rfl ?_
      refine a_iload_n C (i := 1) (q := 36) dX7_leave_35 rfl 1 rfl rfl ?_
      refine a_callVV C (q := 39) (As := [.int v1]) (st := []) dX7_leave_36 hR (by decide) hf (fun b => (b, r)) (by decide) rfl rfl cw_X6_getOut (fun b hb => c_X6_getOut _ G y_2.2 r v1 b hb) rfl rfl (Nat.le_of_ble_eq_true rfl) k_538 rfl (fun y_3 hf => ?_)
      refine a_aload_n C (i := 0) (q := 40) dX7_leave_39 rfl 0 rfl rfl ?_
      refine a_get7 C (q := 43) dX7_leave_40 0 (by decide) k_213 (by decide) rfl rfl rfl ?_
      refine a_get6 C (q := 46) dX7_leave_43 6 (by decide) k_47 (by decide) rfl rfl rfl ?_
      refine a_aload_n C (i := 0) (q := 47) dX7_leave_46 rfl 0 rfl rfl ?_
      refine a_get7 C (q := 50) dX7_leave_47 0 (by decide) k_213 (by decide) rfl rfl rfl ?_
      refine a_get6 C (q := 53) dX7_leave_50 3 (by decide) k_41 (by decide) rfl rfl rfl ?_
      refine a_iload_n C (i := 1) (q := 54) dX7_leave_53 rfl 1 rfl rfl ?_
      refine a_iald C (q := 55) (g := y_3 5) dX7_leave_54 hf (by decide) rfl rfl (fun hf => ?_)
      refine a_isub C (q := 56) dX7_leave_55 rfl ?_
      have hf := Option.some.inj hf; subst hf
      exact (show RetI F G Q cX7_leave 2 .int ((y_3 1 6) - (y_3 5 v1.toNatClampNeg)) (y_3, r) from hK) rfl _ _ dX7_leave_56
    · refine a_bipush C (v := (-2 : Int32)) (q := 30) dX7_leave_28 rfl (by decide) ?_
      have hf := Option.some.inj hf; subst hf
      exact (show RetI F G Q cX7_leave 2 .int (-2 : Int32) (y_2.2, r) from hK) rfl _ _ dX7_leave_30
  · refine a_iconst C (v := (-1 : Int32)) (q := 12) dX7_leave_11 rfl (by decide) ?_
    have hf := Option.some.inj hf; subst hf
    exact (show RetI F G Q cX7_leave 2 .int (-1 : Int32) (t, r) from hK) rfl _ _ dX7_leave_12
theorem c_X7_leave (l : Launch) (G : GX) (n : Nat) (t : MM) (r : SR) (v1 : Int32) (res : Int32 × MM) (hf : f_X7_leave n t v1 = some res) : MetC l G yX7_leave cX7_leave 2 (some .int) 6 (t, r) [.ref (G.2.1 0), .int v1] (PostI G res.1 (res.2, r)) :=
  m_I (by decide) (Nat.le_of_ble_eq_true rfl) (fun F Q C h1 h2 h3 hK => w_X7_leave_e C (Rm.of h1 h3) n t r v1 res hf hK)
theorem cw_X7_sand : CwV RX7 yX7_sand cX7_sand 4 1 (some .int) := ⟨k_545, k_543, k_544, k_1, by decide +kernel, by decide⟩
def f_X7_sand (n : Nat) (t : MM) (v1 : Int32) : Option (Int32 × MM) :=
  (if v1 < 0 then some ((-1 : Int32), t) else (if v1 ≤ (99 : Int32) then b1 (f_X6_mayHaveSand n t v1 28) (fun y_1 => (if y_1.1 = 0 then some ((-2 : Int32), y_1.2) else b1 (f_X6_foot y_1.2) (fun y_2 => ix y_2 12 (nm (y_1.2 6 y_2.toNatClampNeg) (fun v3_3 => ix y_2 12 (nm (st1 y_1.2 6 y_2.toNatClampNeg v1) (fun t_4 => some (v3_3, t_4)))))))) else some ((-1 : Int32), t)))
set_option maxHeartbeats 4000000 in
theorem w_X7_sand_e {F : FX} {G : GX} {Q : State → Prop} (C : Cx F G cX7_sand 4 RX7) (hR : Rm F 6) (n : Nat) (t : MM) (r : SR)  (v1 : Int32) (res : Int32 × MM) (hf : f_X7_sand n t v1 = some res) (hK : RetI F G Q cX7_sand 4 .int res.1 (res.2, r)) : At F G Q 4 0 [(0, .ref (G.2.1 0)), (1, .int v1)] [] (t, r) := by
  unfold f_X7_sand at hf
  refine a_iload_n C (i := 1) (q := 1) dX7_sand_0 rfl 1 rfl rfl ?_
  refine a_if_lt C (tgt := 10) (q := 4) dX7_sand_1 hf (by decide) rfl (fun hf => ?_) (fun hf => ?_)
  · refine a_iconst C (v := (-1 : Int32)) (q := 11) dX7_sand_10 rfl (by decide) ?_
    have hf := Option.some.inj hf; subst hf
    exact (show RetI F G Q cX7_sand 4 .int (-1 : Int32) (t, r) from hK) rfl _ _ dX7_sand_11
  · refine a_iload_n C (i := 1) (q := 5) dX7_sand_4 rfl 1 rfl rfl ?_
    refine a_bipush C (v := (99 : Int32)) (q := 7) dX7_sand_5 rfl (by decide) ?_
    refine a_icmp_le C (tgt := 12) (q := 10) dX7_sand_7 hf (by decide) rfl (fun hf => ?_) (fun hf => ?_)
    · refine a_aload_n C (i := 0) (q := 13) dX7_sand_12 rfl 0 rfl rfl ?_
      refine a_get7 C (q := 16) dX7_sand_13 0 (by decide) k_213 (by decide) rfl rfl rfl ?_
      refine a_iload_n C (i := 1) (q := 17) dX7_sand_16 rfl 1 rfl rfl ?_
      refine a_aload_n C (i := 0) (q := 18) dX7_sand_17 rfl 0 rfl rfl ?_
      refine a_get7 C (q := 21) dX7_sand_18 6 (by decide) k_219 (by decide) rfl rfl rfl ?_
      refine a_callVI C (q := 24) (As := [.int v1, .ref (G.2.1 28)]) (st := []) dX7_sand_21 hR (by decide) hf (fun b => b.1) (fun b => (b.2, r)) (by decide) rfl rfl cw_X6_mayHaveSand (fun b hb => c_X6_mayHaveSand _ G n t r v1 28 (by unfold isBal; decide) b hb) rfl rfl (Nat.le_of_ble_eq_true rfl) k_546 rfl (fun y_1 hf => ?_)
      refine a_if_ne C (tgt := 30) (q := 27) dX7_sand_24 hf (by decide) rfl (fun hf => ?_) (fun hf => ?_)
      · refine a_aload_n C (i := 0) (q := 31) dX7_sand_30 rfl 0 rfl rfl ?_
        refine a_get7 C (q := 34) dX7_sand_31 0 (by decide) k_213 (by decide) rfl rfl rfl ?_
        refine a_callVI C (q := 37) (As := []) (st := []) dX7_sand_34 hR (by decide) hf (fun b => b) (fun _ => (y_1.2, r)) (by decide) rfl rfl cw_X6_foot (fun b hb => c_X6_foot _ G y_1.2 r b hb) rfl rfl (Nat.le_of_ble_eq_true rfl) k_525 rfl (fun y_2 hf => ?_)
        refine a_istore_n C (i := 2) (q := 38) (lv' := [(2, .int y_2), (0, .ref (G.2.1 0)), (1, .int v1)]) dX7_sand_37 rfl (by decide) rfl rfl ?_
        refine a_aload_n C (i := 0) (q := 39) dX7_sand_38 rfl 1 rfl rfl ?_
        refine a_get7 C (q := 42) dX7_sand_39 0 (by decide) k_213 (by decide) rfl rfl rfl ?_
        refine a_get6 C (q := 45) dX7_sand_42 4 (by decide) k_43 (by decide) rfl rfl rfl ?_
        refine a_iload_n C (i := 2) (q := 46) dX7_sand_45 rfl 0 rfl rfl ?_
        refine a_iald C (q := 47) (g := y_1.2 6) dX7_sand_46 hf (by decide) rfl rfl (fun hf => ?_)
        refine a_istore_nN C (i := 3) (q := 48) (lv' := fun z => [(3, .int z), (2, .int y_2), (0, .ref (G.2.1 0)), (1, .int v1)]) dX7_sand_47 hf rfl (by decide) (fun _ => rfl) rfl (fun v3_3 hf => ?_)
        refine a_aload_n C (i := 0) (q := 49) dX7_sand_48 rfl 2 rfl rfl ?_
        refine a_get7 C (q := 52) dX7_sand_49 0 (by decide) k_213 (by decide) rfl rfl rfl ?_
        refine a_get6 C (q := 55) dX7_sand_52 4 (by decide) k_43 (by decide) rfl rfl rfl ?_
        refine a_iload_n C (i := 2) (q := 56) dX7_sand_55 rfl 1 rfl rfl ?_
        refine a_iload_n C (i := 1) (q := 57) dX7_sand_56 rfl 3 rfl rfl ?_
        refine a_iastN C (q := 58) (mk := (fun z => (z, r))) dX7_sand_57 hf (by decide) rfl rfl cellE_C1 rfl (fun t_4 hf => ?_)
        refine a_iload_n C (i := 3) (q := 59) dX7_sand_58 rfl 0 rfl rfl ?_
        have hf := Option.some.inj hf; subst hf
        exact (show RetI F G Q cX7_sand 4 .int v3_3 (t_4, r) from hK) rfl _ _ dX7_sand_59
      · refine a_bipush C (v := (-2 : Int32)) (q := 29) dX7_sand_27 rfl (by decide) ?_
        have hf := Option.some.inj hf; subst hf
        exact (show RetI F G Q cX7_sand 4 .int (-2 : Int32) (y_1.2, r) from hK) rfl _ _ dX7_sand_29
    · refine a_iconst C (v := (-1 : Int32)) (q := 11) dX7_sand_10 rfl (by decide) ?_
      have hf := Option.some.inj hf; subst hf
      exact (show RetI F G Q cX7_sand 4 .int (-1 : Int32) (t, r) from hK) rfl _ _ dX7_sand_11
theorem c_X7_sand (l : Launch) (G : GX) (n : Nat) (t : MM) (r : SR) (v1 : Int32) (res : Int32 × MM) (hf : f_X7_sand n t v1 = some res) : MetC l G yX7_sand cX7_sand 4 (some .int) 6 (t, r) [.ref (G.2.1 0), .int v1] (PostI G res.1 (res.2, r)) :=
  m_I (by decide) (Nat.le_of_ble_eq_true rfl) (fun F Q C h1 h2 h3 hK => w_X7_sand_e C (Rm.of h1 h3) n t r v1 res hf hK)
theorem cw_X7_turn : CwV RX7 yX7_turn cX7_turn 2 1 (some .int) := ⟨k_553, k_551, k_552, k_1, by decide +kernel, by decide⟩
def f_X7_turn (t : MM) (v1 : Int32) : Option (Int32 × MM) :=
  (if v1 < (1 : Int32) then some ((-1 : Int32), t) else (if v1 ≤ (60 : Int32) then (if ((t 1 6) + v1) ≤ (999 : Int32) then nm (st1 t 1 6 ((t 1 6) + v1)) (fun t_1 => some (t_1 1 6, t_1)) else some ((-3 : Int32), t)) else some ((-1 : Int32), t)))
set_option maxHeartbeats 4000000 in
theorem w_X7_turn_e {F : FX} {G : GX} {Q : State → Prop} (C : Cx F G cX7_turn 2 RX7) (hR : Rm F 2) (t : MM) (r : SR)  (v1 : Int32) (res : Int32 × MM) (hf : f_X7_turn t v1 = some res) (hK : RetI F G Q cX7_turn 2 .int res.1 (res.2, r)) : At F G Q 2 0 [(0, .ref (G.2.1 0)), (1, .int v1)] [] (t, r) := by
  unfold f_X7_turn at hf
  refine a_iload_n C (i := 1) (q := 1) dX7_turn_0 rfl 1 rfl rfl ?_
  refine a_iconst C (v := (1 : Int32)) (q := 2) dX7_turn_1 rfl (by decide) ?_
  refine a_icmp_lt C (tgt := 11) (q := 5) dX7_turn_2 hf (by decide) rfl (fun hf => ?_) (fun hf => ?_)
  · refine a_iconst C (v := (-1 : Int32)) (q := 12) dX7_turn_11 rfl (by decide) ?_
    have hf := Option.some.inj hf; subst hf
    exact (show RetI F G Q cX7_turn 2 .int (-1 : Int32) (t, r) from hK) rfl _ _ dX7_turn_12
  · refine a_iload_n C (i := 1) (q := 6) dX7_turn_5 rfl 1 rfl rfl ?_
    refine a_bipush C (v := (60 : Int32)) (q := 8) dX7_turn_6 rfl (by decide) ?_
    refine a_icmp_le C (tgt := 13) (q := 11) dX7_turn_8 hf (by decide) rfl (fun hf => ?_) (fun hf => ?_)
    · refine a_aload_n C (i := 0) (q := 14) dX7_turn_13 rfl 0 rfl rfl ?_
      refine a_get7 C (q := 17) dX7_turn_14 0 (by decide) k_213 (by decide) rfl rfl rfl ?_
      refine a_get6 C (q := 20) dX7_turn_17 6 (by decide) k_47 (by decide) rfl rfl rfl ?_
      refine a_iload_n C (i := 1) (q := 21) dX7_turn_20 rfl 1 rfl rfl ?_
      refine a_iadd C (q := 22) dX7_turn_21 rfl ?_
      refine a_sipush C (v := (999 : Int32)) (q := 25) dX7_turn_22 rfl (by decide) ?_
      refine a_icmp_le C (tgt := 31) (q := 28) dX7_turn_25 hf (by decide) rfl (fun hf => ?_) (fun hf => ?_)
      · refine a_aload_n C (i := 0) (q := 32) dX7_turn_31 rfl 0 rfl rfl ?_
        refine a_get7 C (q := 35) dX7_turn_32 0 (by decide) k_213 (by decide) rfl rfl rfl ?_
        refine a_dup C (q := 36) dX7_turn_35 rfl rfl ?_
        refine a_get6 C (q := 39) dX7_turn_36 6 (by decide) k_47 (by decide) rfl rfl rfl ?_
        refine a_iload_n C (i := 1) (q := 40) dX7_turn_39 rfl 1 rfl rfl ?_
        refine a_iadd C (q := 41) dX7_turn_40 rfl ?_
        refine a_put6N C (q := 44) (mk := (fun z => (z, r))) dX7_turn_41 hf 6 (by decide) k_47 (by decide) rfl rfl cellE_C1 rfl rfl rfl (Nat.le_of_ble_eq_true rfl) rfl (fun t_1 hf => ?_)
        refine a_aload_n C (i := 0) (q := 45) dX7_turn_44 rfl 0 rfl rfl ?_
        refine a_get7 C (q := 48) dX7_turn_45 0 (by decide) k_213 (by decide) rfl rfl rfl ?_
        refine a_get6 C (q := 51) dX7_turn_48 6 (by decide) k_47 (by decide) rfl rfl rfl ?_
        have hf := Option.some.inj hf; subst hf
        exact (show RetI F G Q cX7_turn 2 .int (t_1 1 6) (t_1, r) from hK) rfl _ _ dX7_turn_51
      · refine a_bipush C (v := (-3 : Int32)) (q := 30) dX7_turn_28 rfl (by decide) ?_
        have hf := Option.some.inj hf; subst hf
        exact (show RetI F G Q cX7_turn 2 .int (-3 : Int32) (t, r) from hK) rfl _ _ dX7_turn_30
    · refine a_iconst C (v := (-1 : Int32)) (q := 12) dX7_turn_11 rfl (by decide) ?_
      have hf := Option.some.inj hf; subst hf
      exact (show RetI F G Q cX7_turn 2 .int (-1 : Int32) (t, r) from hK) rfl _ _ dX7_turn_12
theorem c_X7_turn (l : Launch) (G : GX) (t : MM) (r : SR) (v1 : Int32) (res : Int32 × MM) (hf : f_X7_turn t v1 = some res) : MetC l G yX7_turn cX7_turn 2 (some .int) 2 (t, r) [.ref (G.2.1 0), .int v1] (PostI G res.1 (res.2, r)) :=
  m_I (by decide) (Nat.le_of_ble_eq_true rfl) (fun F Q C h1 h2 h3 hK => w_X7_turn_e C (Rm.of h1 h3) t r v1 res hf hK)
theorem cw_X7_happens : CwV RX7 yX7_happens cX7_happens 3 2 (some .boolean) := ⟨k_497, k_496, kp_6, k_1, by decide +kernel, by decide⟩
def f_X7_happens (n : Nat) (t : MM) (v1 : Int32) (v2 : Int32) : Option (Int32 × MM) :=
  (if v1 = 0 then b1 (f_X7_board n t v2) (fun y_1 => (if y_1.1 < 0 then some ((0 : Int32), y_1.2) else some ((1 : Int32), y_1.2))) else (if v1 = 1 then b1 (f_X7_leave n t v2) (fun y_2 => (if y_2.1 < 0 then some ((0 : Int32), y_2.2) else some ((1 : Int32), y_2.2))) else (if v1 = 2 then b1 (f_X7_sand n t v2) (fun y_3 => (if y_3.1 < 0 then some ((0 : Int32), y_3.2) else some ((1 : Int32), y_3.2))) else b1 (f_X7_turn t (1 : Int32)) (fun y_4 => (if y_4.1 < 0 then some ((0 : Int32), y_4.2) else some ((1 : Int32), y_4.2))))))
set_option maxHeartbeats 4000000 in
theorem w_X7_happens_e {F : FX} {G : GX} {Q : State → Prop} (C : Cx F G cX7_happens 3 RX7) (hR : Rm F 7) (n : Nat) (t : MM) (r : SR)  (v1 : Int32) (v2 : Int32) (res : Int32 × MM) (hf : f_X7_happens n t v1 v2 = some res) (hK : RetI F G Q cX7_happens 3 .boolean res.1 (res.2, r)) : At F G Q 3 0 [(0, .ref (G.2.1 0)), (1, .int v1), (2, .int v2)] [] (t, r) := by
  unfold f_X7_happens at hf
  refine a_iload_n C (i := 1) (q := 1) dX7_happens_0 rfl 1 rfl rfl ?_
  rcases ite_cut hf with ⟨hc0, hf⟩ | ⟨hc0, hf⟩
  · refine a_tblIn C (tgt := 28) (q := 1) (v := 0) dX7_happens_1 hc0 (by decide) (by decide) rfl (by decide) rfl ?_
    refine a_aload_n C (i := 0) (q := 29) dX7_happens_28 rfl 0 rfl rfl ?_
    refine a_iload_n C (i := 2) (q := 30) dX7_happens_29 rfl 2 rfl rfl ?_
    refine a_callVI C (q := 33) (As := [.int v2]) (st := []) dX7_happens_30 hR (by decide) hf (fun b => b.1) (fun b => (b.2, r)) (by decide) rfl rfl cw_X7_board (fun b hb => c_X7_board _ G n t r v2 b hb) rfl rfl (Nat.le_of_ble_eq_true rfl) k_498 rfl (fun y_1 hf => ?_)
    refine a_if_lt C (tgt := 40) (q := 36) dX7_happens_33 hf (by decide) rfl (fun hf => ?_) (fun hf => ?_)
    · refine a_iconst C (v := (0 : Int32)) (q := 41) dX7_happens_40 rfl (by decide) ?_
      have hf := Option.some.inj hf; subst hf
      exact (show RetI F G Q cX7_happens 3 .boolean (0 : Int32) (y_1.2, r) from hK) rfl _ _ dX7_happens_41
    · refine a_iconst C (v := (1 : Int32)) (q := 37) dX7_happens_36 rfl (by decide) ?_
      refine a_goto C (q := 41) dX7_happens_37 (by decide) ?_
      have hf := Option.some.inj hf; subst hf
      exact (show RetI F G Q cX7_happens 3 .boolean (1 : Int32) (y_1.2, r) from hK) rfl _ _ dX7_happens_41
  · rcases ite_cut hf with ⟨hc1, hf⟩ | ⟨hc1, hf⟩
    · refine a_tblIn C (tgt := 42) (q := 1) (v := 1) dX7_happens_1 hc1 (by decide) (by decide) rfl (by decide) rfl ?_
      refine a_aload_n C (i := 0) (q := 43) dX7_happens_42 rfl 0 rfl rfl ?_
      refine a_iload_n C (i := 2) (q := 44) dX7_happens_43 rfl 2 rfl rfl ?_
      refine a_callVI C (q := 47) (As := [.int v2]) (st := []) dX7_happens_44 hR (by decide) hf (fun b => b.1) (fun b => (b.2, r)) (by decide) rfl rfl cw_X7_leave (fun b hb => c_X7_leave _ G n t r v2 b hb) rfl rfl (Nat.le_of_ble_eq_true rfl) k_526 rfl (fun y_2 hf => ?_)
      refine a_if_lt C (tgt := 54) (q := 50) dX7_happens_47 hf (by decide) rfl (fun hf => ?_) (fun hf => ?_)
      · refine a_iconst C (v := (0 : Int32)) (q := 55) dX7_happens_54 rfl (by decide) ?_
        have hf := Option.some.inj hf; subst hf
        exact (show RetI F G Q cX7_happens 3 .boolean (0 : Int32) (y_2.2, r) from hK) rfl _ _ dX7_happens_55
      · refine a_iconst C (v := (1 : Int32)) (q := 51) dX7_happens_50 rfl (by decide) ?_
        refine a_goto C (q := 55) dX7_happens_51 (by decide) ?_
        have hf := Option.some.inj hf; subst hf
        exact (show RetI F G Q cX7_happens 3 .boolean (1 : Int32) (y_2.2, r) from hK) rfl _ _ dX7_happens_55
    · rcases ite_cut hf with ⟨hc2, hf⟩ | ⟨hc2, hf⟩
      · refine a_tblIn C (tgt := 56) (q := 1) (v := 2) dX7_happens_1 hc2 (by decide) (by decide) rfl (by decide) rfl ?_
        refine a_aload_n C (i := 0) (q := 57) dX7_happens_56 rfl 0 rfl rfl ?_
        refine a_iload_n C (i := 2) (q := 58) dX7_happens_57 rfl 2 rfl rfl ?_
        refine a_callVI C (q := 61) (As := [.int v2]) (st := []) dX7_happens_58 hR (by decide) hf (fun b => b.1) (fun b => (b.2, r)) (by decide) rfl rfl cw_X7_sand (fun b hb => c_X7_sand _ G n t r v2 b hb) rfl rfl (Nat.le_of_ble_eq_true rfl) k_542 rfl (fun y_3 hf => ?_)
        refine a_if_lt C (tgt := 68) (q := 64) dX7_happens_61 hf (by decide) rfl (fun hf => ?_) (fun hf => ?_)
        · refine a_iconst C (v := (0 : Int32)) (q := 69) dX7_happens_68 rfl (by decide) ?_
          have hf := Option.some.inj hf; subst hf
          exact (show RetI F G Q cX7_happens 3 .boolean (0 : Int32) (y_3.2, r) from hK) rfl _ _ dX7_happens_69
        · refine a_iconst C (v := (1 : Int32)) (q := 65) dX7_happens_64 rfl (by decide) ?_
          refine a_goto C (q := 69) dX7_happens_65 (by decide) ?_
          have hf := Option.some.inj hf; subst hf
          exact (show RetI F G Q cX7_happens 3 .boolean (1 : Int32) (y_3.2, r) from hK) rfl _ _ dX7_happens_69
      · refine a_tblOut C (tgt := 70) (q := 1) dX7_happens_1 (tO3 hc0 hc1 hc2) (by decide) rfl ?_
        refine a_aload_n C (i := 0) (q := 71) dX7_happens_70 rfl 0 rfl rfl ?_
        refine a_iconst C (v := (1 : Int32)) (q := 72) dX7_happens_71 rfl (by decide) ?_
        refine a_callVI C (q := 75) (As := [.int (1 : Int32)]) (st := []) dX7_happens_72 hR (by decide) hf (fun b => b.1) (fun b => (b.2, r)) (by decide) rfl rfl cw_X7_turn (fun b hb => c_X7_turn _ G t r (1 : Int32) b hb) rfl rfl (Nat.le_of_ble_eq_true rfl) k_550 rfl (fun y_4 hf => ?_)
        refine a_if_lt C (tgt := 82) (q := 78) dX7_happens_75 hf (by decide) rfl (fun hf => ?_) (fun hf => ?_)
        · refine a_iconst C (v := (0 : Int32)) (q := 83) dX7_happens_82 rfl (by decide) ?_
          have hf := Option.some.inj hf; subst hf
          exact (show RetI F G Q cX7_happens 3 .boolean (0 : Int32) (y_4.2, r) from hK) rfl _ _ dX7_happens_83
        · refine a_iconst C (v := (1 : Int32)) (q := 79) dX7_happens_78 rfl (by decide) ?_
          refine a_goto C (q := 83) dX7_happens_79 (by decide) ?_
          have hf := Option.some.inj hf; subst hf
          exact (show RetI F G Q cX7_happens 3 .boolean (1 : Int32) (y_4.2, r) from hK) rfl _ _ dX7_happens_83
theorem c_X7_happens (l : Launch) (G : GX) (n : Nat) (t : MM) (r : SR) (v1 : Int32) (v2 : Int32) (res : Int32 × MM) (hf : f_X7_happens n t v1 v2 = some res) : MetC l G yX7_happens cX7_happens 3 (some .boolean) 7 (t, r) [.ref (G.2.1 0), .int v1, .int v2] (PostI G res.1 (res.2, r)) :=
  m_I (by decide) (Nat.le_of_ble_eq_true rfl) (fun F Q C h1 h2 h3 hK => w_X7_happens_e C (Rm.of h1 h3) n t r v1 v2 res hf hK)
theorem cw_X7_evening : CwV RX7 yX7_evening cX7_evening 3 0 (some .int) := ⟨k_488, k_486, k_487, k_1, by decide +kernel, by decide⟩
def P_X7_evening_18 (F : FX) (G : GX) (Q : State → Prop) (r : SR) (v1 : Int32) (v2 : Int32) (t : MM) : Prop := At F G Q 3 18 [(0, .ref (G.2.1 0)), (1, .int v1), (2, .int v2)] [] (t, r)
def E_X7_evening_18 (F : FX) (G : GX) (Q : State → Prop) (r : SR) (v1 : Int32) : (Int32 × MM) ⊕ (MM) → Prop := fun q => match q with
  | .inl y => RetI F G Q cX7_evening 3 .int y.1 (y.2, r)
  | .inr t => At F G Q 3 56 [(1, .int v1)] [] (t, r)
def lb_X7_evening_18 (n : Nat) (v1 : Int32) (v2 : Int32) (t : MM) : Option (((Int32 × MM) ⊕ (MM)) ⊕ (Int32 × MM)) :=
  (if v1 ≤ v2 then some (.inl (.inr t)) else ix v2 64 (ix v2 64 (b1 (f_X7_happens n t (t 15 v2.toNatClampNeg) (t 16 v2.toNatClampNeg)) (fun y_3 => (if y_3.1 = 0 then some (.inl (.inl (v2, y_3.2))) else nm (v2 + 1) (fun v2_4 => some (.inr (v2_4, y_3.2))))))))
set_option maxHeartbeats 4000000 in
theorem w_X7_evening_18 {F : FX} {G : GX} {Q : State → Prop} (C : Cx F G cX7_evening 3 RX7) (hR : Rm F 12) (n : Nat) (r : SR) (v1 : Int32)  (v2 : Int32) (t : MM) (res : ((Int32 × MM) ⊕ (MM)) ⊕ (Int32 × MM)) (hf : lb_X7_evening_18 n v1 v2 t = some res) (hK : Sum.elim (E_X7_evening_18 F G Q r v1) (fun q => match q with | (v2, t) => P_X7_evening_18 F G Q r v1 v2 t) res) : P_X7_evening_18 F G Q r v1 v2 t := by
  unfold lb_X7_evening_18 at hf
  show At F G Q 3 18 [(0, .ref (G.2.1 0)), (1, .int v1), (2, .int v2)] [] (t, r)
  refine a_iload_n C (i := 2) (q := 19) dX7_evening_18 rfl 2 rfl rfl ?_
  refine a_iload_n C (i := 1) (q := 20) dX7_evening_19 rfl 1 rfl rfl ?_
  refine a_icmp_ge C (tgt := 56) (q := 23) dX7_evening_20 hf (by decide) rfl (fun hf => ?_) (fun hf => ?_)
  · have hf := Option.some.inj hf; subst hf
    exact a_sub [1] rfl (show At F G Q 3 56 [(1, .int v1)] [] (t, r) from hK)
  · refine a_aload_n C (i := 0) (q := 24) dX7_evening_23 rfl 0 rfl rfl ?_
    refine a_aload_n C (i := 0) (q := 25) dX7_evening_24 rfl 0 rfl rfl ?_
    refine a_get7 C (q := 28) dX7_evening_25 2 (by decide) k_215 (by decide) rfl rfl rfl ?_
    refine a_get5 C (q := 31) dX7_evening_28 3 (by decide) k_81 (by decide) rfl rfl rfl ?_
    refine a_iload_n C (i := 2) (q := 32) dX7_evening_31 rfl 2 rfl rfl ?_
    refine a_iald C (q := 33) (g := t 15) dX7_evening_32 hf (by decide) rfl rfl (fun hf => ?_)
    refine a_aload_n C (i := 0) (q := 34) dX7_evening_33 rfl 0 rfl rfl ?_
    refine a_get7 C (q := 37) dX7_evening_34 2 (by decide) k_215 (by decide) rfl rfl rfl ?_
    refine a_get5 C (q := 40) dX7_evening_37 4 (by decide) k_83 (by decide) rfl rfl rfl ?_
    refine a_iload_n C (i := 2) (q := 41) dX7_evening_40 rfl 2 rfl rfl ?_
    refine a_iald C (q := 42) (g := t 16) dX7_evening_41 hf (by decide) rfl rfl (fun hf => ?_)
    refine a_callVI C (q := 45) (As := [.int (t 15 v2.toNatClampNeg), .int (t 16 v2.toNatClampNeg)]) (st := []) dX7_evening_42 hR (by decide) hf (fun b => b.1) (fun b => (b.2, r)) (by decide) rfl rfl cw_X7_happens (fun b hb => c_X7_happens _ G n t r (t 15 v2.toNatClampNeg) (t 16 v2.toNatClampNeg) b hb) rfl rfl (Nat.le_of_ble_eq_true rfl) k_494 rfl (fun y_3 hf => ?_)
    refine a_if_ne C (tgt := 50) (q := 48) dX7_evening_45 hf (by decide) rfl (fun hf => ?_) (fun hf => ?_)
    · refine a_iincN C (i := 2) (k := 2) (q := 53) (lv' := fun z => [(2, .int z), (0, .ref (G.2.1 0)), (1, .int v1)]) dX7_evening_50 hf rfl rfl (by decide) (fun _ => rfl) rfl (fun v2_4 hf => ?_)
      refine a_goto C (q := 18) dX7_evening_53 (by decide) ?_
      have hf := Option.some.inj hf; subst hf
      exact a_sub [1, 2, 0] rfl (show At F G Q 3 18 [(0, .ref (G.2.1 0)), (1, .int v1), (2, .int v2_4)] [] (y_3.2, r) from hK)
    · refine a_iload_n C (i := 2) (q := 49) dX7_evening_48 rfl 2 rfl rfl ?_
      have hf := Option.some.inj hf; subst hf
      exact (show RetI F G Q cX7_evening 3 .int v2 (y_3.2, r) from hK) rfl _ _ dX7_evening_49
theorem lp_X7_evening_18 {F : FX} {G : GX} {Q : State → Prop} (C : Cx F G cX7_evening 3 RX7) (hR : Rm F 12) (n : Nat) (r : SR) (v1 : Int32)  (v2 : Int32) (t : MM) (x : (Int32 × MM) ⊕ (MM)) (h : it2 (lb_X7_evening_18 n v1) n v2 t = some x) (hE : E_X7_evening_18 F G Q r v1 x) : At F G Q 3 18 [(0, .ref (G.2.1 0)), (1, .int v1), (2, .int v2)] [] (t, r) :=
  it2_ind (b := (lb_X7_evening_18 n v1)) (E := E_X7_evening_18 F G Q r v1) (P := fun v2 t => P_X7_evening_18 F G Q r v1 v2 t) (fun v2 t res hf hK => w_X7_evening_18 C hR n r v1   v2 t res hf hK) n v2 t x h hE
def f_X7_evening (n : Nat) (t : MM) : Option (Int32 × MM) :=
  b1 (f_X5_readEvening n t) (fun y_1 => nm (st1 y_1.2 13 2 (0 : Int32)) (fun t_2 => bR (it2 (lb_X7_evening_18 n y_1.1) n (0 : Int32) t_2) (fun y => some y) (fun t_5 => some (y_1.1, t_5))))
set_option maxHeartbeats 4000000 in
theorem w_X7_evening_e {F : FX} {G : GX} {Q : State → Prop} (C : Cx F G cX7_evening 3 RX7) (hR : Rm F 12) (n : Nat) (t : MM) (r : SR)   (res : Int32 × MM) (hf : f_X7_evening n t = some res) (hK : RetI F G Q cX7_evening 3 .int res.1 (res.2, r)) : At F G Q 3 0 [(0, .ref (G.2.1 0))] [] (t, r) := by
  unfold f_X7_evening at hf
  refine a_aload_n C (i := 0) (q := 1) dX7_evening_0 rfl 0 rfl rfl ?_
  refine a_get7 C (q := 4) dX7_evening_1 2 (by decide) k_215 (by decide) rfl rfl rfl ?_
  refine a_callVI C (q := 7) (As := []) (st := []) dX7_evening_4 hR (by decide) hf (fun b => b.1) (fun b => (b.2, r)) (by decide) rfl rfl cw_X5_readEvening (fun b hb => c_X5_readEvening _ G n t r b hb) rfl rfl (Nat.le_of_ble_eq_true rfl) k_489 rfl (fun y_1 hf => ?_)
  refine a_istore_n C (i := 1) (q := 8) (lv' := [(1, .int y_1.1), (0, .ref (G.2.1 0))]) dX7_evening_7 rfl (by decide) rfl rfl ?_
  refine a_aload_n C (i := 0) (q := 9) dX7_evening_8 rfl 1 rfl rfl ?_
  refine a_get7 C (q := 12) dX7_evening_9 2 (by decide) k_215 (by decide) rfl rfl rfl ?_
  refine a_iconst C (v := (0 : Int32)) (q := 13) dX7_evening_12 rfl (by decide) ?_
  refine a_put5N C (q := 16) (mk := (fun z => (z, r))) dX7_evening_13 hf 2 (by decide) k_79 (by decide) rfl rfl cellE_C1 rfl rfl rfl (Nat.le_of_ble_eq_true rfl) rfl (fun t_2 hf => ?_)
  refine a_iconst C (v := (0 : Int32)) (q := 17) dX7_evening_16 rfl (by decide) ?_
  refine a_istore_n C (i := 2) (q := 18) (lv' := [(2, .int (0 : Int32)), (1, .int y_1.1), (0, .ref (G.2.1 0))]) dX7_evening_17 rfl (by decide) rfl rfl ?_
  rcases bR_some hf with ⟨y, h1, hf⟩ | ⟨t_5, h1, hf⟩
  · refine a_sub [2, 1, 0] rfl (lp_X7_evening_18 C hR n r y_1.1  (0 : Int32) t_2 _ h1 ?_)
    have hf := Option.some.inj hf; subst hf
    exact hK
  · refine a_sub [2, 1, 0] rfl (lp_X7_evening_18 C hR n r y_1.1  (0 : Int32) t_2 _ h1 ?_)
    show At F G Q 3 56 [(1, .int y_1.1)] [] (t_5, r)
    refine a_iload_n C (i := 1) (q := 57) dX7_evening_56 rfl 0 rfl rfl ?_
    have hf := Option.some.inj hf; subst hf
    exact (show RetI F G Q cX7_evening 3 .int y_1.1 (t_5, r) from hK) rfl _ _ dX7_evening_57
theorem c_X7_evening (l : Launch) (G : GX) (n : Nat) (t : MM) (r : SR)  (res : Int32 × MM) (hf : f_X7_evening n t = some res) : MetC l G yX7_evening cX7_evening 3 (some .int) 12 (t, r) [.ref (G.2.1 0)] (PostI G res.1 (res.2, r)) :=
  m_I (by decide) (Nat.le_of_ble_eq_true rfl) (fun F Q C h1 h2 h3 hK => w_X7_evening_e C (Rm.of h1 h3) n t r res hf hK)
theorem cw_X7_count : CwV RX7 yX7_count cX7_count 2 1 (some .int) := ⟨k_557, k_555, k_556, k_1, by decide +kernel, by decide⟩
def f_X7_count (n : Nat) (t : MM) (v1 : Int32) : Option (Int32) :=
  (if v1 = 0 then some (t 1 5) else (if v1 = 1 then some (t 1 6) else (if v1 = 2 then b1 (f_X6_foot t) (fun y_1 => some y_1) else (if v1 = 3 then b1 (f_X6_whoIsAt n t (12 : Int32)) (fun y_2 => some y_2) else (if v1 = 4 then b1 (f_X6_whoRides n t) (fun y_3 => some y_3) else (if v1 = 5 then b1 (f_X6_whoIsAt n t (13 : Int32)) (fun y_4 => some y_4) else (if v1 = 6 then b1 (f_X6_sandTogether n t) (fun y_5 => some y_5) else some (-1 : Int32))))))))
set_option maxHeartbeats 4000000 in
theorem w_X7_count_e {F : FX} {G : GX} {Q : State → Prop} (C : Cx F G cX7_count 2 RX7) (hR : Rm F 3) (n : Nat) (t : MM) (r : SR)  (v1 : Int32) (res : Int32) (hf : f_X7_count n t v1 = some res) (hK : RetI F G Q cX7_count 2 .int res (t, r)) : At F G Q 2 0 [(0, .ref (G.2.1 0)), (1, .int v1)] [] (t, r) := by
  unfold f_X7_count at hf
  refine a_iload_n C (i := 1) (q := 1) dX7_count_0 rfl 1 rfl rfl ?_
  rcases ite_cut hf with ⟨hc0, hf⟩ | ⟨hc0, hf⟩
  · refine a_tblIn C (tgt := 44) (q := 1) (v := 0) dX7_count_1 hc0 (by decide) (by decide) rfl (by decide) rfl ?_
    refine a_aload_n C (i := 0) (q := 45) dX7_count_44 rfl 0 rfl rfl ?_
    refine a_get7 C (q := 48) dX7_count_45 0 (by decide) k_213 (by decide) rfl rfl rfl ?_
    refine a_get6 C (q := 51) dX7_count_48 5 (by decide) k_45 (by decide) rfl rfl rfl ?_
    have hf := Option.some.inj hf; subst hf
    exact (show RetI F G Q cX7_count 2 .int (t 1 5) (t, r) from hK) rfl _ _ dX7_count_51
  · rcases ite_cut hf with ⟨hc1, hf⟩ | ⟨hc1, hf⟩
    · refine a_tblIn C (tgt := 52) (q := 1) (v := 1) dX7_count_1 hc1 (by decide) (by decide) rfl (by decide) rfl ?_
      refine a_aload_n C (i := 0) (q := 53) dX7_count_52 rfl 0 rfl rfl ?_
      refine a_get7 C (q := 56) dX7_count_53 0 (by decide) k_213 (by decide) rfl rfl rfl ?_
      refine a_get6 C (q := 59) dX7_count_56 6 (by decide) k_47 (by decide) rfl rfl rfl ?_
      have hf := Option.some.inj hf; subst hf
      exact (show RetI F G Q cX7_count 2 .int (t 1 6) (t, r) from hK) rfl _ _ dX7_count_59
    · rcases ite_cut hf with ⟨hc2, hf⟩ | ⟨hc2, hf⟩
      · refine a_tblIn C (tgt := 60) (q := 1) (v := 2) dX7_count_1 hc2 (by decide) (by decide) rfl (by decide) rfl ?_
        refine a_aload_n C (i := 0) (q := 61) dX7_count_60 rfl 0 rfl rfl ?_
        refine a_get7 C (q := 64) dX7_count_61 0 (by decide) k_213 (by decide) rfl rfl rfl ?_
        refine a_callVI C (q := 67) (As := []) (st := []) dX7_count_64 hR (by decide) hf (fun b => b) (fun _ => (t, r)) (by decide) rfl rfl cw_X6_foot (fun b hb => c_X6_foot _ G t r b hb) rfl rfl (Nat.le_of_ble_eq_true rfl) k_525 rfl (fun y_1 hf => ?_)
        have hf := Option.some.inj hf; subst hf
        exact (show RetI F G Q cX7_count 2 .int y_1 (t, r) from hK) rfl _ _ dX7_count_67
      · rcases ite_cut hf with ⟨hc3, hf⟩ | ⟨hc3, hf⟩
        · refine a_tblIn C (tgt := 68) (q := 1) (v := 3) dX7_count_1 hc3 (by decide) (by decide) rfl (by decide) rfl ?_
          refine a_aload_n C (i := 0) (q := 69) dX7_count_68 rfl 0 rfl rfl ?_
          refine a_get7 C (q := 72) dX7_count_69 0 (by decide) k_213 (by decide) rfl rfl rfl ?_
          refine a_bipush C (v := (12 : Int32)) (q := 74) dX7_count_72 rfl (by decide) ?_
          refine a_callVI C (q := 77) (As := [.int (12 : Int32)]) (st := []) dX7_count_74 hR (by decide) hf (fun b => b) (fun _ => (t, r)) (by decide) rfl rfl cw_X6_whoIsAt (fun b hb => c_X6_whoIsAt _ G n t r (12 : Int32) b hb) rfl rfl (Nat.le_of_ble_eq_true rfl) k_264 rfl (fun y_2 hf => ?_)
          have hf := Option.some.inj hf; subst hf
          exact (show RetI F G Q cX7_count 2 .int y_2 (t, r) from hK) rfl _ _ dX7_count_77
        · rcases ite_cut hf with ⟨hc4, hf⟩ | ⟨hc4, hf⟩
          · refine a_tblIn C (tgt := 78) (q := 1) (v := 4) dX7_count_1 hc4 (by decide) (by decide) rfl (by decide) rfl ?_
            refine a_aload_n C (i := 0) (q := 79) dX7_count_78 rfl 0 rfl rfl ?_
            refine a_get7 C (q := 82) dX7_count_79 0 (by decide) k_213 (by decide) rfl rfl rfl ?_
            refine a_callVI C (q := 85) (As := []) (st := []) dX7_count_82 hR (by decide) hf (fun b => b) (fun _ => (t, r)) (by decide) rfl rfl cw_X6_whoRides (fun b hb => c_X6_whoRides _ G n t r b hb) rfl rfl (Nat.le_of_ble_eq_true rfl) k_558 rfl (fun y_3 hf => ?_)
            have hf := Option.some.inj hf; subst hf
            exact (show RetI F G Q cX7_count 2 .int y_3 (t, r) from hK) rfl _ _ dX7_count_85
          · rcases ite_cut hf with ⟨hc5, hf⟩ | ⟨hc5, hf⟩
            · refine a_tblIn C (tgt := 86) (q := 1) (v := 5) dX7_count_1 hc5 (by decide) (by decide) rfl (by decide) rfl ?_
              refine a_aload_n C (i := 0) (q := 87) dX7_count_86 rfl 0 rfl rfl ?_
              refine a_get7 C (q := 90) dX7_count_87 0 (by decide) k_213 (by decide) rfl rfl rfl ?_
              refine a_bipush C (v := (13 : Int32)) (q := 92) dX7_count_90 rfl (by decide) ?_
              refine a_callVI C (q := 95) (As := [.int (13 : Int32)]) (st := []) dX7_count_92 hR (by decide) hf (fun b => b) (fun _ => (t, r)) (by decide) rfl rfl cw_X6_whoIsAt (fun b hb => c_X6_whoIsAt _ G n t r (13 : Int32) b hb) rfl rfl (Nat.le_of_ble_eq_true rfl) k_264 rfl (fun y_4 hf => ?_)
              have hf := Option.some.inj hf; subst hf
              exact (show RetI F G Q cX7_count 2 .int y_4 (t, r) from hK) rfl _ _ dX7_count_95
            · rcases ite_cut hf with ⟨hc6, hf⟩ | ⟨hc6, hf⟩
              · refine a_tblIn C (tgt := 96) (q := 1) (v := 6) dX7_count_1 hc6 (by decide) (by decide) rfl (by decide) rfl ?_
                refine a_aload_n C (i := 0) (q := 97) dX7_count_96 rfl 0 rfl rfl ?_
                refine a_get7 C (q := 100) dX7_count_97 0 (by decide) k_213 (by decide) rfl rfl rfl ?_
                refine a_callVI C (q := 103) (As := []) (st := []) dX7_count_100 hR (by decide) hf (fun b => b) (fun _ => (t, r)) (by decide) rfl rfl cw_X6_sandTogether (fun b hb => c_X6_sandTogether _ G n t r b hb) rfl rfl (Nat.le_of_ble_eq_true rfl) k_559 rfl (fun y_5 hf => ?_)
                have hf := Option.some.inj hf; subst hf
                exact (show RetI F G Q cX7_count 2 .int y_5 (t, r) from hK) rfl _ _ dX7_count_103
              · refine a_tblOut C (tgt := 104) (q := 1) dX7_count_1 (tO7 hc0 hc1 hc2 hc3 hc4 hc5 hc6) (by decide) rfl ?_
                refine a_iconst C (v := (-1 : Int32)) (q := 105) dX7_count_104 rfl (by decide) ?_
                have hf := Option.some.inj hf; subst hf
                exact (show RetI F G Q cX7_count 2 .int (-1 : Int32) (t, r) from hK) rfl _ _ dX7_count_105
theorem c_X7_count (l : Launch) (G : GX) (n : Nat) (t : MM) (r : SR) (v1 : Int32) (res : Int32) (hf : f_X7_count n t v1 = some res) : MetC l G yX7_count cX7_count 2 (some .int) 3 (t, r) [.ref (G.2.1 0), .int v1] (PostI G res (t, r)) :=
  m_I (by decide) (Nat.le_of_ble_eq_true rfl) (fun F Q C h1 h2 h3 hK => w_X7_count_e C (Rm.of h1 h3) n t r v1 res hf hK)
theorem cw_X7_may : CwV RX7 yX7_may cX7_may 5 1 (some .int) := ⟨k_570, k_568, k_569, k_1, by decide +kernel, by decide⟩
def P_X7_may_15 (F : FX) (G : GX) (Q : State → Prop) (r : SR) (v1 : Int32) (v2 : Int32) (v3 : Int32) (t : MM) : Prop := At F G Q 5 15 [(0, .ref (G.2.1 0)), (1, .int v1), (2, .int v2), (3, .int v3)] [] (t, r)
def E_X7_may_15 (F : FX) (G : GX) (Q : State → Prop) (r : SR) (v1 : Int32) : Int32 × MM → Prop := fun q => match q with
  | (v2, t) => At F G Q 5 114 [(2, .int v2)] [] (t, r)
def f_X7_may_95_in15 (n : Nat) (t : MM) (v1 : Int32) (v2 : Int32) (v3 : Int32) (w0 : Int32) : Option ((Int32 × MM) ⊕ (Int32 × Int32 × MM)) :=
  (if w0 = 0 then nm (v3 + 1) (fun v3_2 => some (.inr (v2, v3_2, t))) else nm (v2 ||| ((1 : Int32) <<< (v3 &&& 31))) (fun v2_3 => nm (v3 + 1) (fun v3_4 => some (.inr (v2_3, v3_4, t)))))
set_option maxHeartbeats 4000000 in
theorem w_X7_may_95_in15 {F : FX} {G : GX} {Q : State → Prop} (C : Cx F G cX7_may 5 RX7) (hR : Rm F 6) (n : Nat) (t : MM) (r : SR)  (v1 : Int32) (v2 : Int32) (v3 : Int32) (w0 : Int32) (res : (Int32 × MM) ⊕ (Int32 × Int32 × MM)) (hf : f_X7_may_95_in15 n t v1 v2 v3 w0 = some res) (hK : Sum.elim (E_X7_may_15 F G Q r v1) (fun q => match q with | (v2, v3, t) => P_X7_may_15 F G Q r v1 v2 v3 t) res) : At F G Q 5 95 [(0, .ref (G.2.1 0)), (1, .int v1), (2, .int v2), (3, .int v3)] [.int w0] (t, r) := by
  unfold f_X7_may_95_in15 at hf
  refine a_istore C (i := 4) (q := 97) (lv' := [(4, .int w0), (0, .ref (G.2.1 0)), (1, .int v1), (2, .int v2), (3, .int v3)]) dX7_may_95 (by decide) rfl rfl ?_
  refine a_iload C (i := 4) (q := 99) dX7_may_97 rfl 0 rfl ?_
  refine a_if_eq C (tgt := 108) (q := 102) dX7_may_99 hf (by decide) rfl (fun hf => ?_) (fun hf => ?_)
  · refine a_iincN C (i := 3) (k := 4) (q := 111) (lv' := fun z => [(3, .int z), (4, .int w0), (0, .ref (G.2.1 0)), (1, .int v1), (2, .int v2)]) dX7_may_108 hf rfl rfl (by decide) (fun _ => rfl) rfl (fun v3_2 hf => ?_)
    refine a_goto C (q := 15) dX7_may_111 (by decide) ?_
    have hf := Option.some.inj hf; subst hf
    exact a_sub [2, 3, 4, 0] rfl (show At F G Q 5 15 [(0, .ref (G.2.1 0)), (1, .int v1), (2, .int v2), (3, .int v3_2)] [] (t, r) from hK)
  · refine a_iload_n C (i := 2) (q := 103) dX7_may_102 rfl 3 rfl rfl ?_
    refine a_iconst C (v := (1 : Int32)) (q := 104) dX7_may_103 rfl (by decide) ?_
    refine a_iload_n C (i := 3) (q := 105) dX7_may_104 rfl 4 rfl rfl ?_
    refine a_ishl C (q := 106) dX7_may_105 rfl ?_
    refine a_ior C (q := 107) dX7_may_106 rfl ?_
    refine a_istore_nN C (i := 2) (q := 108) (lv' := fun z => [(2, .int z), (4, .int w0), (0, .ref (G.2.1 0)), (1, .int v1), (3, .int v3)]) dX7_may_107 hf rfl (by decide) (fun _ => rfl) rfl (fun v2_3 hf => ?_)
    refine a_iincN C (i := 3) (k := 4) (q := 111) (lv' := fun z => [(3, .int z), (2, .int v2_3), (4, .int w0), (0, .ref (G.2.1 0)), (1, .int v1)]) dX7_may_108 hf rfl rfl (by decide) (fun _ => rfl) rfl (fun v3_4 hf => ?_)
    refine a_goto C (q := 15) dX7_may_111 (by decide) ?_
    have hf := Option.some.inj hf; subst hf
    exact a_sub [3, 4, 1, 0] rfl (show At F G Q 5 15 [(0, .ref (G.2.1 0)), (1, .int v1), (2, .int v2_3), (3, .int v3_4)] [] (t, r) from hK)
def lb_X7_may_15 (n : Nat) (v1 : Int32) (v2 : Int32) (v3 : Int32) (t : MM) : Option ((Int32 × MM) ⊕ (Int32 × Int32 × MM)) :=
  (if (t 1 5) ≤ v3 then some (.inl (v2, t)) else (if v1 = 0 then b1 (f_X6_waits t v3) (fun y_6 => (if y_6 = 0 then f_X7_may_95_in15 n t v1 v2 v3 (0 : Int32) else b1 (f_X6_mayGetIn n t v3 28) (fun y_7 => (if y_7.1 = 0 then f_X7_may_95_in15 n y_7.2 v1 v2 v3 (0 : Int32) else f_X7_may_95_in15 n y_7.2 v1 v2 v3 (1 : Int32))))) else b1 (f_X6_ridesAtFoot t v3) (fun y_1 => (if y_1 = 0 then f_X7_may_95_in15 n t v1 v2 v3 (0 : Int32) else b1 (f_X6_mayGetOut n t v3 28) (fun y_5 => (if y_5.1 = 0 then f_X7_may_95_in15 n y_5.2 v1 v2 v3 (0 : Int32) else f_X7_may_95_in15 n y_5.2 v1 v2 v3 (1 : Int32)))))))
set_option maxHeartbeats 4000000 in
theorem w_X7_may_15 {F : FX} {G : GX} {Q : State → Prop} (C : Cx F G cX7_may 5 RX7) (hR : Rm F 6) (n : Nat) (r : SR) (v1 : Int32)  (v2 : Int32) (v3 : Int32) (t : MM) (res : (Int32 × MM) ⊕ (Int32 × Int32 × MM)) (hf : lb_X7_may_15 n v1 v2 v3 t = some res) (hK : Sum.elim (E_X7_may_15 F G Q r v1) (fun q => match q with | (v2, v3, t) => P_X7_may_15 F G Q r v1 v2 v3 t) res) : P_X7_may_15 F G Q r v1 v2 v3 t := by
  unfold lb_X7_may_15 at hf
  show At F G Q 5 15 [(0, .ref (G.2.1 0)), (1, .int v1), (2, .int v2), (3, .int v3)] [] (t, r)
  refine a_iload_n C (i := 3) (q := 16) dX7_may_15 rfl 3 rfl rfl ?_
  refine a_aload_n C (i := 0) (q := 17) dX7_may_16 rfl 0 rfl rfl ?_
  refine a_get7 C (q := 20) dX7_may_17 0 (by decide) k_213 (by decide) rfl rfl rfl ?_
  refine a_get6 C (q := 23) dX7_may_20 5 (by decide) k_45 (by decide) rfl rfl rfl ?_
  refine a_icmp_ge C (tgt := 114) (q := 26) dX7_may_23 hf (by decide) rfl (fun hf => ?_) (fun hf => ?_)
  · have hf := Option.some.inj hf; subst hf
    exact a_sub [2] rfl (show At F G Q 5 114 [(2, .int v2)] [] (t, r) from hK)
  · refine a_iload_n C (i := 1) (q := 27) dX7_may_26 rfl 1 rfl rfl ?_
    refine a_if_ne C (tgt := 64) (q := 30) dX7_may_27 hf (by decide) rfl (fun hf => ?_) (fun hf => ?_)
    · refine a_aload_n C (i := 0) (q := 65) dX7_may_64 rfl 0 rfl rfl ?_
      refine a_get7 C (q := 68) dX7_may_65 0 (by decide) k_213 (by decide) rfl rfl rfl ?_
      refine a_iload_n C (i := 3) (q := 69) dX7_may_68 rfl 3 rfl rfl ?_
      refine a_callVI C (q := 72) (As := [.int v3]) (st := []) dX7_may_69 hR (by decide) hf (fun b => b) (fun _ => (t, r)) (by decide) rfl rfl cw_X6_ridesAtFoot (fun b hb => c_X6_ridesAtFoot _ G t r v3 b hb) rfl rfl (Nat.le_of_ble_eq_true rfl) k_530 rfl (fun y_1 hf => ?_)
      refine a_if_eq C (tgt := 94) (q := 75) dX7_may_72 hf (by decide) rfl (fun hf => ?_) (fun hf => ?_)
      · refine a_iconst C (v := (0 : Int32)) (q := 95) dX7_may_94 rfl (by decide) ?_
        exact a_sub [0, 1, 2, 3] rfl (w_X7_may_95_in15 C hR n t r v1 v2 v3 (0 : Int32) res hf hK)
      · refine a_aload_n C (i := 0) (q := 76) dX7_may_75 rfl 0 rfl rfl ?_
        refine a_get7 C (q := 79) dX7_may_76 0 (by decide) k_213 (by decide) rfl rfl rfl ?_
        refine a_iload_n C (i := 3) (q := 80) dX7_may_79 rfl 3 rfl rfl ?_
        refine a_aload_n C (i := 0) (q := 81) dX7_may_80 rfl 0 rfl rfl ?_
        refine a_get7 C (q := 84) dX7_may_81 6 (by decide) k_219 (by decide) rfl rfl rfl ?_
        refine a_callVI C (q := 87) (As := [.int v3, .ref (G.2.1 28)]) (st := []) dX7_may_84 hR (by decide) hf (fun b => b.1) (fun b => (b.2, r)) (by decide) rfl rfl cw_X6_mayGetOut (fun b hb => c_X6_mayGetOut _ G n t r v3 28 (by unfold isBal; decide) b hb) rfl rfl (Nat.le_of_ble_eq_true rfl) k_534 rfl (fun y_5 hf => ?_)
        refine a_if_eq C (tgt := 94) (q := 90) dX7_may_87 hf (by decide) rfl (fun hf => ?_) (fun hf => ?_)
        · refine a_iconst C (v := (0 : Int32)) (q := 95) dX7_may_94 rfl (by decide) ?_
          exact a_sub [0, 1, 2, 3] rfl (w_X7_may_95_in15 C hR n y_5.2 r v1 v2 v3 (0 : Int32) res hf hK)
        · refine a_iconst C (v := (1 : Int32)) (q := 91) dX7_may_90 rfl (by decide) ?_
          refine a_goto C (q := 95) dX7_may_91 (by decide) ?_
          exact a_sub [0, 1, 2, 3] rfl (w_X7_may_95_in15 C hR n y_5.2 r v1 v2 v3 (1 : Int32) res hf hK)
    · refine a_aload_n C (i := 0) (q := 31) dX7_may_30 rfl 0 rfl rfl ?_
      refine a_get7 C (q := 34) dX7_may_31 0 (by decide) k_213 (by decide) rfl rfl rfl ?_
      refine a_iload_n C (i := 3) (q := 35) dX7_may_34 rfl 3 rfl rfl ?_
      refine a_callVI C (q := 38) (As := [.int v3]) (st := []) dX7_may_35 hR (by decide) hf (fun b => b) (fun _ => (t, r)) (by decide) rfl rfl cw_X6_waits (fun b hb => c_X6_waits _ G t r v3 b hb) rfl rfl (Nat.le_of_ble_eq_true rfl) k_502 rfl (fun y_6 hf => ?_)
      refine a_if_eq C (tgt := 60) (q := 41) dX7_may_38 hf (by decide) rfl (fun hf => ?_) (fun hf => ?_)
      · refine a_iconst C (v := (0 : Int32)) (q := 61) dX7_may_60 rfl (by decide) ?_
        refine a_goto C (q := 95) dX7_may_61 (by decide) ?_
        exact a_sub [0, 1, 2, 3] rfl (w_X7_may_95_in15 C hR n t r v1 v2 v3 (0 : Int32) res hf hK)
      · refine a_aload_n C (i := 0) (q := 42) dX7_may_41 rfl 0 rfl rfl ?_
        refine a_get7 C (q := 45) dX7_may_42 0 (by decide) k_213 (by decide) rfl rfl rfl ?_
        refine a_iload_n C (i := 3) (q := 46) dX7_may_45 rfl 3 rfl rfl ?_
        refine a_aload_n C (i := 0) (q := 47) dX7_may_46 rfl 0 rfl rfl ?_
        refine a_get7 C (q := 50) dX7_may_47 6 (by decide) k_219 (by decide) rfl rfl rfl ?_
        refine a_callVI C (q := 53) (As := [.int v3, .ref (G.2.1 28)]) (st := []) dX7_may_50 hR (by decide) hf (fun b => b.1) (fun b => (b.2, r)) (by decide) rfl rfl cw_X6_mayGetIn (fun b hb => c_X6_mayGetIn _ G n t r v3 28 (by unfold isBal; decide) b hb) rfl rfl (Nat.le_of_ble_eq_true rfl) k_507 rfl (fun y_7 hf => ?_)
        refine a_if_eq C (tgt := 60) (q := 56) dX7_may_53 hf (by decide) rfl (fun hf => ?_) (fun hf => ?_)
        · refine a_iconst C (v := (0 : Int32)) (q := 61) dX7_may_60 rfl (by decide) ?_
          refine a_goto C (q := 95) dX7_may_61 (by decide) ?_
          exact a_sub [0, 1, 2, 3] rfl (w_X7_may_95_in15 C hR n y_7.2 r v1 v2 v3 (0 : Int32) res hf hK)
        · refine a_iconst C (v := (1 : Int32)) (q := 57) dX7_may_56 rfl (by decide) ?_
          refine a_goto C (q := 95) dX7_may_57 (by decide) ?_
          exact a_sub [0, 1, 2, 3] rfl (w_X7_may_95_in15 C hR n y_7.2 r v1 v2 v3 (1 : Int32) res hf hK)
theorem lp_X7_may_15 {F : FX} {G : GX} {Q : State → Prop} (C : Cx F G cX7_may 5 RX7) (hR : Rm F 6) (n : Nat) (r : SR) (v1 : Int32)  (v2 : Int32) (v3 : Int32) (t : MM) (x : Int32 × MM) (h : it3 (lb_X7_may_15 n v1) n v2 v3 t = some x) (hE : E_X7_may_15 F G Q r v1 x) : At F G Q 5 15 [(0, .ref (G.2.1 0)), (1, .int v1), (2, .int v2), (3, .int v3)] [] (t, r) :=
  it3_ind (b := (lb_X7_may_15 n v1)) (E := E_X7_may_15 F G Q r v1) (P := fun v2 v3 t => P_X7_may_15 F G Q r v1 v2 v3 t) (fun v2 v3 t res hf hK => w_X7_may_15 C hR n r v1   v2 v3 t res hf hK) n v2 v3 t x h hE
def f_X7_may (n : Nat) (t : MM) (v1 : Int32) : Option (Int32 × MM) :=
  (if v1 = 0 then b2 (it3 (lb_X7_may_15 n v1) n (0 : Int32) (0 : Int32) t) (fun v2_8 t_9 => some (v2_8, t_9)) else (if v1 = (1 : Int32) then b2 (it3 (lb_X7_may_15 n v1) n (0 : Int32) (0 : Int32) t) (fun v2_10 t_11 => some (v2_10, t_11)) else some ((-1 : Int32), t)))
set_option maxHeartbeats 4000000 in
theorem w_X7_may_e {F : FX} {G : GX} {Q : State → Prop} (C : Cx F G cX7_may 5 RX7) (hR : Rm F 6) (n : Nat) (t : MM) (r : SR)  (v1 : Int32) (res : Int32 × MM) (hf : f_X7_may n t v1 = some res) (hK : RetI F G Q cX7_may 5 .int res.1 (res.2, r)) : At F G Q 5 0 [(0, .ref (G.2.1 0)), (1, .int v1)] [] (t, r) := by
  unfold f_X7_may at hf
  refine a_iload_n C (i := 1) (q := 1) dX7_may_0 rfl 1 rfl rfl ?_
  refine a_if_eq C (tgt := 11) (q := 4) dX7_may_1 hf (by decide) rfl (fun hf => ?_) (fun hf => ?_)
  · refine a_iconst C (v := (0 : Int32)) (q := 12) dX7_may_11 rfl (by decide) ?_
    refine a_istore_n C (i := 2) (q := 13) (lv' := [(2, .int (0 : Int32)), (0, .ref (G.2.1 0)), (1, .int v1)]) dX7_may_12 rfl (by decide) rfl rfl ?_
    refine a_iconst C (v := (0 : Int32)) (q := 14) dX7_may_13 rfl (by decide) ?_
    refine a_istore_n C (i := 3) (q := 15) (lv' := [(3, .int (0 : Int32)), (2, .int (0 : Int32)), (0, .ref (G.2.1 0)), (1, .int v1)]) dX7_may_14 rfl (by decide) rfl rfl ?_
    obtain ⟨v2_8, t_9, h1, hf⟩ := b2_some hf
    refine a_sub [2, 3, 1, 0] rfl (lp_X7_may_15 C hR n r v1  (0 : Int32) (0 : Int32) t _ h1 ?_)
    show At F G Q 5 114 [(2, .int v2_8)] [] (t_9, r)
    refine a_iload_n C (i := 2) (q := 115) dX7_may_114 rfl 0 rfl rfl ?_
    have hf := Option.some.inj hf; subst hf
    exact (show RetI F G Q cX7_may 5 .int v2_8 (t_9, r) from hK) rfl _ _ dX7_may_115
  · refine a_iload_n C (i := 1) (q := 5) dX7_may_4 rfl 1 rfl rfl ?_
    refine a_iconst C (v := (1 : Int32)) (q := 6) dX7_may_5 rfl (by decide) ?_
    refine a_icmp_eq C (tgt := 11) (q := 9) dX7_may_6 hf (by decide) rfl (fun hf => ?_) (fun hf => ?_)
    · refine a_iconst C (v := (0 : Int32)) (q := 12) dX7_may_11 rfl (by decide) ?_
      refine a_istore_n C (i := 2) (q := 13) (lv' := [(2, .int (0 : Int32)), (0, .ref (G.2.1 0)), (1, .int v1)]) dX7_may_12 rfl (by decide) rfl rfl ?_
      refine a_iconst C (v := (0 : Int32)) (q := 14) dX7_may_13 rfl (by decide) ?_
      refine a_istore_n C (i := 3) (q := 15) (lv' := [(3, .int (0 : Int32)), (2, .int (0 : Int32)), (0, .ref (G.2.1 0)), (1, .int v1)]) dX7_may_14 rfl (by decide) rfl rfl ?_
      obtain ⟨v2_10, t_11, h1, hf⟩ := b2_some hf
      refine a_sub [2, 3, 1, 0] rfl (lp_X7_may_15 C hR n r v1  (0 : Int32) (0 : Int32) t _ h1 ?_)
      show At F G Q 5 114 [(2, .int v2_10)] [] (t_11, r)
      refine a_iload_n C (i := 2) (q := 115) dX7_may_114 rfl 0 rfl rfl ?_
      have hf := Option.some.inj hf; subst hf
      exact (show RetI F G Q cX7_may 5 .int v2_10 (t_11, r) from hK) rfl _ _ dX7_may_115
    · refine a_iconst C (v := (-1 : Int32)) (q := 10) dX7_may_9 rfl (by decide) ?_
      have hf := Option.some.inj hf; subst hf
      exact (show RetI F G Q cX7_may 5 .int (-1 : Int32) (t, r) from hK) rfl _ _ dX7_may_10
theorem c_X7_may (l : Launch) (G : GX) (n : Nat) (t : MM) (r : SR) (v1 : Int32) (res : Int32 × MM) (hf : f_X7_may n t v1 = some res) : MetC l G yX7_may cX7_may 5 (some .int) 6 (t, r) [.ref (G.2.1 0), .int v1] (PostI G res.1 (res.2, r)) :=
  m_I (by decide) (Nat.le_of_ble_eq_true rfl) (fun F Q C h1 h2 h3 hK => w_X7_may_e C (Rm.of h1 h3) n t r v1 res hf hK)
theorem cw_X7_canBeAskedFor : CwV RX7 yX7_canBeAskedFor cX7_canBeAskedFor 3 2 (some .boolean) := ⟨k_578, k_577, kp_7, k_1, by decide +kernel, by decide⟩
def f_X7_canBeAskedFor (n : Nat) (t : MM) (v1 : Int32) (v2 : Int32) : Option (Int32) :=
  (if v2 < 0 then some (0 : Int32) else (if (2 : Int32) < v2 then some (0 : Int32) else (if v1 = 0 then some (0 : Int32) else b1 (f_J6_bitCount_0f7a4 v1) (fun y_1 => (if (4 : Int32) < y_1 then some (0 : Int32) else b1 (f_X6_whoIsAt n t (12 : Int32)) (fun y_2 => (if (v1 &&& (y_2 ^^^ (-1 : Int32))) = 0 then some (1 : Int32) else some (0 : Int32))))))))
set_option maxHeartbeats 4000000 in
theorem w_X7_canBeAskedFor_e {F : FX} {G : GX} {Q : State → Prop} (C : Cx F G cX7_canBeAskedFor 3 RX7) (hR : Rm F 3) (n : Nat) (t : MM) (r : SR)  (v1 : Int32) (v2 : Int32) (res : Int32) (hf : f_X7_canBeAskedFor n t v1 v2 = some res) (hK : RetI F G Q cX7_canBeAskedFor 3 .boolean res (t, r)) : At F G Q 3 0 [(0, .ref (G.2.1 0)), (1, .int v1), (2, .int v2)] [] (t, r) := by
  unfold f_X7_canBeAskedFor at hf
  refine a_iload_n C (i := 2) (q := 1) dX7_canBeAskedFor_0 rfl 2 rfl rfl ?_
  refine a_if_lt C (tgt := 41) (q := 4) dX7_canBeAskedFor_1 hf (by decide) rfl (fun hf => ?_) (fun hf => ?_)
  · refine a_iconst C (v := (0 : Int32)) (q := 42) dX7_canBeAskedFor_41 rfl (by decide) ?_
    have hf := Option.some.inj hf; subst hf
    exact (show RetI F G Q cX7_canBeAskedFor 3 .boolean (0 : Int32) (t, r) from hK) rfl _ _ dX7_canBeAskedFor_42
  · refine a_iload_n C (i := 2) (q := 5) dX7_canBeAskedFor_4 rfl 2 rfl rfl ?_
    refine a_iconst C (v := (2 : Int32)) (q := 6) dX7_canBeAskedFor_5 rfl (by decide) ?_
    refine a_icmp_gt C (tgt := 41) (q := 9) dX7_canBeAskedFor_6 hf (by decide) rfl (fun hf => ?_) (fun hf => ?_)
    · refine a_iconst C (v := (0 : Int32)) (q := 42) dX7_canBeAskedFor_41 rfl (by decide) ?_
      have hf := Option.some.inj hf; subst hf
      exact (show RetI F G Q cX7_canBeAskedFor 3 .boolean (0 : Int32) (t, r) from hK) rfl _ _ dX7_canBeAskedFor_42
    · refine a_iload_n C (i := 1) (q := 10) dX7_canBeAskedFor_9 rfl 1 rfl rfl ?_
      refine a_if_eq C (tgt := 41) (q := 13) dX7_canBeAskedFor_10 hf (by decide) rfl (fun hf => ?_) (fun hf => ?_)
      · refine a_iconst C (v := (0 : Int32)) (q := 42) dX7_canBeAskedFor_41 rfl (by decide) ?_
        have hf := Option.some.inj hf; subst hf
        exact (show RetI F G Q cX7_canBeAskedFor 3 .boolean (0 : Int32) (t, r) from hK) rfl _ _ dX7_canBeAskedFor_42
      · refine a_iload_n C (i := 1) (q := 14) dX7_canBeAskedFor_13 rfl 1 rfl rfl ?_
        refine a_callSI C (q := 17) (As := [.int v1]) (st := []) dX7_canBeAskedFor_14 hR (by decide) hf (fun b => b) (fun _ => (t, r)) cw_J6_bitCount_0f7a4 (fun b hb => c_J6_bitCount_0f7a4 _ G t r v1 b hb) rfl rfl (Nat.le_of_ble_eq_true rfl) k_579 rfl (fun y_1 hf => ?_)
        refine a_iconst C (v := (4 : Int32)) (q := 18) dX7_canBeAskedFor_17 rfl (by decide) ?_
        refine a_icmp_gt C (tgt := 41) (q := 21) dX7_canBeAskedFor_18 hf (by decide) rfl (fun hf => ?_) (fun hf => ?_)
        · refine a_iconst C (v := (0 : Int32)) (q := 42) dX7_canBeAskedFor_41 rfl (by decide) ?_
          have hf := Option.some.inj hf; subst hf
          exact (show RetI F G Q cX7_canBeAskedFor 3 .boolean (0 : Int32) (t, r) from hK) rfl _ _ dX7_canBeAskedFor_42
        · refine a_iload_n C (i := 1) (q := 22) dX7_canBeAskedFor_21 rfl 1 rfl rfl ?_
          refine a_aload_n C (i := 0) (q := 23) dX7_canBeAskedFor_22 rfl 0 rfl rfl ?_
          refine a_get7 C (q := 26) dX7_canBeAskedFor_23 0 (by decide) k_213 (by decide) rfl rfl rfl ?_
          refine a_bipush C (v := (12 : Int32)) (q := 28) dX7_canBeAskedFor_26 rfl (by decide) ?_
          refine a_callVI C (q := 31) (As := [.int (12 : Int32)]) (st := [.int v1]) dX7_canBeAskedFor_28 hR (by decide) hf (fun b => b) (fun _ => (t, r)) (by decide) rfl rfl cw_X6_whoIsAt (fun b hb => c_X6_whoIsAt _ G n t r (12 : Int32) b hb) rfl rfl (Nat.le_of_ble_eq_true rfl) k_264 rfl (fun y_2 hf => ?_)
          refine a_iconst C (v := (-1 : Int32)) (q := 32) dX7_canBeAskedFor_31 rfl (by decide) ?_
          refine a_ixor C (q := 33) dX7_canBeAskedFor_32 rfl ?_
          refine a_iand C (q := 34) dX7_canBeAskedFor_33 rfl ?_
          refine a_if_ne C (tgt := 41) (q := 37) dX7_canBeAskedFor_34 hf (by decide) rfl (fun hf => ?_) (fun hf => ?_)
          · refine a_iconst C (v := (0 : Int32)) (q := 42) dX7_canBeAskedFor_41 rfl (by decide) ?_
            have hf := Option.some.inj hf; subst hf
            exact (show RetI F G Q cX7_canBeAskedFor 3 .boolean (0 : Int32) (t, r) from hK) rfl _ _ dX7_canBeAskedFor_42
          · refine a_iconst C (v := (1 : Int32)) (q := 38) dX7_canBeAskedFor_37 rfl (by decide) ?_
            refine a_goto C (q := 42) dX7_canBeAskedFor_38 (by decide) ?_
            have hf := Option.some.inj hf; subst hf
            exact (show RetI F G Q cX7_canBeAskedFor 3 .boolean (1 : Int32) (t, r) from hK) rfl _ _ dX7_canBeAskedFor_42
theorem c_X7_canBeAskedFor (l : Launch) (G : GX) (n : Nat) (t : MM) (r : SR) (v1 : Int32) (v2 : Int32) (res : Int32) (hf : f_X7_canBeAskedFor n t v1 v2 = some res) : MetC l G yX7_canBeAskedFor cX7_canBeAskedFor 3 (some .boolean) 3 (t, r) [.ref (G.2.1 0), .int v1, .int v2] (PostI G res (t, r)) :=
  m_I (by decide) (Nat.le_of_ble_eq_true rfl) (fun F Q C h1 h2 h3 hK => w_X7_canBeAskedFor_e C (Rm.of h1 h3) n t r v1 v2 res hf hK)
theorem cw_X7_soonest : CwV RX7 yX7_soonest cX7_soonest 3 2 (some .int) := ⟨k_574, k_572, k_573, k_1, by decide +kernel, by decide⟩
def f_X7_soonest (n : Nat) (t : MM) (v1 : Int32) (v2 : Int32) : Option (Int32 × MM) :=
  b1 (f_X7_canBeAskedFor n t v1 v2) (fun y_1 => (if y_1 = 0 then some ((-1 : Int32), t) else b1 (f_X0_search n t v1 v2) (fun y_2 => (if y_2.1 = 0 then some ((-4 : Int32), y_2.2) else b1 (f_X0_soonestMinute y_2.2) (fun y_3 => some (y_3, y_2.2))))))
set_option maxHeartbeats 4000000 in
theorem w_X7_soonest_e {F : FX} {G : GX} {Q : State → Prop} (C : Cx F G cX7_soonest 3 RX7) (hR : Rm F 33) (n : Nat) (t : MM) (r : SR)  (v1 : Int32) (v2 : Int32) (res : Int32 × MM) (hf : f_X7_soonest n t v1 v2 = some res) (hK : RetI F G Q cX7_soonest 3 .int res.1 (res.2, r)) : At F G Q 3 0 [(0, .ref (G.2.1 0)), (1, .int v1), (2, .int v2)] [] (t, r) := by
  unfold f_X7_soonest at hf
  refine a_aload_n C (i := 0) (q := 1) dX7_soonest_0 rfl 0 rfl rfl ?_
  refine a_iload_n C (i := 1) (q := 2) dX7_soonest_1 rfl 1 rfl rfl ?_
  refine a_iload_n C (i := 2) (q := 3) dX7_soonest_2 rfl 2 rfl rfl ?_
  refine a_callVI C (q := 6) (As := [.int v1, .int v2]) (st := []) dX7_soonest_3 hR (by decide) hf (fun b => b) (fun _ => (t, r)) (by decide) rfl rfl cw_X7_canBeAskedFor (fun b hb => c_X7_canBeAskedFor _ G n t r v1 v2 b hb) rfl rfl (Nat.le_of_ble_eq_true rfl) k_575 rfl (fun y_1 hf => ?_)
  refine a_if_ne C (tgt := 11) (q := 9) dX7_soonest_6 hf (by decide) rfl (fun hf => ?_) (fun hf => ?_)
  · refine a_aload_n C (i := 0) (q := 12) dX7_soonest_11 rfl 0 rfl rfl ?_
    refine a_get7 C (q := 15) dX7_soonest_12 3 (by decide) k_216 (by decide) rfl rfl rfl ?_
    refine a_iload_n C (i := 1) (q := 16) dX7_soonest_15 rfl 1 rfl rfl ?_
    refine a_iload_n C (i := 2) (q := 17) dX7_soonest_16 rfl 2 rfl rfl ?_
    refine a_callVI C (q := 20) (As := [.int v1, .int v2]) (st := []) dX7_soonest_17 hR (by decide) hf (fun b => b.1) (fun b => (b.2, r)) (by decide) rfl rfl cw_X0_search (fun b hb => c_X0_search _ G n t r v1 v2 b hb) rfl rfl (Nat.le_of_ble_eq_true rfl) k_585 rfl (fun y_2 hf => ?_)
    refine a_if_eq C (tgt := 33) (q := 23) dX7_soonest_20 hf (by decide) rfl (fun hf => ?_) (fun hf => ?_)
    · refine a_bipush C (v := (-4 : Int32)) (q := 35) dX7_soonest_33 rfl (by decide) ?_
      have hf := Option.some.inj hf; subst hf
      exact (show RetI F G Q cX7_soonest 3 .int (-4 : Int32) (y_2.2, r) from hK) rfl _ _ dX7_soonest_35
    · refine a_aload_n C (i := 0) (q := 24) dX7_soonest_23 rfl 0 rfl rfl ?_
      refine a_get7 C (q := 27) dX7_soonest_24 3 (by decide) k_216 (by decide) rfl rfl rfl ?_
      refine a_callVI C (q := 30) (As := []) (st := []) dX7_soonest_27 hR (by decide) hf (fun b => b) (fun _ => (y_2.2, r)) (by decide) rfl rfl cw_X0_soonestMinute (fun b hb => c_X0_soonestMinute _ G y_2.2 r b hb) rfl rfl (Nat.le_of_ble_eq_true rfl) k_619 rfl (fun y_3 hf => ?_)
      refine a_goto C (q := 35) dX7_soonest_30 (by decide) ?_
      have hf := Option.some.inj hf; subst hf
      exact (show RetI F G Q cX7_soonest 3 .int y_3 (y_2.2, r) from hK) rfl _ _ dX7_soonest_35
  · refine a_iconst C (v := (-1 : Int32)) (q := 10) dX7_soonest_9 rfl (by decide) ?_
    have hf := Option.some.inj hf; subst hf
    exact (show RetI F G Q cX7_soonest 3 .int (-1 : Int32) (t, r) from hK) rfl _ _ dX7_soonest_10
theorem c_X7_soonest (l : Launch) (G : GX) (n : Nat) (t : MM) (r : SR) (v1 : Int32) (v2 : Int32) (res : Int32 × MM) (hf : f_X7_soonest n t v1 v2 = some res) : MetC l G yX7_soonest cX7_soonest 3 (some .int) 33 (t, r) [.ref (G.2.1 0), .int v1, .int v2] (PostI G res.1 (res.2, r)) :=
  m_I (by decide) (Nat.le_of_ble_eq_true rfl) (fun F Q C h1 h2 h3 hK => w_X7_soonest_e C (Rm.of h1 h3) n t r v1 v2 res hf hK)
theorem cw_X7_when : CwV RX7 yX7_when cX7_when 4 3 (some .int) := ⟨k_626, k_624, k_625, k_1, by decide +kernel, by decide⟩
def f_X7_when (n : Nat) (t : MM) (v1 : Int32) (v2 : Int32) (v3 : Int32) : Option (Int32 × MM) :=
  b1 (f_X7_canBeAskedFor n t v1 v2) (fun y_1 => (if y_1 = 0 then some ((-1 : Int32), t) else b1 (f_X6_has t v3) (fun y_2 => (if y_2 = 0 then some ((-1 : Int32), t) else (if ((v1 >>> (v3 &&& 31)) &&& (1 : Int32)) = 0 then some ((-1 : Int32), t) else b1 (f_X0_search n t v1 v2) (fun y_3 => (if y_3.1 = 0 then some ((-4 : Int32), y_3.2) else b1 (f_X0_minuteOf y_3.2 v3) (fun y_4 => some (y_4, y_3.2)))))))))
set_option maxHeartbeats 4000000 in
theorem w_X7_when_e {F : FX} {G : GX} {Q : State → Prop} (C : Cx F G cX7_when 4 RX7) (hR : Rm F 33) (n : Nat) (t : MM) (r : SR)  (v1 : Int32) (v2 : Int32) (v3 : Int32) (res : Int32 × MM) (hf : f_X7_when n t v1 v2 v3 = some res) (hK : RetI F G Q cX7_when 4 .int res.1 (res.2, r)) : At F G Q 4 0 [(0, .ref (G.2.1 0)), (1, .int v1), (2, .int v2), (3, .int v3)] [] (t, r) := by
  unfold f_X7_when at hf
  refine a_aload_n C (i := 0) (q := 1) dX7_when_0 rfl 0 rfl rfl ?_
  refine a_iload_n C (i := 1) (q := 2) dX7_when_1 rfl 1 rfl rfl ?_
  refine a_iload_n C (i := 2) (q := 3) dX7_when_2 rfl 2 rfl rfl ?_
  refine a_callVI C (q := 6) (As := [.int v1, .int v2]) (st := []) dX7_when_3 hR (by decide) hf (fun b => b) (fun _ => (t, r)) (by decide) rfl rfl cw_X7_canBeAskedFor (fun b hb => c_X7_canBeAskedFor _ G n t r v1 v2 b hb) rfl rfl (Nat.le_of_ble_eq_true rfl) k_575 rfl (fun y_1 hf => ?_)
  refine a_if_eq C (tgt := 28) (q := 9) dX7_when_6 hf (by decide) rfl (fun hf => ?_) (fun hf => ?_)
  · refine a_iconst C (v := (-1 : Int32)) (q := 29) dX7_when_28 rfl (by decide) ?_
    have hf := Option.some.inj hf; subst hf
    exact (show RetI F G Q cX7_when 4 .int (-1 : Int32) (t, r) from hK) rfl _ _ dX7_when_29
  · refine a_aload_n C (i := 0) (q := 10) dX7_when_9 rfl 0 rfl rfl ?_
    refine a_get7 C (q := 13) dX7_when_10 0 (by decide) k_213 (by decide) rfl rfl rfl ?_
    refine a_iload_n C (i := 3) (q := 14) dX7_when_13 rfl 3 rfl rfl ?_
    refine a_callVI C (q := 17) (As := [.int v3]) (st := []) dX7_when_14 hR (by decide) hf (fun b => b) (fun _ => (t, r)) (by decide) rfl rfl cw_X6_has (fun b hb => c_X6_has _ G t r v3 b hb) rfl rfl (Nat.le_of_ble_eq_true rfl) k_256 rfl (fun y_2 hf => ?_)
    refine a_if_eq C (tgt := 28) (q := 20) dX7_when_17 hf (by decide) rfl (fun hf => ?_) (fun hf => ?_)
    · refine a_iconst C (v := (-1 : Int32)) (q := 29) dX7_when_28 rfl (by decide) ?_
      have hf := Option.some.inj hf; subst hf
      exact (show RetI F G Q cX7_when 4 .int (-1 : Int32) (t, r) from hK) rfl _ _ dX7_when_29
    · refine a_iload_n C (i := 1) (q := 21) dX7_when_20 rfl 1 rfl rfl ?_
      refine a_iload_n C (i := 3) (q := 22) dX7_when_21 rfl 3 rfl rfl ?_
      refine a_ishr C (q := 23) dX7_when_22 rfl ?_
      refine a_iconst C (v := (1 : Int32)) (q := 24) dX7_when_23 rfl (by decide) ?_
      refine a_iand C (q := 25) dX7_when_24 rfl ?_
      refine a_if_ne C (tgt := 30) (q := 28) dX7_when_25 hf (by decide) rfl (fun hf => ?_) (fun hf => ?_)
      · refine a_aload_n C (i := 0) (q := 31) dX7_when_30 rfl 0 rfl rfl ?_
        refine a_get7 C (q := 34) dX7_when_31 3 (by decide) k_216 (by decide) rfl rfl rfl ?_
        refine a_iload_n C (i := 1) (q := 35) dX7_when_34 rfl 1 rfl rfl ?_
        refine a_iload_n C (i := 2) (q := 36) dX7_when_35 rfl 2 rfl rfl ?_
        refine a_callVI C (q := 39) (As := [.int v1, .int v2]) (st := []) dX7_when_36 hR (by decide) hf (fun b => b.1) (fun b => (b.2, r)) (by decide) rfl rfl cw_X0_search (fun b hb => c_X0_search _ G n t r v1 v2 b hb) rfl rfl (Nat.le_of_ble_eq_true rfl) k_585 rfl (fun y_3 hf => ?_)
        refine a_if_eq C (tgt := 53) (q := 42) dX7_when_39 hf (by decide) rfl (fun hf => ?_) (fun hf => ?_)
        · refine a_bipush C (v := (-4 : Int32)) (q := 55) dX7_when_53 rfl (by decide) ?_
          have hf := Option.some.inj hf; subst hf
          exact (show RetI F G Q cX7_when 4 .int (-4 : Int32) (y_3.2, r) from hK) rfl _ _ dX7_when_55
        · refine a_aload_n C (i := 0) (q := 43) dX7_when_42 rfl 0 rfl rfl ?_
          refine a_get7 C (q := 46) dX7_when_43 3 (by decide) k_216 (by decide) rfl rfl rfl ?_
          refine a_iload_n C (i := 3) (q := 47) dX7_when_46 rfl 3 rfl rfl ?_
          refine a_callVI C (q := 50) (As := [.int v3]) (st := []) dX7_when_47 hR (by decide) hf (fun b => b) (fun _ => (y_3.2, r)) (by decide) rfl rfl cw_X0_minuteOf (fun b hb => c_X0_minuteOf _ G y_3.2 r v3 b hb) rfl rfl (Nat.le_of_ble_eq_true rfl) k_627 rfl (fun y_4 hf => ?_)
          refine a_goto C (q := 55) dX7_when_50 (by decide) ?_
          have hf := Option.some.inj hf; subst hf
          exact (show RetI F G Q cX7_when 4 .int y_4 (y_3.2, r) from hK) rfl _ _ dX7_when_55
      · refine a_iconst C (v := (-1 : Int32)) (q := 29) dX7_when_28 rfl (by decide) ?_
        have hf := Option.some.inj hf; subst hf
        exact (show RetI F G Q cX7_when 4 .int (-1 : Int32) (t, r) from hK) rfl _ _ dX7_when_29
theorem c_X7_when (l : Launch) (G : GX) (n : Nat) (t : MM) (r : SR) (v1 : Int32) (v2 : Int32) (v3 : Int32) (res : Int32 × MM) (hf : f_X7_when n t v1 v2 v3 = some res) : MetC l G yX7_when cX7_when 4 (some .int) 33 (t, r) [.ref (G.2.1 0), .int v1, .int v2, .int v3] (PostI G res.1 (res.2, r)) :=
  m_I (by decide) (Nat.le_of_ble_eq_true rfl) (fun F Q C h1 h2 h3 hK => w_X7_when_e C (Rm.of h1 h3) n t r v1 v2 v3 res hf hK)
theorem cw_X7_empty : CwV RX7 yX7_empty cX7_empty 1 0 (some .int) := ⟨k_634, k_632, k_633, k_1, by decide +kernel, by decide⟩
def f_X7_empty (n : Nat) (t : MM) : Option (Int32 × MM) :=
  b1 (f_X1_fewestMinutes n t) (fun y_1 => some (y_1.1, y_1.2))
set_option maxHeartbeats 4000000 in
theorem w_X7_empty_e {F : FX} {G : GX} {Q : State → Prop} (C : Cx F G cX7_empty 1 RX7) (hR : Rm F 8) (n : Nat) (t : MM) (r : SR)   (res : Int32 × MM) (hf : f_X7_empty n t = some res) (hK : RetI F G Q cX7_empty 1 .int res.1 (res.2, r)) : At F G Q 1 0 [(0, .ref (G.2.1 0))] [] (t, r) := by
  unfold f_X7_empty at hf
  refine a_aload_n C (i := 0) (q := 1) dX7_empty_0 rfl 0 rfl rfl ?_
  refine a_get7 C (q := 4) dX7_empty_1 4 (by decide) k_217 (by decide) rfl rfl rfl ?_
  refine a_callVI C (q := 7) (As := []) (st := []) dX7_empty_4 hR (by decide) hf (fun b => b.1) (fun b => (b.2, r)) (by decide) rfl rfl cw_X1_fewestMinutes (fun b hb => c_X1_fewestMinutes _ G n t r b hb) rfl rfl (Nat.le_of_ble_eq_true rfl) k_635 rfl (fun y_1 hf => ?_)
  have hf := Option.some.inj hf; subst hf
  exact (show RetI F G Q cX7_empty 1 .int y_1.1 (y_1.2, r) from hK) rfl _ _ dX7_empty_7
theorem c_X7_empty (l : Launch) (G : GX) (n : Nat) (t : MM) (r : SR)  (res : Int32 × MM) (hf : f_X7_empty n t = some res) : MetC l G yX7_empty cX7_empty 1 (some .int) 8 (t, r) [.ref (G.2.1 0)] (PostI G res.1 (res.2, r)) :=
  m_I (by decide) (Nat.le_of_ble_eq_true rfl) (fun F Q C h1 h2 h3 hK => w_X7_empty_e C (Rm.of h1 h3) n t r res hf hK)
theorem cw_X7_helpsBySand : CwV RX7 yX7_helpsBySand cX7_helpsBySand 4 2 (some .boolean) := ⟨k_671, k_670, kp_16, k_1, by decide +kernel, by decide⟩
def f_X7_helpsBySand (t : MM) (v1 : Int32) (v2 : Int32) : Option (Int32 × MM) :=
  ix v1 12 ((if ((t 6 v1.toNatClampNeg) + v2) ≤ (99 : Int32) then b1 (f_X2_hang t 28 v1 v2) (fun y_1 => b1 (f_X2_isEvenWithin y_1 28 (y_1 1 7)) (fun y_2 => b1 (f_X2_hang y_1 28 v1 (-v2)) (fun y_3 => bz y_2 (some (y_2, y_3))))) else some ((0 : Int32), t)))
set_option maxHeartbeats 4000000 in
theorem w_X7_helpsBySand_e {F : FX} {G : GX} {Q : State → Prop} (C : Cx F G cX7_helpsBySand 4 RX7) (hR : Rm F 4) (t : MM) (r : SR)  (v1 : Int32) (v2 : Int32) (res : Int32 × MM) (hf : f_X7_helpsBySand t v1 v2 = some res) (hK : RetI F G Q cX7_helpsBySand 4 .boolean res.1 (res.2, r)) : At F G Q 4 0 [(0, .ref (G.2.1 0)), (1, .int v1), (2, .int v2)] [] (t, r) := by
  unfold f_X7_helpsBySand at hf
  refine a_aload_n C (i := 0) (q := 1) dX7_helpsBySand_0 rfl 0 rfl rfl ?_
  refine a_get7 C (q := 4) dX7_helpsBySand_1 0 (by decide) k_213 (by decide) rfl rfl rfl ?_
  refine a_get6 C (q := 7) dX7_helpsBySand_4 4 (by decide) k_43 (by decide) rfl rfl rfl ?_
  refine a_iload_n C (i := 1) (q := 8) dX7_helpsBySand_7 rfl 1 rfl rfl ?_
  refine a_iald C (q := 9) (g := t 6) dX7_helpsBySand_8 hf (by decide) rfl rfl (fun hf => ?_)
  refine a_iload_n C (i := 2) (q := 10) dX7_helpsBySand_9 rfl 2 rfl rfl ?_
  refine a_iadd C (q := 11) dX7_helpsBySand_10 rfl ?_
  refine a_bipush C (v := (99 : Int32)) (q := 13) dX7_helpsBySand_11 rfl (by decide) ?_
  refine a_icmp_le C (tgt := 18) (q := 16) dX7_helpsBySand_13 hf (by decide) rfl (fun hf => ?_) (fun hf => ?_)
  · refine a_aload_n C (i := 0) (q := 19) dX7_helpsBySand_18 rfl 0 rfl rfl ?_
    refine a_get7 C (q := 22) dX7_helpsBySand_19 6 (by decide) k_219 (by decide) rfl rfl rfl ?_
    refine a_iload_n C (i := 1) (q := 23) dX7_helpsBySand_22 rfl 1 rfl rfl ?_
    refine a_iload_n C (i := 2) (q := 24) dX7_helpsBySand_23 rfl 2 rfl rfl ?_
    refine a_callVV C (q := 27) (As := [.int v1, .int v2]) (st := []) dX7_helpsBySand_24 hR (by decide) hf (fun b => (b, r)) (by decide) rfl rfl cw_X2_hang (fun b hb => c_X2_hang _ G t r 28 v1 v2 (by unfold isBal; decide) b hb) rfl rfl (Nat.le_of_ble_eq_true rfl) k_667 rfl (fun y_1 hf => ?_)
    refine a_aload_n C (i := 0) (q := 28) dX7_helpsBySand_27 rfl 0 rfl rfl ?_
    refine a_get7 C (q := 31) dX7_helpsBySand_28 6 (by decide) k_219 (by decide) rfl rfl rfl ?_
    refine a_aload_n C (i := 0) (q := 32) dX7_helpsBySand_31 rfl 0 rfl rfl ?_
    refine a_get7 C (q := 35) dX7_helpsBySand_32 0 (by decide) k_213 (by decide) rfl rfl rfl ?_
    refine a_get6 C (q := 38) dX7_helpsBySand_35 7 (by decide) k_49 (by decide) rfl rfl rfl ?_
    refine a_callVI C (q := 41) (As := [.int (y_1 1 7)]) (st := []) dX7_helpsBySand_38 hR (by decide) hf (fun b => b) (fun _ => (y_1, r)) (by decide) rfl rfl cw_X2_isEvenWithin (fun b hb => c_X2_isEvenWithin _ G y_1 r 28 (y_1 1 7) (by unfold isBal; decide) b hb) rfl rfl (Nat.le_of_ble_eq_true rfl) k_319 rfl (fun y_2 hf => ?_)
    refine a_istore_n C (i := 3) (q := 42) (lv' := [(3, .int y_2), (0, .ref (G.2.1 0)), (1, .int v1), (2, .int v2)]) dX7_helpsBySand_41 rfl (by decide) rfl rfl ?_
    refine a_aload_n C (i := 0) (q := 43) dX7_helpsBySand_42 rfl 1 rfl rfl ?_
    refine a_get7 C (q := 46) dX7_helpsBySand_43 6 (by decide) k_219 (by decide) rfl rfl rfl ?_
    refine a_iload_n C (i := 1) (q := 47) dX7_helpsBySand_46 rfl 2 rfl rfl ?_
    refine a_iload_n C (i := 2) (q := 48) dX7_helpsBySand_47 rfl 3 rfl rfl ?_
    refine a_ineg C (q := 49) dX7_helpsBySand_48 rfl ?_
    refine a_callVV C (q := 52) (As := [.int v1, .int (-v2)]) (st := []) dX7_helpsBySand_49 hR (by decide) hf (fun b => (b, r)) (by decide) rfl rfl cw_X2_hang (fun b hb => c_X2_hang _ G y_1 r 28 v1 (-v2) (by unfold isBal; decide) b hb) rfl rfl (Nat.le_of_ble_eq_true rfl) k_667 rfl (fun y_3 hf => ?_)
    refine a_iload_n C (i := 3) (q := 53) dX7_helpsBySand_52 rfl 0 rfl rfl ?_
    obtain ⟨hz, hf⟩ := bz_some hf
    have hf := Option.some.inj hf; subst hf
    exact (show RetI F G Q cX7_helpsBySand 4 .boolean y_2 (y_3, r) from hK) hz _ _ dX7_helpsBySand_53
  · refine a_iconst C (v := (0 : Int32)) (q := 17) dX7_helpsBySand_16 rfl (by decide) ?_
    have hf := Option.some.inj hf; subst hf
    exact (show RetI F G Q cX7_helpsBySand 4 .boolean (0 : Int32) (t, r) from hK) rfl _ _ dX7_helpsBySand_17
theorem c_X7_helpsBySand (l : Launch) (G : GX) (t : MM) (r : SR) (v1 : Int32) (v2 : Int32) (res : Int32 × MM) (hf : f_X7_helpsBySand t v1 v2 = some res) : MetC l G yX7_helpsBySand cX7_helpsBySand 4 (some .boolean) 4 (t, r) [.ref (G.2.1 0), .int v1, .int v2] (PostI G res.1 (res.2, r)) :=
  m_I (by decide) (Nat.le_of_ble_eq_true rfl) (fun F Q C h1 h2 h3 hK => w_X7_helpsBySand_e C (Rm.of h1 h3) t r v1 v2 res hf hK)
theorem cw_X7_least : CwV RX7 yX7_least cX7_least 6 2 (some .int) := ⟨k_665, k_663, k_664, k_1, by decide +kernel, by decide⟩
def P_X7_least_86 (F : FX) (G : GX) (Q : State → Prop) (r : SR) (v2 : Int32) (v4 : Int32) (t : MM) : Prop := At F G Q 6 86 [(0, .ref (G.2.1 0)), (2, .int v2), (4, .int v4)] [] (t, r)
def E_X7_least_86 (F : FX) (G : GX) (Q : State → Prop) (r : SR) (v2 : Int32) : (Int32 × MM) ⊕ (MM) → Prop := fun q => match q with
  | .inl y => RetI F G Q cX7_least 6 .int y.1 (y.2, r)
  | .inr t => At F G Q 6 138 [] [] (t, r)
def P_X7_least_96 (F : FX) (G : GX) (Q : State → Prop) (r : SR) (v2 : Int32) (v4 : Int32) (v5 : Int32) (t : MM) : Prop := At F G Q 6 96 [(0, .ref (G.2.1 0)), (2, .int v2), (4, .int v4), (5, .int v5)] [] (t, r)
def E_X7_least_96 (F : FX) (G : GX) (Q : State → Prop) (r : SR) (v2 : Int32) (v4 : Int32) : (Int32 × MM) ⊕ (MM) → Prop := fun q => match q with
  | .inl y => RetI F G Q cX7_least 6 .int y.1 (y.2, r)
  | .inr t => At F G Q 6 132 [(0, .ref (G.2.1 0)), (2, .int v2), (4, .int v4)] [] (t, r)
def lb_X7_least_96 (n : Nat) (v2 : Int32) (v4 : Int32) (v5 : Int32) (t : MM) : Option (((Int32 × MM) ⊕ (MM)) ⊕ (Int32 × MM)) :=
  (if (12 : Int32) ≤ v5 then some (.inl (.inr t)) else b1 (f_X7_helpsBySand t v5 v4) (fun y_7 => (if y_7.1 = 0 then nm (v5 + 1) (fun v5_8 => some (.inr (v5_8, y_7.2))) else (if v2 = 0 then some (.inl (.inl (v4, y_7.2))) else some (.inl (.inl (v5, y_7.2)))))))
set_option maxHeartbeats 4000000 in
theorem w_X7_least_96 {F : FX} {G : GX} {Q : State → Prop} (C : Cx F G cX7_least 6 RX7) (hR : Rm F 5) (n : Nat) (r : SR) (v2 : Int32) (v4 : Int32)  (v5 : Int32) (t : MM) (res : ((Int32 × MM) ⊕ (MM)) ⊕ (Int32 × MM)) (hf : lb_X7_least_96 n v2 v4 v5 t = some res) (hK : Sum.elim (E_X7_least_96 F G Q r v2 v4) (fun q => match q with | (v5, t) => P_X7_least_96 F G Q r v2 v4 v5 t) res) : P_X7_least_96 F G Q r v2 v4 v5 t := by
  unfold lb_X7_least_96 at hf
  show At F G Q 6 96 [(0, .ref (G.2.1 0)), (2, .int v2), (4, .int v4), (5, .int v5)] [] (t, r)
  refine a_iload C (i := 5) (q := 98) dX7_least_96 rfl 3 rfl ?_
  refine a_bipush C (v := (12 : Int32)) (q := 100) dX7_least_98 rfl (by decide) ?_
  refine a_icmp_ge C (tgt := 132) (q := 103) dX7_least_100 hf (by decide) rfl (fun hf => ?_) (fun hf => ?_)
  · have hf := Option.some.inj hf; subst hf
    exact a_sub [0, 1, 2] rfl (show At F G Q 6 132 [(0, .ref (G.2.1 0)), (2, .int v2), (4, .int v4)] [] (t, r) from hK)
  · refine a_aload_n C (i := 0) (q := 104) dX7_least_103 rfl 0 rfl rfl ?_
    refine a_iload C (i := 5) (q := 106) dX7_least_104 rfl 3 rfl ?_
    refine a_iload C (i := 4) (q := 108) dX7_least_106 rfl 2 rfl ?_
    refine a_callVI C (q := 111) (As := [.int v5, .int v4]) (st := []) dX7_least_108 hR (by decide) hf (fun b => b.1) (fun b => (b.2, r)) (by decide) rfl rfl cw_X7_helpsBySand (fun b hb => c_X7_helpsBySand _ G t r v5 v4 b hb) rfl rfl (Nat.le_of_ble_eq_true rfl) k_668 rfl (fun y_7 hf => ?_)
    refine a_if_eq C (tgt := 126) (q := 114) dX7_least_111 hf (by decide) rfl (fun hf => ?_) (fun hf => ?_)
    · refine a_iincN C (i := 5) (k := 3) (q := 129) (lv' := fun z => [(5, .int z), (0, .ref (G.2.1 0)), (2, .int v2), (4, .int v4)]) dX7_least_126 hf rfl rfl (by decide) (fun _ => rfl) rfl (fun v5_8 hf => ?_)
      refine a_goto C (q := 96) dX7_least_129 (by decide) ?_
      have hf := Option.some.inj hf; subst hf
      exact a_sub [1, 2, 3, 0] rfl (show At F G Q 6 96 [(0, .ref (G.2.1 0)), (2, .int v2), (4, .int v4), (5, .int v5_8)] [] (y_7.2, r) from hK)
    · refine a_iload_n C (i := 2) (q := 115) dX7_least_114 rfl 1 rfl rfl ?_
      refine a_if_ne C (tgt := 123) (q := 118) dX7_least_115 hf (by decide) rfl (fun hf => ?_) (fun hf => ?_)
      · refine a_iload C (i := 5) (q := 125) dX7_least_123 rfl 3 rfl ?_
        have hf := Option.some.inj hf; subst hf
        exact (show RetI F G Q cX7_least 6 .int v5 (y_7.2, r) from hK) rfl _ _ dX7_least_125
      · refine a_iload C (i := 4) (q := 120) dX7_least_118 rfl 2 rfl ?_
        refine a_goto C (q := 125) dX7_least_120 (by decide) ?_
        have hf := Option.some.inj hf; subst hf
        exact (show RetI F G Q cX7_least 6 .int v4 (y_7.2, r) from hK) rfl _ _ dX7_least_125
theorem lp_X7_least_96 {F : FX} {G : GX} {Q : State → Prop} (C : Cx F G cX7_least 6 RX7) (hR : Rm F 5) (n : Nat) (r : SR) (v2 : Int32) (v4 : Int32)  (v5 : Int32) (t : MM) (x : (Int32 × MM) ⊕ (MM)) (h : it2 (lb_X7_least_96 n v2 v4) n v5 t = some x) (hE : E_X7_least_96 F G Q r v2 v4 x) : At F G Q 6 96 [(0, .ref (G.2.1 0)), (2, .int v2), (4, .int v4), (5, .int v5)] [] (t, r) :=
  it2_ind (b := (lb_X7_least_96 n v2 v4)) (E := E_X7_least_96 F G Q r v2 v4) (P := fun v5 t => P_X7_least_96 F G Q r v2 v4 v5 t) (fun v5 t res hf hK => w_X7_least_96 C hR n r v2 v4   v5 t res hf hK) n v5 t x h hE
def lb_X7_least_86 (n : Nat) (v2 : Int32) (v4 : Int32) (t : MM) : Option (((Int32 × MM) ⊕ (MM)) ⊕ (Int32 × MM)) :=
  (if (99 : Int32) < v4 then some (.inl (.inr t)) else bR (it2 (lb_X7_least_96 n v2 v4) n (0 : Int32) t) (fun y => some (.inl (.inl y))) (fun t_9 => nm (v4 + 1) (fun v4_10 => some (.inr (v4_10, t_9)))))
set_option maxHeartbeats 4000000 in
theorem w_X7_least_86 {F : FX} {G : GX} {Q : State → Prop} (C : Cx F G cX7_least 6 RX7) (hR : Rm F 5) (n : Nat) (r : SR) (v2 : Int32)  (v4 : Int32) (t : MM) (res : ((Int32 × MM) ⊕ (MM)) ⊕ (Int32 × MM)) (hf : lb_X7_least_86 n v2 v4 t = some res) (hK : Sum.elim (E_X7_least_86 F G Q r v2) (fun q => match q with | (v4, t) => P_X7_least_86 F G Q r v2 v4 t) res) : P_X7_least_86 F G Q r v2 v4 t := by
  unfold lb_X7_least_86 at hf
  show At F G Q 6 86 [(0, .ref (G.2.1 0)), (2, .int v2), (4, .int v4)] [] (t, r)
  refine a_iload C (i := 4) (q := 88) dX7_least_86 rfl 2 rfl ?_
  refine a_bipush C (v := (99 : Int32)) (q := 90) dX7_least_88 rfl (by decide) ?_
  refine a_icmp_gt C (tgt := 138) (q := 93) dX7_least_90 hf (by decide) rfl (fun hf => ?_) (fun hf => ?_)
  · have hf := Option.some.inj hf; subst hf
    exact a_sub [] rfl (show At F G Q 6 138 [] [] (t, r) from hK)
  · refine a_iconst C (v := (0 : Int32)) (q := 94) dX7_least_93 rfl (by decide) ?_
    refine a_istore C (i := 5) (q := 96) (lv' := [(5, .int (0 : Int32)), (0, .ref (G.2.1 0)), (2, .int v2), (4, .int v4)]) dX7_least_94 (by decide) rfl rfl ?_
    rcases bR_some hf with ⟨y, h1, hf⟩ | ⟨t_9, h1, hf⟩
    · refine a_sub [1, 2, 3, 0] rfl (lp_X7_least_96 C hR n r v2 v4  (0 : Int32) t _ h1 ?_)
      have hf := Option.some.inj hf; subst hf
      exact hK
    · refine a_sub [1, 2, 3, 0] rfl (lp_X7_least_96 C hR n r v2 v4  (0 : Int32) t _ h1 ?_)
      show At F G Q 6 132 [(0, .ref (G.2.1 0)), (2, .int v2), (4, .int v4)] [] (t_9, r)
      refine a_iincN C (i := 4) (k := 2) (q := 135) (lv' := fun z => [(4, .int z), (0, .ref (G.2.1 0)), (2, .int v2)]) dX7_least_132 hf rfl rfl (by decide) (fun _ => rfl) rfl (fun v4_10 hf => ?_)
      refine a_goto C (q := 86) dX7_least_135 (by decide) ?_
      have hf := Option.some.inj hf; subst hf
      exact a_sub [1, 2, 0] rfl (show At F G Q 6 86 [(0, .ref (G.2.1 0)), (2, .int v2), (4, .int v4_10)] [] (t_9, r) from hK)
theorem lp_X7_least_86 {F : FX} {G : GX} {Q : State → Prop} (C : Cx F G cX7_least 6 RX7) (hR : Rm F 5) (n : Nat) (r : SR) (v2 : Int32)  (v4 : Int32) (t : MM) (x : (Int32 × MM) ⊕ (MM)) (h : it2 (lb_X7_least_86 n v2) n v4 t = some x) (hE : E_X7_least_86 F G Q r v2 x) : At F G Q 6 86 [(0, .ref (G.2.1 0)), (2, .int v2), (4, .int v4)] [] (t, r) :=
  it2_ind (b := (lb_X7_least_86 n v2)) (E := E_X7_least_86 F G Q r v2) (P := fun v4 t => P_X7_least_86 F G Q r v2 v4 t) (fun v4 t res hf hK => w_X7_least_86 C hR n r v2   v4 t res hf hK) n v4 t x h hE
def f_X7_least (n : Nat) (t : MM) (v1 : Int32) (v2 : Int32) : Option (Int32 × MM) :=
  b1 (f_X6_waits t v1) (fun y_1 => (if y_1 = 0 then some ((-1 : Int32), t) else (if v2 < 0 then some ((-1 : Int32), t) else (if v2 ≤ (1 : Int32) then b1 (f_X6_foot t) (fun y_2 => b1 (f_X6_whoIsAt n t y_2) (fun y_3 => b1 (f_X6_fitTogether n t (y_3 ||| ((1 : Int32) <<< (v1 &&& 31)))) (fun y_4 => (if y_4 = 0 then some ((-4 : Int32), t) else b1 (f_X6_weighAll n t 28) (fun y_5 => ix v1 10 (b1 (f_X2_hang y_5 28 y_2 (y_5 3 v1.toNatClampNeg)) (fun y_6 => bR (it2 (lb_X7_least_86 n v2) n (0 : Int32) y_6) (fun y => some y) (fun t_11 => some ((-4 : Int32), t_11))))))))) else some ((-1 : Int32), t)))))
set_option maxHeartbeats 4000000 in
theorem w_X7_least_e {F : FX} {G : GX} {Q : State → Prop} (C : Cx F G cX7_least 6 RX7) (hR : Rm F 5) (n : Nat) (t : MM) (r : SR)  (v1 : Int32) (v2 : Int32) (res : Int32 × MM) (hf : f_X7_least n t v1 v2 = some res) (hK : RetI F G Q cX7_least 6 .int res.1 (res.2, r)) : At F G Q 6 0 [(0, .ref (G.2.1 0)), (1, .int v1), (2, .int v2)] [] (t, r) := by
  unfold f_X7_least at hf
  refine a_aload_n C (i := 0) (q := 1) dX7_least_0 rfl 0 rfl rfl ?_
  refine a_get7 C (q := 4) dX7_least_1 0 (by decide) k_213 (by decide) rfl rfl rfl ?_
  refine a_iload_n C (i := 1) (q := 5) dX7_least_4 rfl 1 rfl rfl ?_
  refine a_callVI C (q := 8) (As := [.int v1]) (st := []) dX7_least_5 hR (by decide) hf (fun b => b) (fun _ => (t, r)) (by decide) rfl rfl cw_X6_waits (fun b hb => c_X6_waits _ G t r v1 b hb) rfl rfl (Nat.le_of_ble_eq_true rfl) k_502 rfl (fun y_1 hf => ?_)
  refine a_if_eq C (tgt := 20) (q := 11) dX7_least_8 hf (by decide) rfl (fun hf => ?_) (fun hf => ?_)
  · refine a_iconst C (v := (-1 : Int32)) (q := 21) dX7_least_20 rfl (by decide) ?_
    have hf := Option.some.inj hf; subst hf
    exact (show RetI F G Q cX7_least 6 .int (-1 : Int32) (t, r) from hK) rfl _ _ dX7_least_21
  · refine a_iload_n C (i := 2) (q := 12) dX7_least_11 rfl 2 rfl rfl ?_
    refine a_if_lt C (tgt := 20) (q := 15) dX7_least_12 hf (by decide) rfl (fun hf => ?_) (fun hf => ?_)
    · refine a_iconst C (v := (-1 : Int32)) (q := 21) dX7_least_20 rfl (by decide) ?_
      have hf := Option.some.inj hf; subst hf
      exact (show RetI F G Q cX7_least 6 .int (-1 : Int32) (t, r) from hK) rfl _ _ dX7_least_21
    · refine a_iload_n C (i := 2) (q := 16) dX7_least_15 rfl 2 rfl rfl ?_
      refine a_iconst C (v := (1 : Int32)) (q := 17) dX7_least_16 rfl (by decide) ?_
      refine a_icmp_le C (tgt := 22) (q := 20) dX7_least_17 hf (by decide) rfl (fun hf => ?_) (fun hf => ?_)
      · refine a_aload_n C (i := 0) (q := 23) dX7_least_22 rfl 0 rfl rfl ?_
        refine a_get7 C (q := 26) dX7_least_23 0 (by decide) k_213 (by decide) rfl rfl rfl ?_
        refine a_callVI C (q := 29) (As := []) (st := []) dX7_least_26 hR (by decide) hf (fun b => b) (fun _ => (t, r)) (by decide) rfl rfl cw_X6_foot (fun b hb => c_X6_foot _ G t r b hb) rfl rfl (Nat.le_of_ble_eq_true rfl) k_525 rfl (fun y_2 hf => ?_)
        refine a_istore_n C (i := 3) (q := 30) (lv' := [(3, .int y_2), (0, .ref (G.2.1 0)), (1, .int v1), (2, .int v2)]) dX7_least_29 rfl (by decide) rfl rfl ?_
        refine a_aload_n C (i := 0) (q := 31) dX7_least_30 rfl 1 rfl rfl ?_
        refine a_get7 C (q := 34) dX7_least_31 0 (by decide) k_213 (by decide) rfl rfl rfl ?_
        refine a_aload_n C (i := 0) (q := 35) dX7_least_34 rfl 1 rfl rfl ?_
        refine a_get7 C (q := 38) dX7_least_35 0 (by decide) k_213 (by decide) rfl rfl rfl ?_
        refine a_iload_n C (i := 3) (q := 39) dX7_least_38 rfl 0 rfl rfl ?_
        refine a_callVI C (q := 42) (As := [.int y_2]) (st := [.ref (G.2.1 1)]) dX7_least_39 hR (by decide) hf (fun b => b) (fun _ => (t, r)) (by decide) rfl rfl cw_X6_whoIsAt (fun b hb => c_X6_whoIsAt _ G n t r y_2 b hb) rfl rfl (Nat.le_of_ble_eq_true rfl) k_264 rfl (fun y_3 hf => ?_)
        refine a_iconst C (v := (1 : Int32)) (q := 43) dX7_least_42 rfl (by decide) ?_
        refine a_iload_n C (i := 1) (q := 44) dX7_least_43 rfl 2 rfl rfl ?_
        refine a_ishl C (q := 45) dX7_least_44 rfl ?_
        refine a_ior C (q := 46) dX7_least_45 rfl ?_
        refine a_callVI C (q := 49) (As := [.int (y_3 ||| ((1 : Int32) <<< (v1 &&& 31)))]) (st := []) dX7_least_46 hR (by decide) hf (fun b => b) (fun _ => (t, r)) (by decide) rfl rfl cw_X6_fitTogether (fun b hb => c_X6_fitTogether _ G n t r (y_3 ||| ((1 : Int32) <<< (v1 &&& 31))) b hb) rfl rfl (Nat.le_of_ble_eq_true rfl) k_666 rfl (fun y_4 hf => ?_)
        refine a_if_ne C (tgt := 55) (q := 52) dX7_least_49 hf (by decide) rfl (fun hf => ?_) (fun hf => ?_)
        · refine a_aload_n C (i := 0) (q := 56) dX7_least_55 rfl 1 rfl rfl ?_
          refine a_get7 C (q := 59) dX7_least_56 0 (by decide) k_213 (by decide) rfl rfl rfl ?_
          refine a_aload_n C (i := 0) (q := 60) dX7_least_59 rfl 1 rfl rfl ?_
          refine a_get7 C (q := 63) dX7_least_60 6 (by decide) k_219 (by decide) rfl rfl rfl ?_
          refine a_callVV C (q := 66) (As := [.ref (G.2.1 28)]) (st := []) dX7_least_63 hR (by decide) hf (fun b => (b, r)) (by decide) rfl rfl cw_X6_weighAll (fun b hb => c_X6_weighAll _ G n t r 28 (by unfold isBal; decide) b hb) rfl rfl (Nat.le_of_ble_eq_true rfl) k_287 rfl (fun y_5 hf => ?_)
          refine a_aload_n C (i := 0) (q := 67) dX7_least_66 rfl 1 rfl rfl ?_
          refine a_get7 C (q := 70) dX7_least_67 6 (by decide) k_219 (by decide) rfl rfl rfl ?_
          refine a_iload_n C (i := 3) (q := 71) dX7_least_70 rfl 0 rfl rfl ?_
          refine a_aload_n C (i := 0) (q := 72) dX7_least_71 rfl 1 rfl rfl ?_
          refine a_get7 C (q := 75) dX7_least_72 0 (by decide) k_213 (by decide) rfl rfl rfl ?_
          refine a_get6 C (q := 78) dX7_least_75 1 (by decide) k_36 (by decide) rfl rfl rfl ?_
          refine a_iload_n C (i := 1) (q := 79) dX7_least_78 rfl 2 rfl rfl ?_
          refine a_iald C (q := 80) (g := y_5 3) dX7_least_79 hf (by decide) rfl rfl (fun hf => ?_)
          refine a_callVV C (q := 83) (As := [.int y_2, .int (y_5 3 v1.toNatClampNeg)]) (st := []) dX7_least_80 hR (by decide) hf (fun b => (b, r)) (by decide) rfl rfl cw_X2_hang (fun b hb => c_X2_hang _ G y_5 r 28 y_2 (y_5 3 v1.toNatClampNeg) (by unfold isBal; decide) b hb) rfl rfl (Nat.le_of_ble_eq_true rfl) k_667 rfl (fun y_6 hf => ?_)
          refine a_iconst C (v := (0 : Int32)) (q := 84) dX7_least_83 rfl (by decide) ?_
          refine a_istore C (i := 4) (q := 86) (lv' := [(4, .int (0 : Int32)), (3, .int y_2), (0, .ref (G.2.1 0)), (1, .int v1), (2, .int v2)]) dX7_least_84 (by decide) rfl rfl ?_
          rcases bR_some hf with ⟨y, h1, hf⟩ | ⟨t_11, h1, hf⟩
          · refine a_sub [2, 4, 0] rfl (lp_X7_least_86 C hR n r v2  (0 : Int32) y_6 _ h1 ?_)
            have hf := Option.some.inj hf; subst hf
            exact hK
          · refine a_sub [2, 4, 0] rfl (lp_X7_least_86 C hR n r v2  (0 : Int32) y_6 _ h1 ?_)
            show At F G Q 6 138 [] [] (t_11, r)
            refine a_bipush C (v := (-4 : Int32)) (q := 140) dX7_least_138 rfl (by decide) ?_
            have hf := Option.some.inj hf; subst hf
            exact (show RetI F G Q cX7_least 6 .int (-4 : Int32) (t_11, r) from hK) rfl _ _ dX7_least_140
        · refine a_bipush C (v := (-4 : Int32)) (q := 54) dX7_least_52 rfl (by decide) ?_
          have hf := Option.some.inj hf; subst hf
          exact (show RetI F G Q cX7_least 6 .int (-4 : Int32) (t, r) from hK) rfl _ _ dX7_least_54
      · refine a_iconst C (v := (-1 : Int32)) (q := 21) dX7_least_20 rfl (by decide) ?_
        have hf := Option.some.inj hf; subst hf
        exact (show RetI F G Q cX7_least 6 .int (-1 : Int32) (t, r) from hK) rfl _ _ dX7_least_21
theorem c_X7_least (l : Launch) (G : GX) (n : Nat) (t : MM) (r : SR) (v1 : Int32) (v2 : Int32) (res : Int32 × MM) (hf : f_X7_least n t v1 v2 = some res) : MetC l G yX7_least cX7_least 6 (some .int) 5 (t, r) [.ref (G.2.1 0), .int v1, .int v2] (PostI G res.1 (res.2, r)) :=
  m_I (by decide) (Nat.le_of_ble_eq_true rfl) (fun F Q C h1 h2 h3 hK => w_X7_least_e C (Rm.of h1 h3) n t r v1 v2 res hf hK)
theorem cw_X7_sure : CwV RX7 yX7_sure cX7_sure 2 1 (some .int) := ⟨k_675, k_673, k_674, k_1, by decide +kernel, by decide⟩
def f_X7_sure (n : Nat) (t : MM) (v1 : Int32) : Option (Int32 × MM) :=
  (if v1 < 0 then some ((-1 : Int32), t) else (if v1 ≤ (9 : Int32) then b1 (f_X6_whoRides n t) (fun y_1 => b1 (f_J6_bitCount_0f7a4 y_1) (fun y_2 => (if y_2 ≤ (8 : Int32) then b1 (f_X4_findWorst n t v1) (fun y_3 => b1 (f_X2_isEvenWithin y_3 27 (y_3 1 7)) (fun y_4 => (if y_4 = 0 then some ((0 : Int32), y_3) else some ((1 : Int32), y_3)))) else some ((-3 : Int32), t)))) else some ((-1 : Int32), t)))
set_option maxHeartbeats 4000000 in
theorem w_X7_sure_e {F : FX} {G : GX} {Q : State → Prop} (C : Cx F G cX7_sure 2 RX7) (hR : Rm F 6) (n : Nat) (t : MM) (r : SR)  (v1 : Int32) (res : Int32 × MM) (hf : f_X7_sure n t v1 = some res) (hK : RetI F G Q cX7_sure 2 .int res.1 (res.2, r)) : At F G Q 2 0 [(0, .ref (G.2.1 0)), (1, .int v1)] [] (t, r) := by
  unfold f_X7_sure at hf
  refine a_iload_n C (i := 1) (q := 1) dX7_sure_0 rfl 1 rfl rfl ?_
  refine a_if_lt C (tgt := 10) (q := 4) dX7_sure_1 hf (by decide) rfl (fun hf => ?_) (fun hf => ?_)
  · refine a_iconst C (v := (-1 : Int32)) (q := 11) dX7_sure_10 rfl (by decide) ?_
    have hf := Option.some.inj hf; subst hf
    exact (show RetI F G Q cX7_sure 2 .int (-1 : Int32) (t, r) from hK) rfl _ _ dX7_sure_11
  · refine a_iload_n C (i := 1) (q := 5) dX7_sure_4 rfl 1 rfl rfl ?_
    refine a_bipush C (v := (9 : Int32)) (q := 7) dX7_sure_5 rfl (by decide) ?_
    refine a_icmp_le C (tgt := 12) (q := 10) dX7_sure_7 hf (by decide) rfl (fun hf => ?_) (fun hf => ?_)
    · refine a_aload_n C (i := 0) (q := 13) dX7_sure_12 rfl 0 rfl rfl ?_
      refine a_get7 C (q := 16) dX7_sure_13 0 (by decide) k_213 (by decide) rfl rfl rfl ?_
      refine a_callVI C (q := 19) (As := []) (st := []) dX7_sure_16 hR (by decide) hf (fun b => b) (fun _ => (t, r)) (by decide) rfl rfl cw_X6_whoRides (fun b hb => c_X6_whoRides _ G n t r b hb) rfl rfl (Nat.le_of_ble_eq_true rfl) k_558 rfl (fun y_1 hf => ?_)
      refine a_callSI C (q := 22) (As := [.int y_1]) (st := []) dX7_sure_19 hR (by decide) hf (fun b => b) (fun _ => (t, r)) cw_J6_bitCount_0f7a4 (fun b hb => c_J6_bitCount_0f7a4 _ G t r y_1 b hb) rfl rfl (Nat.le_of_ble_eq_true rfl) k_579 rfl (fun y_2 hf => ?_)
      refine a_bipush C (v := (8 : Int32)) (q := 24) dX7_sure_22 rfl (by decide) ?_
      refine a_icmp_le C (tgt := 30) (q := 27) dX7_sure_24 hf (by decide) rfl (fun hf => ?_) (fun hf => ?_)
      · refine a_aload_n C (i := 0) (q := 31) dX7_sure_30 rfl 0 rfl rfl ?_
        refine a_get7 C (q := 34) dX7_sure_31 5 (by decide) k_218 (by decide) rfl rfl rfl ?_
        refine a_iload_n C (i := 1) (q := 35) dX7_sure_34 rfl 1 rfl rfl ?_
        refine a_callVV C (q := 38) (As := [.int v1]) (st := []) dX7_sure_35 hR (by decide) hf (fun b => (b, r)) (by decide) rfl rfl cw_X4_findWorst (fun b hb => c_X4_findWorst _ G n t r v1 b hb) rfl rfl (Nat.le_of_ble_eq_true rfl) k_676 rfl (fun y_3 hf => ?_)
        refine a_aload_n C (i := 0) (q := 39) dX7_sure_38 rfl 0 rfl rfl ?_
        refine a_get7 C (q := 42) dX7_sure_39 5 (by decide) k_218 (by decide) rfl rfl rfl ?_
        refine a_get4 C (q := 45) dX7_sure_42 4 (by decide) k_175 (by decide) rfl rfl rfl ?_
        refine a_aload_n C (i := 0) (q := 46) dX7_sure_45 rfl 0 rfl rfl ?_
        refine a_get7 C (q := 49) dX7_sure_46 0 (by decide) k_213 (by decide) rfl rfl rfl ?_
        refine a_get6 C (q := 52) dX7_sure_49 7 (by decide) k_49 (by decide) rfl rfl rfl ?_
        refine a_callVI C (q := 55) (As := [.int (y_3 1 7)]) (st := []) dX7_sure_52 hR (by decide) hf (fun b => b) (fun _ => (y_3, r)) (by decide) rfl rfl cw_X2_isEvenWithin (fun b hb => c_X2_isEvenWithin _ G y_3 r 27 (y_3 1 7) (by unfold isBal; decide) b hb) rfl rfl (Nat.le_of_ble_eq_true rfl) k_319 rfl (fun y_4 hf => ?_)
        refine a_if_eq C (tgt := 62) (q := 58) dX7_sure_55 hf (by decide) rfl (fun hf => ?_) (fun hf => ?_)
        · refine a_iconst C (v := (0 : Int32)) (q := 63) dX7_sure_62 rfl (by decide) ?_
          have hf := Option.some.inj hf; subst hf
          exact (show RetI F G Q cX7_sure 2 .int (0 : Int32) (y_3, r) from hK) rfl _ _ dX7_sure_63
        · refine a_iconst C (v := (1 : Int32)) (q := 59) dX7_sure_58 rfl (by decide) ?_
          refine a_goto C (q := 63) dX7_sure_59 (by decide) ?_
          have hf := Option.some.inj hf; subst hf
          exact (show RetI F G Q cX7_sure 2 .int (1 : Int32) (y_3, r) from hK) rfl _ _ dX7_sure_63
      · refine a_bipush C (v := (-3 : Int32)) (q := 29) dX7_sure_27 rfl (by decide) ?_
        have hf := Option.some.inj hf; subst hf
        exact (show RetI F G Q cX7_sure 2 .int (-3 : Int32) (t, r) from hK) rfl _ _ dX7_sure_29
    · refine a_iconst C (v := (-1 : Int32)) (q := 11) dX7_sure_10 rfl (by decide) ?_
      have hf := Option.some.inj hf; subst hf
      exact (show RetI F G Q cX7_sure 2 .int (-1 : Int32) (t, r) from hK) rfl _ _ dX7_sure_11
theorem c_X7_sure (l : Launch) (G : GX) (n : Nat) (t : MM) (r : SR) (v1 : Int32) (res : Int32 × MM) (hf : f_X7_sure n t v1 = some res) : MetC l G yX7_sure cX7_sure 2 (some .int) 6 (t, r) [.ref (G.2.1 0), .int v1] (PostI G res.1 (res.2, r)) :=
  m_I (by decide) (Nat.le_of_ble_eq_true rfl) (fun F Q C h1 h2 h3 hK => w_X7_sure_e C (Rm.of h1 h3) n t r v1 res hf hK)
theorem cw_X7_worst : CwV RX7 yX7_worst cX7_worst 3 2 (some .int) := ⟨k_697, k_695, k_696, k_1, by decide +kernel, by decide⟩
def f_X7_worst (n : Nat) (t : MM) (v1 : Int32) (v2 : Int32) : Option (Int32 × MM) :=
  (if v1 < 0 then some ((-100000001 : Int32), t) else (if (9 : Int32) < v1 then some ((-100000001 : Int32), t) else (if v2 < 0 then some ((-100000001 : Int32), t) else (if v2 ≤ (1 : Int32) then b1 (f_X6_whoRides n t) (fun y_1 => b1 (f_J6_bitCount_0f7a4 y_1) (fun y_2 => (if y_2 ≤ (8 : Int32) then b1 (f_X4_findWorst n t v1) (fun y_3 => (if v2 = 0 then b1 (f_X2_wholePart y_3 27) (fun y_5 => some (y_5.toInt32, y_3)) else b1 (f_X2_rootPart y_3 27) (fun y_4 => some (y_4.toInt32, y_3)))) else some ((-100000003 : Int32), t)))) else some ((-100000001 : Int32), t)))))
set_option maxHeartbeats 4000000 in
theorem w_X7_worst_e {F : FX} {G : GX} {Q : State → Prop} (C : Cx F G cX7_worst 3 RX7) (hR : Rm F 6) (n : Nat) (t : MM) (r : SR)  (v1 : Int32) (v2 : Int32) (res : Int32 × MM) (hf : f_X7_worst n t v1 v2 = some res) (hK : RetI F G Q cX7_worst 3 .int res.1 (res.2, r)) : At F G Q 3 0 [(0, .ref (G.2.1 0)), (1, .int v1), (2, .int v2)] [] (t, r) := by
  unfold f_X7_worst at hf
  refine a_iload_n C (i := 1) (q := 1) dX7_worst_0 rfl 1 rfl rfl ?_
  refine a_if_lt C (tgt := 19) (q := 4) dX7_worst_1 hf (by decide) rfl (fun hf => ?_) (fun hf => ?_)
  · refine a_ldc C (v := (-100000001 : Int32)) (q := 21) dX7_worst_19 rfl k_343 ?_
    have hf := Option.some.inj hf; subst hf
    exact (show RetI F G Q cX7_worst 3 .int (-100000001 : Int32) (t, r) from hK) rfl _ _ dX7_worst_21
  · refine a_iload_n C (i := 1) (q := 5) dX7_worst_4 rfl 1 rfl rfl ?_
    refine a_bipush C (v := (9 : Int32)) (q := 7) dX7_worst_5 rfl (by decide) ?_
    refine a_icmp_gt C (tgt := 19) (q := 10) dX7_worst_7 hf (by decide) rfl (fun hf => ?_) (fun hf => ?_)
    · refine a_ldc C (v := (-100000001 : Int32)) (q := 21) dX7_worst_19 rfl k_343 ?_
      have hf := Option.some.inj hf; subst hf
      exact (show RetI F G Q cX7_worst 3 .int (-100000001 : Int32) (t, r) from hK) rfl _ _ dX7_worst_21
    · refine a_iload_n C (i := 2) (q := 11) dX7_worst_10 rfl 2 rfl rfl ?_
      refine a_if_lt C (tgt := 19) (q := 14) dX7_worst_11 hf (by decide) rfl (fun hf => ?_) (fun hf => ?_)
      · refine a_ldc C (v := (-100000001 : Int32)) (q := 21) dX7_worst_19 rfl k_343 ?_
        have hf := Option.some.inj hf; subst hf
        exact (show RetI F G Q cX7_worst 3 .int (-100000001 : Int32) (t, r) from hK) rfl _ _ dX7_worst_21
      · refine a_iload_n C (i := 2) (q := 15) dX7_worst_14 rfl 2 rfl rfl ?_
        refine a_iconst C (v := (1 : Int32)) (q := 16) dX7_worst_15 rfl (by decide) ?_
        refine a_icmp_le C (tgt := 22) (q := 19) dX7_worst_16 hf (by decide) rfl (fun hf => ?_) (fun hf => ?_)
        · refine a_aload_n C (i := 0) (q := 23) dX7_worst_22 rfl 0 rfl rfl ?_
          refine a_get7 C (q := 26) dX7_worst_23 0 (by decide) k_213 (by decide) rfl rfl rfl ?_
          refine a_callVI C (q := 29) (As := []) (st := []) dX7_worst_26 hR (by decide) hf (fun b => b) (fun _ => (t, r)) (by decide) rfl rfl cw_X6_whoRides (fun b hb => c_X6_whoRides _ G n t r b hb) rfl rfl (Nat.le_of_ble_eq_true rfl) k_558 rfl (fun y_1 hf => ?_)
          refine a_callSI C (q := 32) (As := [.int y_1]) (st := []) dX7_worst_29 hR (by decide) hf (fun b => b) (fun _ => (t, r)) cw_J6_bitCount_0f7a4 (fun b hb => c_J6_bitCount_0f7a4 _ G t r y_1 b hb) rfl rfl (Nat.le_of_ble_eq_true rfl) k_579 rfl (fun y_2 hf => ?_)
          refine a_bipush C (v := (8 : Int32)) (q := 34) dX7_worst_32 rfl (by decide) ?_
          refine a_icmp_le C (tgt := 40) (q := 37) dX7_worst_34 hf (by decide) rfl (fun hf => ?_) (fun hf => ?_)
          · refine a_aload_n C (i := 0) (q := 41) dX7_worst_40 rfl 0 rfl rfl ?_
            refine a_get7 C (q := 44) dX7_worst_41 5 (by decide) k_218 (by decide) rfl rfl rfl ?_
            refine a_iload_n C (i := 1) (q := 45) dX7_worst_44 rfl 1 rfl rfl ?_
            refine a_callVV C (q := 48) (As := [.int v1]) (st := []) dX7_worst_45 hR (by decide) hf (fun b => (b, r)) (by decide) rfl rfl cw_X4_findWorst (fun b hb => c_X4_findWorst _ G n t r v1 b hb) rfl rfl (Nat.le_of_ble_eq_true rfl) k_676 rfl (fun y_3 hf => ?_)
            refine a_iload_n C (i := 2) (q := 49) dX7_worst_48 rfl 2 rfl rfl ?_
            refine a_if_ne C (tgt := 65) (q := 52) dX7_worst_49 hf (by decide) rfl (fun hf => ?_) (fun hf => ?_)
            · refine a_aload_n C (i := 0) (q := 66) dX7_worst_65 rfl 0 rfl rfl ?_
              refine a_get7 C (q := 69) dX7_worst_66 5 (by decide) k_218 (by decide) rfl rfl rfl ?_
              refine a_get4 C (q := 72) dX7_worst_69 4 (by decide) k_175 (by decide) rfl rfl rfl ?_
              refine a_callVL C (q := 75) (As := []) (st := []) dX7_worst_72 hR (by decide) hf (fun b => b) (fun _ => (y_3, r)) (by decide) rfl rfl cw_X2_rootPart (fun b hb => c_X2_rootPart _ G y_3 r 27 (by unfold isBal; decide) b hb) rfl rfl (Nat.le_of_ble_eq_true rfl) k_342 rfl (fun y_4 hf => ?_)
              refine a_l2i C (q := 76) dX7_worst_75 rfl ?_
              have hf := Option.some.inj hf; subst hf
              exact (show RetI F G Q cX7_worst 3 .int y_4.toInt32 (y_3, r) from hK) rfl _ _ dX7_worst_76
            · refine a_aload_n C (i := 0) (q := 53) dX7_worst_52 rfl 0 rfl rfl ?_
              refine a_get7 C (q := 56) dX7_worst_53 5 (by decide) k_218 (by decide) rfl rfl rfl ?_
              refine a_get4 C (q := 59) dX7_worst_56 4 (by decide) k_175 (by decide) rfl rfl rfl ?_
              refine a_callVL C (q := 62) (As := []) (st := []) dX7_worst_59 hR (by decide) hf (fun b => b) (fun _ => (y_3, r)) (by decide) rfl rfl cw_X2_wholePart (fun b hb => c_X2_wholePart _ G y_3 r 27 (by unfold isBal; decide) b hb) rfl rfl (Nat.le_of_ble_eq_true rfl) k_341 rfl (fun y_5 hf => ?_)
              refine a_goto C (q := 75) dX7_worst_62 (by decide) ?_
              refine a_l2i C (q := 76) dX7_worst_75 rfl ?_
              have hf := Option.some.inj hf; subst hf
              exact (show RetI F G Q cX7_worst 3 .int y_5.toInt32 (y_3, r) from hK) rfl _ _ dX7_worst_76
          · refine a_ldc C (v := (-100000003 : Int32)) (q := 39) dX7_worst_37 rfl k_698 ?_
            have hf := Option.some.inj hf; subst hf
            exact (show RetI F G Q cX7_worst 3 .int (-100000003 : Int32) (t, r) from hK) rfl _ _ dX7_worst_39
        · refine a_ldc C (v := (-100000001 : Int32)) (q := 21) dX7_worst_19 rfl k_343 ?_
          have hf := Option.some.inj hf; subst hf
          exact (show RetI F G Q cX7_worst 3 .int (-100000001 : Int32) (t, r) from hK) rfl _ _ dX7_worst_21
theorem c_X7_worst (l : Launch) (G : GX) (n : Nat) (t : MM) (r : SR) (v1 : Int32) (v2 : Int32) (res : Int32 × MM) (hf : f_X7_worst n t v1 v2 = some res) : MetC l G yX7_worst cX7_worst 3 (some .int) 6 (t, r) [.ref (G.2.1 0), .int v1, .int v2] (PostI G res.1 (res.2, r)) :=
  m_I (by decide) (Nat.le_of_ble_eq_true rfl) (fun F Q C h1 h2 h3 hK => w_X7_worst_e C (Rm.of h1 h3) n t r v1 v2 res hf hK)
theorem cw_X7_image : CwV RX7 yX7_image cX7_image 1 0 (some .int) := ⟨k_702, k_700, k_701, k_1, by decide +kernel, by decide⟩
def f_X7_image (t : MM) : Option (Int32 × MM) :=
  b1 (f_X6_become t 7 1) (fun y_1 => nm (st1 y_1 0 9 (1 : Int32)) (fun t_2 => some ((1 : Int32), t_2)))
set_option maxHeartbeats 4000000 in
theorem w_X7_image_e {F : FX} {G : GX} {Q : State → Prop} (C : Cx F G cX7_image 1 RX7) (hR : Rm F 3) (t : MM) (r : SR)   (res : Int32 × MM) (hf : f_X7_image t = some res) (hK : RetI F G Q cX7_image 1 .int res.1 (res.2, r)) : At F G Q 1 0 [(0, .ref (G.2.1 0))] [] (t, r) := by
  unfold f_X7_image at hf
  refine a_aload_n C (i := 0) (q := 1) dX7_image_0 rfl 0 rfl rfl ?_
  refine a_get7 C (q := 4) dX7_image_1 1 (by decide) k_214 (by decide) rfl rfl rfl ?_
  refine a_aload_n C (i := 0) (q := 5) dX7_image_4 rfl 0 rfl rfl ?_
  refine a_get7 C (q := 8) dX7_image_5 0 (by decide) k_213 (by decide) rfl rfl rfl ?_
  refine a_callVV C (q := 11) (As := [.ref (G.2.1 1)]) (st := []) dX7_image_8 hR (by decide) hf (fun b => (b, r)) (by decide) rfl rfl cw_X6_become (fun b hb => c_X6_become _ G t r 7 1 (by unfold isWh; decide) (by unfold isWh; decide) b hb) rfl rfl (Nat.le_of_ble_eq_true rfl) k_703 rfl (fun y_1 hf => ?_)
  refine a_aload_n C (i := 0) (q := 12) dX7_image_11 rfl 0 rfl rfl ?_
  refine a_iconst C (v := (1 : Int32)) (q := 13) dX7_image_12 rfl (by decide) ?_
  refine a_put7N C (q := 16) (mk := (fun z => (z, r))) dX7_image_13 hf 9 (by decide) k_222 (by decide) rfl rfl cellE_C1 rfl rfl rfl (Nat.le_of_ble_eq_true rfl) rfl (fun t_2 hf => ?_)
  refine a_iconst C (v := (1 : Int32)) (q := 17) dX7_image_16 rfl (by decide) ?_
  have hf := Option.some.inj hf; subst hf
  exact (show RetI F G Q cX7_image 1 .int (1 : Int32) (t_2, r) from hK) rfl _ _ dX7_image_17
theorem c_X7_image (l : Launch) (G : GX) (t : MM) (r : SR)  (res : Int32 × MM) (hf : f_X7_image t = some res) : MetC l G yX7_image cX7_image 1 (some .int) 3 (t, r) [.ref (G.2.1 0)] (PostI G res.1 (res.2, r)) :=
  m_I (by decide) (Nat.le_of_ble_eq_true rfl) (fun F Q C h1 h2 h3 hK => w_X7_image_e C (Rm.of h1 h3) t r res hf hK)
theorem cw_X7_restore : CwV RX7 yX7_restore cX7_restore 1 0 (some .int) := ⟨k_713, k_711, k_712, k_1, by decide +kernel, by decide⟩
def f_X7_restore (t : MM) : Option (Int32 × MM) :=
  (if (t 0 9) = 0 then some ((-4 : Int32), t) else b1 (f_X6_become t 1 7) (fun y_1 => some ((1 : Int32), y_1)))
set_option maxHeartbeats 4000000 in
theorem w_X7_restore_e {F : FX} {G : GX} {Q : State → Prop} (C : Cx F G cX7_restore 1 RX7) (hR : Rm F 3) (t : MM) (r : SR)   (res : Int32 × MM) (hf : f_X7_restore t = some res) (hK : RetI F G Q cX7_restore 1 .int res.1 (res.2, r)) : At F G Q 1 0 [(0, .ref (G.2.1 0))] [] (t, r) := by
  unfold f_X7_restore at hf
  refine a_aload_n C (i := 0) (q := 1) dX7_restore_0 rfl 0 rfl rfl ?_
  refine a_get7 C (q := 4) dX7_restore_1 9 (by decide) k_222 (by decide) rfl rfl rfl ?_
  refine a_if_ne C (tgt := 10) (q := 7) dX7_restore_4 hf (by decide) rfl (fun hf => ?_) (fun hf => ?_)
  · refine a_aload_n C (i := 0) (q := 11) dX7_restore_10 rfl 0 rfl rfl ?_
    refine a_get7 C (q := 14) dX7_restore_11 0 (by decide) k_213 (by decide) rfl rfl rfl ?_
    refine a_aload_n C (i := 0) (q := 15) dX7_restore_14 rfl 0 rfl rfl ?_
    refine a_get7 C (q := 18) dX7_restore_15 1 (by decide) k_214 (by decide) rfl rfl rfl ?_
    refine a_callVV C (q := 21) (As := [.ref (G.2.1 7)]) (st := []) dX7_restore_18 hR (by decide) hf (fun b => (b, r)) (by decide) rfl rfl cw_X6_become (fun b hb => c_X6_become _ G t r 1 7 (by unfold isWh; decide) (by unfold isWh; decide) b hb) rfl rfl (Nat.le_of_ble_eq_true rfl) k_703 rfl (fun y_1 hf => ?_)
    refine a_iconst C (v := (1 : Int32)) (q := 22) dX7_restore_21 rfl (by decide) ?_
    have hf := Option.some.inj hf; subst hf
    exact (show RetI F G Q cX7_restore 1 .int (1 : Int32) (y_1, r) from hK) rfl _ _ dX7_restore_22
  · refine a_bipush C (v := (-4 : Int32)) (q := 9) dX7_restore_7 rfl (by decide) ?_
    have hf := Option.some.inj hf; subst hf
    exact (show RetI F G Q cX7_restore 1 .int (-4 : Int32) (t, r) from hK) rfl _ _ dX7_restore_9
theorem c_X7_restore (l : Launch) (G : GX) (t : MM) (r : SR)  (res : Int32 × MM) (hf : f_X7_restore t = some res) : MetC l G yX7_restore cX7_restore 1 (some .int) 3 (t, r) [.ref (G.2.1 0)] (PostI G res.1 (res.2, r)) :=
  m_I (by decide) (Nat.le_of_ble_eq_true rfl) (fun F Q C h1 h2 h3 hK => w_X7_restore_e C (Rm.of h1 h3) t r res hf hK)
theorem cw_X7_isSheet : CwS yX7_isSheet cX7_isSheet 1 1 (some .boolean) := ⟨k_724, k_723, k_1, by decide +kernel, by decide⟩
def f_X7_isSheet (v0 : Int32) : Option (Int32) :=
  (if v0 < 0 then some (0 : Int32) else (if (4 : Int32) ≤ v0 then some (0 : Int32) else some (1 : Int32)))
set_option maxHeartbeats 4000000 in
theorem w_X7_isSheet_e {F : FX} {G : GX} {Q : State → Prop} (C : Cx F G cX7_isSheet 1 RX7) (hR : Rm F 2) (s : MM) (r : SR)  (v0 : Int32) (res : Int32) (hf : f_X7_isSheet v0 = some res) (hK : RetI F G Q cX7_isSheet 1 .boolean res (s, r)) : At F G Q 1 0 [(0, .int v0)] [] (s, r) := by
  unfold f_X7_isSheet at hf
  refine a_iload_n C (i := 0) (q := 1) dX7_isSheet_0 rfl 0 rfl rfl ?_
  refine a_if_lt C (tgt := 13) (q := 4) dX7_isSheet_1 hf (by decide) rfl (fun hf => ?_) (fun hf => ?_)
  · refine a_iconst C (v := (0 : Int32)) (q := 14) dX7_isSheet_13 rfl (by decide) ?_
    have hf := Option.some.inj hf; subst hf
    exact (show RetI F G Q cX7_isSheet 1 .boolean (0 : Int32) (s, r) from hK) rfl _ _ dX7_isSheet_14
  · refine a_iload_n C (i := 0) (q := 5) dX7_isSheet_4 rfl 0 rfl rfl ?_
    refine a_iconst C (v := (4 : Int32)) (q := 6) dX7_isSheet_5 rfl (by decide) ?_
    refine a_icmp_ge C (tgt := 13) (q := 9) dX7_isSheet_6 hf (by decide) rfl (fun hf => ?_) (fun hf => ?_)
    · refine a_iconst C (v := (0 : Int32)) (q := 14) dX7_isSheet_13 rfl (by decide) ?_
      have hf := Option.some.inj hf; subst hf
      exact (show RetI F G Q cX7_isSheet 1 .boolean (0 : Int32) (s, r) from hK) rfl _ _ dX7_isSheet_14
    · refine a_iconst C (v := (1 : Int32)) (q := 10) dX7_isSheet_9 rfl (by decide) ?_
      refine a_goto C (q := 14) dX7_isSheet_10 (by decide) ?_
      have hf := Option.some.inj hf; subst hf
      exact (show RetI F G Q cX7_isSheet 1 .boolean (1 : Int32) (s, r) from hK) rfl _ _ dX7_isSheet_14
theorem c_X7_isSheet (l : Launch) (G : GX) (s : MM) (r : SR) (v0 : Int32) (res : Int32) (hf : f_X7_isSheet v0 = some res) : MetC l G yX7_isSheet cX7_isSheet 1 (some .boolean) 2 (s, r) [.int v0] (PostI G res (s, r)) :=
  m_I (by decide) (Nat.le_of_ble_eq_true rfl) (fun F Q C h1 h2 h3 hK => w_X7_isSheet_e C (Rm.of h1 h3) s r v0 res hf hK)
theorem cw_X7_refusalOfRow : CwV RX7 yX7_refusalOfRow cX7_refusalOfRow 5 4 (some .int) := ⟨k_721, k_720, kp_18, k_1, by decide +kernel, by decide⟩
def f_X7_refusalOfRow (t : MM) (v1 : Int32) (v2 : Int32) (v3 : Int32) (v4 : Int32) : Option (Int32) :=
  b1 (f_X7_isSheet v1) (fun y_1 => (if y_1 = 0 then some (-1 : Int32) else (if v2 < 0 then some (-1 : Int32) else (if v2 < (3 : Int32) then ix v1 4 ((if (t (30 + 2 * v1.toNatClampNeg) 1) = 0 then some (-11 : Int32) else ix v1 4 ((if (t (30 + 2 * v1.toNatClampNeg) 2) = v2 then ix v1 4 (b1 (f_X3_hasPart t (30 + 2 * v1.toNatClampNeg) v3 v4) (fun y_5 => (if y_5 = 0 then some (-13 : Int32) else some (0 : Int32)))) else some (-12 : Int32))))) else some (-1 : Int32)))))
set_option maxHeartbeats 4000000 in
theorem w_X7_refusalOfRow_e {F : FX} {G : GX} {Q : State → Prop} (C : Cx F G cX7_refusalOfRow 5 RX7) (hR : Rm F 3) (t : MM) (r : SR)  (v1 : Int32) (v2 : Int32) (v3 : Int32) (v4 : Int32) (res : Int32) (hf : f_X7_refusalOfRow t v1 v2 v3 v4 = some res) (hK : RetI F G Q cX7_refusalOfRow 5 .int res (t, r)) : At F G Q 5 0 [(0, .ref (G.2.1 0)), (1, .int v1), (2, .int v2), (3, .int v3), (4, .int v4)] [] (t, r) := by
  unfold f_X7_refusalOfRow at hf
  refine a_iload_n C (i := 1) (q := 1) dX7_refusalOfRow_0 rfl 1 rfl rfl ?_
  refine a_callSI C (q := 4) (As := [.int v1]) (st := []) dX7_refusalOfRow_1 hR (by decide) hf (fun b => b) (fun _ => (t, r)) cw_X7_isSheet (fun b hb => c_X7_isSheet _ G t r v1 b hb) rfl rfl (Nat.le_of_ble_eq_true rfl) k_722 rfl (fun y_1 hf => ?_)
  refine a_if_eq C (tgt := 16) (q := 7) dX7_refusalOfRow_4 hf (by decide) rfl (fun hf => ?_) (fun hf => ?_)
  · refine a_iconst C (v := (-1 : Int32)) (q := 17) dX7_refusalOfRow_16 rfl (by decide) ?_
    have hf := Option.some.inj hf; subst hf
    exact (show RetI F G Q cX7_refusalOfRow 5 .int (-1 : Int32) (t, r) from hK) rfl _ _ dX7_refusalOfRow_17
  · refine a_iload_n C (i := 2) (q := 8) dX7_refusalOfRow_7 rfl 2 rfl rfl ?_
    refine a_if_lt C (tgt := 16) (q := 11) dX7_refusalOfRow_8 hf (by decide) rfl (fun hf => ?_) (fun hf => ?_)
    · refine a_iconst C (v := (-1 : Int32)) (q := 17) dX7_refusalOfRow_16 rfl (by decide) ?_
      have hf := Option.some.inj hf; subst hf
      exact (show RetI F G Q cX7_refusalOfRow 5 .int (-1 : Int32) (t, r) from hK) rfl _ _ dX7_refusalOfRow_17
    · refine a_iload_n C (i := 2) (q := 12) dX7_refusalOfRow_11 rfl 2 rfl rfl ?_
      refine a_iconst C (v := (3 : Int32)) (q := 13) dX7_refusalOfRow_12 rfl (by decide) ?_
      refine a_icmp_lt C (tgt := 18) (q := 16) dX7_refusalOfRow_13 hf (by decide) rfl (fun hf => ?_) (fun hf => ?_)
      · refine a_aload_n C (i := 0) (q := 19) dX7_refusalOfRow_18 rfl 0 rfl rfl ?_
        refine a_get7 C (q := 22) dX7_refusalOfRow_19 7 (by decide) k_220 (by decide) rfl rfl rfl ?_
        refine a_iload_n C (i := 1) (q := 23) dX7_refusalOfRow_22 rfl 1 rfl rfl ?_
        refine a_aald C (q := 24) dX7_refusalOfRow_23 hf rfl (fun hi_2 hf => ?_)
        refine a_get3 C (q := 27) dX7_refusalOfRow_24 1 (by decide) k_199 (isSh_of hi_2).lt ((isSh_of hi_2).at G _ _) rfl rfl ?_
        refine a_if_ne C (tgt := 33) (q := 30) dX7_refusalOfRow_27 hf (by decide) rfl (fun hf => ?_) (fun hf => ?_)
        · refine a_aload_n C (i := 0) (q := 34) dX7_refusalOfRow_33 rfl 0 rfl rfl ?_
          refine a_get7 C (q := 37) dX7_refusalOfRow_34 7 (by decide) k_220 (by decide) rfl rfl rfl ?_
          refine a_iload_n C (i := 1) (q := 38) dX7_refusalOfRow_37 rfl 1 rfl rfl ?_
          refine a_aald C (q := 39) dX7_refusalOfRow_38 hf rfl (fun hi_3 hf => ?_)
          refine a_get3 C (q := 42) dX7_refusalOfRow_39 2 (by decide) k_201 (isSh_of hi_3).lt ((isSh_of hi_3).at G _ _) rfl rfl ?_
          refine a_iload_n C (i := 2) (q := 43) dX7_refusalOfRow_42 rfl 2 rfl rfl ?_
          refine a_icmp_eq C (tgt := 49) (q := 46) dX7_refusalOfRow_43 hf (by decide) rfl (fun hf => ?_) (fun hf => ?_)
          · refine a_aload_n C (i := 0) (q := 50) dX7_refusalOfRow_49 rfl 0 rfl rfl ?_
            refine a_get7 C (q := 53) dX7_refusalOfRow_50 7 (by decide) k_220 (by decide) rfl rfl rfl ?_
            refine a_iload_n C (i := 1) (q := 54) dX7_refusalOfRow_53 rfl 1 rfl rfl ?_
            refine a_aald C (q := 55) dX7_refusalOfRow_54 hf rfl (fun hi_4 hf => ?_)
            refine a_iload_n C (i := 3) (q := 56) dX7_refusalOfRow_55 rfl 3 rfl rfl ?_
            refine a_iload C (i := 4) (q := 58) dX7_refusalOfRow_56 rfl 4 rfl ?_
            refine a_callVI C (q := 61) (As := [.int v3, .int v4]) (st := []) dX7_refusalOfRow_58 hR (by decide) hf (fun b => b) (fun _ => (t, r)) (isSh_of hi_4).lt ((isSh_of hi_4).at G _ _) rfl cw_X3_hasPart (fun b hb => c_X3_hasPart _ G t r (30 + 2 * v1.toNatClampNeg) v3 v4 (isSh_of hi_4) b hb) rfl rfl (Nat.le_of_ble_eq_true rfl) k_725 rfl (fun y_5 hf => ?_)
            refine a_if_eq C (tgt := 68) (q := 64) dX7_refusalOfRow_61 hf (by decide) rfl (fun hf => ?_) (fun hf => ?_)
            · refine a_bipush C (v := (-13 : Int32)) (q := 70) dX7_refusalOfRow_68 rfl (by decide) ?_
              have hf := Option.some.inj hf; subst hf
              exact (show RetI F G Q cX7_refusalOfRow 5 .int (-13 : Int32) (t, r) from hK) rfl _ _ dX7_refusalOfRow_70
            · refine a_iconst C (v := (0 : Int32)) (q := 65) dX7_refusalOfRow_64 rfl (by decide) ?_
              refine a_goto C (q := 70) dX7_refusalOfRow_65 (by decide) ?_
              have hf := Option.some.inj hf; subst hf
              exact (show RetI F G Q cX7_refusalOfRow 5 .int (0 : Int32) (t, r) from hK) rfl _ _ dX7_refusalOfRow_70
          · refine a_bipush C (v := (-12 : Int32)) (q := 48) dX7_refusalOfRow_46 rfl (by decide) ?_
            have hf := Option.some.inj hf; subst hf
            exact (show RetI F G Q cX7_refusalOfRow 5 .int (-12 : Int32) (t, r) from hK) rfl _ _ dX7_refusalOfRow_48
        · refine a_bipush C (v := (-11 : Int32)) (q := 32) dX7_refusalOfRow_30 rfl (by decide) ?_
          have hf := Option.some.inj hf; subst hf
          exact (show RetI F G Q cX7_refusalOfRow 5 .int (-11 : Int32) (t, r) from hK) rfl _ _ dX7_refusalOfRow_32
      · refine a_iconst C (v := (-1 : Int32)) (q := 17) dX7_refusalOfRow_16 rfl (by decide) ?_
        have hf := Option.some.inj hf; subst hf
        exact (show RetI F G Q cX7_refusalOfRow 5 .int (-1 : Int32) (t, r) from hK) rfl _ _ dX7_refusalOfRow_17
theorem c_X7_refusalOfRow (l : Launch) (G : GX) (t : MM) (r : SR) (v1 : Int32) (v2 : Int32) (v3 : Int32) (v4 : Int32) (res : Int32) (hf : f_X7_refusalOfRow t v1 v2 v3 v4 = some res) : MetC l G yX7_refusalOfRow cX7_refusalOfRow 5 (some .int) 3 (t, r) [.ref (G.2.1 0), .int v1, .int v2, .int v3, .int v4] (PostI G res (t, r)) :=
  m_I (by decide) (Nat.le_of_ble_eq_true rfl) (fun F Q C h1 h2 h3 hK => w_X7_refusalOfRow_e C (Rm.of h1 h3) t r v1 v2 v3 v4 res hf hK)
theorem cw_X7_pour : CwV RX7 yX7_pour cX7_pour 8 3 (some .int) := ⟨k_717, k_715, k_716, k_1, by decide +kernel, by decide⟩
def P_X7_pour_36 (F : FX) (G : GX) (Q : State → Prop) (r : SR) (v1 : Int32) (v3 : Int32) (v5 : Int32) (v6 : Int32) (t : MM) : Prop := At F G Q 8 36 [(0, .ref (G.2.1 0)), (1, .int v1), (3, .int v3), (5, .int v5), (6, .int v6)] [] (t, r)
def E_X7_pour_36 (F : FX) (G : GX) (Q : State → Prop) (r : SR) (v1 : Int32) (v3 : Int32) : (Int32 × MM) ⊕ (Int32 × MM) → Prop := fun q => match q with
  | .inl y => RetI F G Q cX7_pour 8 .int y.1 (y.2, r)
  | .inr (v5, t) => At F G Q 8 107 [(0, .ref (G.2.1 0)), (5, .int v5)] [] (t, r)
def lb_X7_pour_36 (n : Nat) (v1 : Int32) (v3 : Int32) (v5 : Int32) (v6 : Int32) (t : MM) : Option (((Int32 × MM) ⊕ (Int32 × MM)) ⊕ (Int32 × Int32 × MM)) :=
  (if (12 : Int32) ≤ v6 then some (.inl (.inr (v5, t))) else ix v1 4 (ix (v3 + v6) 24 (nm (t (30 + 2 * v1.toNatClampNeg + 1) ((v3 + v6).toNatClampNeg)) (fun v7_4 => (if v7_4 < 0 then some (.inl (.inl ((-2 : Int32), t))) else (if v7_4 ≤ (99 : Int32) then ix v6 12 (nm (st1 t 38 v6.toNatClampNeg v7_4) (fun t_5 => nm (v5 + v7_4) (fun v5_6 => b1 (f_X2_hang t_5 28 v6 v7_4) (fun y_7 => nm (v6 + 1) (fun v6_8 => some (.inr (v5_6, v6_8, y_7))))))) else some (.inl (.inl ((-2 : Int32), t)))))))))
set_option maxHeartbeats 4000000 in
theorem w_X7_pour_36 {F : FX} {G : GX} {Q : State → Prop} (C : Cx F G cX7_pour 8 RX7) (hR : Rm F 5) (n : Nat) (r : SR) (v1 : Int32) (v3 : Int32)  (v5 : Int32) (v6 : Int32) (t : MM) (res : ((Int32 × MM) ⊕ (Int32 × MM)) ⊕ (Int32 × Int32 × MM)) (hf : lb_X7_pour_36 n v1 v3 v5 v6 t = some res) (hK : Sum.elim (E_X7_pour_36 F G Q r v1 v3) (fun q => match q with | (v5, v6, t) => P_X7_pour_36 F G Q r v1 v3 v5 v6 t) res) : P_X7_pour_36 F G Q r v1 v3 v5 v6 t := by
  unfold lb_X7_pour_36 at hf
  show At F G Q 8 36 [(0, .ref (G.2.1 0)), (1, .int v1), (3, .int v3), (5, .int v5), (6, .int v6)] [] (t, r)
  refine a_iload C (i := 6) (q := 38) dX7_pour_36 rfl 4 rfl ?_
  refine a_bipush C (v := (12 : Int32)) (q := 40) dX7_pour_38 rfl (by decide) ?_
  refine a_icmp_ge C (tgt := 107) (q := 43) dX7_pour_40 hf (by decide) rfl (fun hf => ?_) (fun hf => ?_)
  · have hf := Option.some.inj hf; subst hf
    exact a_sub [0, 3] rfl (show At F G Q 8 107 [(0, .ref (G.2.1 0)), (5, .int v5)] [] (t, r) from hK)
  · refine a_aload_n C (i := 0) (q := 44) dX7_pour_43 rfl 0 rfl rfl ?_
    refine a_get7 C (q := 47) dX7_pour_44 7 (by decide) k_220 (by decide) rfl rfl rfl ?_
    refine a_iload_n C (i := 1) (q := 48) dX7_pour_47 rfl 1 rfl rfl ?_
    refine a_aald C (q := 49) dX7_pour_48 hf rfl (fun hi_3 hf => ?_)
    refine a_get3 C (q := 52) dX7_pour_49 0 (by decide) k_197 (isSh_of hi_3).lt ((isSh_of hi_3).at G _ _) rfl rfl ?_
    refine a_iload_n C (i := 3) (q := 53) dX7_pour_52 rfl 2 rfl rfl ?_
    refine a_iload C (i := 6) (q := 55) dX7_pour_53 rfl 4 rfl ?_
    refine a_iadd C (q := 56) dX7_pour_55 rfl ?_
    refine a_iald C (q := 57) (g := t (30 + 2 * v1.toNatClampNeg + 1)) dX7_pour_56 hf (isSh_of hi_3).lt1 ((isSh_of hi_3).items G _ _) rfl (fun hf => ?_)
    refine a_istoreN C (i := 7) (q := 59) (lv' := fun z => [(7, .int z), (0, .ref (G.2.1 0)), (1, .int v1), (3, .int v3), (5, .int v5), (6, .int v6)]) dX7_pour_57 hf (by decide) (fun _ => rfl) rfl (fun v7_4 hf => ?_)
    refine a_iload C (i := 7) (q := 61) dX7_pour_59 rfl 0 rfl ?_
    refine a_if_lt C (tgt := 71) (q := 64) dX7_pour_61 hf (by decide) rfl (fun hf => ?_) (fun hf => ?_)
    · refine a_bipush C (v := (-2 : Int32)) (q := 73) dX7_pour_71 rfl (by decide) ?_
      have hf := Option.some.inj hf; subst hf
      exact (show RetI F G Q cX7_pour 8 .int (-2 : Int32) (t, r) from hK) rfl _ _ dX7_pour_73
    · refine a_iload C (i := 7) (q := 66) dX7_pour_64 rfl 0 rfl ?_
      refine a_bipush C (v := (99 : Int32)) (q := 68) dX7_pour_66 rfl (by decide) ?_
      refine a_icmp_le C (tgt := 74) (q := 71) dX7_pour_68 hf (by decide) rfl (fun hf => ?_) (fun hf => ?_)
      · refine a_aload_n C (i := 0) (q := 75) dX7_pour_74 rfl 1 rfl rfl ?_
        refine a_get7 C (q := 78) dX7_pour_75 8 (by decide) k_221 (by decide) rfl rfl rfl ?_
        refine a_iload C (i := 6) (q := 80) dX7_pour_78 rfl 5 rfl ?_
        refine a_iload C (i := 7) (q := 82) dX7_pour_80 rfl 0 rfl ?_
        refine a_iastN C (q := 83) (mk := (fun z => (z, r))) dX7_pour_82 hf (by decide) rfl rfl cellE_C1 rfl (fun t_5 hf => ?_)
        refine a_iload C (i := 5) (q := 85) dX7_pour_83 rfl 4 rfl ?_
        refine a_iload C (i := 7) (q := 87) dX7_pour_85 rfl 0 rfl ?_
        refine a_iadd C (q := 88) dX7_pour_87 rfl ?_
        refine a_istoreN C (i := 5) (q := 90) (lv' := fun z => [(5, .int z), (7, .int v7_4), (0, .ref (G.2.1 0)), (1, .int v1), (3, .int v3), (6, .int v6)]) dX7_pour_88 hf (by decide) (fun _ => rfl) rfl (fun v5_6 hf => ?_)
        refine a_aload_n C (i := 0) (q := 91) dX7_pour_90 rfl 2 rfl rfl ?_
        refine a_get7 C (q := 94) dX7_pour_91 6 (by decide) k_219 (by decide) rfl rfl rfl ?_
        refine a_iload C (i := 6) (q := 96) dX7_pour_94 rfl 5 rfl ?_
        refine a_iload C (i := 7) (q := 98) dX7_pour_96 rfl 1 rfl ?_
        refine a_callVV C (q := 101) (As := [.int v6, .int v7_4]) (st := []) dX7_pour_98 hR (by decide) hf (fun b => (b, r)) (by decide) rfl rfl cw_X2_hang (fun b hb => c_X2_hang _ G t_5 r 28 v6 v7_4 (by unfold isBal; decide) b hb) rfl rfl (Nat.le_of_ble_eq_true rfl) k_667 rfl (fun y_7 hf => ?_)
        refine a_iincN C (i := 6) (k := 5) (q := 104) (lv' := fun z => [(6, .int z), (5, .int v5_6), (7, .int v7_4), (0, .ref (G.2.1 0)), (1, .int v1), (3, .int v3)]) dX7_pour_101 hf rfl rfl (by decide) (fun _ => rfl) rfl (fun v6_8 hf => ?_)
        refine a_goto C (q := 36) dX7_pour_104 (by decide) ?_
        have hf := Option.some.inj hf; subst hf
        exact a_sub [3, 4, 5, 1, 0] rfl (show At F G Q 8 36 [(0, .ref (G.2.1 0)), (1, .int v1), (3, .int v3), (5, .int v5_6), (6, .int v6_8)] [] (y_7, r) from hK)
      · refine a_bipush C (v := (-2 : Int32)) (q := 73) dX7_pour_71 rfl (by decide) ?_
        have hf := Option.some.inj hf; subst hf
        exact (show RetI F G Q cX7_pour 8 .int (-2 : Int32) (t, r) from hK) rfl _ _ dX7_pour_73
theorem lp_X7_pour_36 {F : FX} {G : GX} {Q : State → Prop} (C : Cx F G cX7_pour 8 RX7) (hR : Rm F 5) (n : Nat) (r : SR) (v1 : Int32) (v3 : Int32)  (v5 : Int32) (v6 : Int32) (t : MM) (x : (Int32 × MM) ⊕ (Int32 × MM)) (h : it3 (lb_X7_pour_36 n v1 v3) n v5 v6 t = some x) (hE : E_X7_pour_36 F G Q r v1 v3 x) : At F G Q 8 36 [(0, .ref (G.2.1 0)), (1, .int v1), (3, .int v3), (5, .int v5), (6, .int v6)] [] (t, r) :=
  it3_ind (b := (lb_X7_pour_36 n v1 v3)) (E := E_X7_pour_36 F G Q r v1 v3) (P := fun v5 v6 t => P_X7_pour_36 F G Q r v1 v3 v5 v6 t) (fun v5 v6 t res hf hK => w_X7_pour_36 C hR n r v1 v3   v5 v6 t res hf hK) n v5 v6 t x h hE
def f_X7_pour (n : Nat) (t : MM) (v1 : Int32) (v2 : Int32) (v3 : Int32) : Option (Int32 × MM) :=
  b1 (f_X7_refusalOfRow t v1 v2 v3 (12 : Int32)) (fun y_1 => (if y_1 = 0 then b1 (f_X6_weighRiders n t 28) (fun y_2 => bR (it3 (lb_X7_pour_36 n v1 v3) n (0 : Int32) (0 : Int32) y_2) (fun y => some y) (fun q => nm2 q (fun v5_9 t_10 => b1 (f_X2_isEvenWithin t_10 28 (t_10 1 7)) (fun y_11 => (if y_11 = 0 then some ((-2 : Int32), t_10) else cpk (0 : Int32) (0 : Int32) (12 : Int32) 12 12 (nm (stA t_10 6 (va_cpy (t_10 38) (t_10 6) (0 : Int32).toNatClampNeg (0 : Int32).toNatClampNeg (12 : Int32).toNatClampNeg)) (fun t_12 => some (v5_9, t_12)))))))) else some (y_1, t)))
set_option maxHeartbeats 4000000 in
theorem w_X7_pour_e {F : FX} {G : GX} {Q : State → Prop} (C : Cx F G cX7_pour 8 RX7) (hR : Rm F 5) (n : Nat) (t : MM) (r : SR)  (v1 : Int32) (v2 : Int32) (v3 : Int32) (res : Int32 × MM) (hf : f_X7_pour n t v1 v2 v3 = some res) (hK : RetI F G Q cX7_pour 8 .int res.1 (res.2, r)) : At F G Q 8 0 [(0, .ref (G.2.1 0)), (1, .int v1), (2, .int v2), (3, .int v3)] [] (t, r) := by
  unfold f_X7_pour at hf
  refine a_aload_n C (i := 0) (q := 1) dX7_pour_0 rfl 0 rfl rfl ?_
  refine a_iload_n C (i := 1) (q := 2) dX7_pour_1 rfl 1 rfl rfl ?_
  refine a_iload_n C (i := 2) (q := 3) dX7_pour_2 rfl 2 rfl rfl ?_
  refine a_iload_n C (i := 3) (q := 4) dX7_pour_3 rfl 3 rfl rfl ?_
  refine a_bipush C (v := (12 : Int32)) (q := 6) dX7_pour_4 rfl (by decide) ?_
  refine a_callVI C (q := 9) (As := [.int v1, .int v2, .int v3, .int (12 : Int32)]) (st := []) dX7_pour_6 hR (by decide) hf (fun b => b) (fun _ => (t, r)) (by decide) rfl rfl cw_X7_refusalOfRow (fun b hb => c_X7_refusalOfRow _ G t r v1 v2 v3 (12 : Int32) b hb) rfl rfl (Nat.le_of_ble_eq_true rfl) k_718 rfl (fun y_1 hf => ?_)
  refine a_istore C (i := 4) (q := 11) (lv' := [(4, .int y_1), (0, .ref (G.2.1 0)), (1, .int v1), (2, .int v2), (3, .int v3)]) dX7_pour_9 (by decide) rfl rfl ?_
  refine a_iload C (i := 4) (q := 13) dX7_pour_11 rfl 0 rfl ?_
  refine a_if_eq C (tgt := 19) (q := 16) dX7_pour_13 hf (by decide) rfl (fun hf => ?_) (fun hf => ?_)
  · refine a_aload_n C (i := 0) (q := 20) dX7_pour_19 rfl 1 rfl rfl ?_
    refine a_get7 C (q := 23) dX7_pour_20 0 (by decide) k_213 (by decide) rfl rfl rfl ?_
    refine a_aload_n C (i := 0) (q := 24) dX7_pour_23 rfl 1 rfl rfl ?_
    refine a_get7 C (q := 27) dX7_pour_24 6 (by decide) k_219 (by decide) rfl rfl rfl ?_
    refine a_callVV C (q := 30) (As := [.ref (G.2.1 28)]) (st := []) dX7_pour_27 hR (by decide) hf (fun b => (b, r)) (by decide) rfl rfl cw_X6_weighRiders (fun b hb => c_X6_weighRiders _ G n t r 28 (by unfold isBal; decide) b hb) rfl rfl (Nat.le_of_ble_eq_true rfl) k_729 rfl (fun y_2 hf => ?_)
    refine a_iconst C (v := (0 : Int32)) (q := 31) dX7_pour_30 rfl (by decide) ?_
    refine a_istore C (i := 5) (q := 33) (lv' := [(5, .int (0 : Int32)), (4, .int y_1), (0, .ref (G.2.1 0)), (1, .int v1), (2, .int v2), (3, .int v3)]) dX7_pour_31 (by decide) rfl rfl ?_
    refine a_iconst C (v := (0 : Int32)) (q := 34) dX7_pour_33 rfl (by decide) ?_
    refine a_istore C (i := 6) (q := 36) (lv' := [(6, .int (0 : Int32)), (5, .int (0 : Int32)), (4, .int y_1), (0, .ref (G.2.1 0)), (1, .int v1), (2, .int v2), (3, .int v3)]) dX7_pour_34 (by decide) rfl rfl ?_
    rcases bR_some hf with ⟨y, h1, hf⟩ | ⟨⟨v5_9, t_10⟩, h1, hf⟩
    · refine a_sub [3, 4, 6, 1, 0] rfl (lp_X7_pour_36 C hR n r v1 v3  (0 : Int32) (0 : Int32) y_2 _ h1 ?_)
      have hf := Option.some.inj hf; subst hf
      exact hK
    · refine a_sub [3, 4, 6, 1, 0] rfl (lp_X7_pour_36 C hR n r v1 v3  (0 : Int32) (0 : Int32) y_2 _ h1 ?_)
      show At F G Q 8 107 [(0, .ref (G.2.1 0)), (5, .int v5_9)] [] (t_10, r)
      dsimp only [nm2] at hf
      refine a_aload_n C (i := 0) (q := 108) dX7_pour_107 rfl 0 rfl rfl ?_
      refine a_get7 C (q := 111) dX7_pour_108 6 (by decide) k_219 (by decide) rfl rfl rfl ?_
      refine a_aload_n C (i := 0) (q := 112) dX7_pour_111 rfl 0 rfl rfl ?_
      refine a_get7 C (q := 115) dX7_pour_112 0 (by decide) k_213 (by decide) rfl rfl rfl ?_
      refine a_get6 C (q := 118) dX7_pour_115 7 (by decide) k_49 (by decide) rfl rfl rfl ?_
      refine a_callVI C (q := 121) (As := [.int (t_10 1 7)]) (st := []) dX7_pour_118 hR (by decide) hf (fun b => b) (fun _ => (t_10, r)) (by decide) rfl rfl cw_X2_isEvenWithin (fun b hb => c_X2_isEvenWithin _ G t_10 r 28 (t_10 1 7) (by unfold isBal; decide) b hb) rfl rfl (Nat.le_of_ble_eq_true rfl) k_319 rfl (fun y_11 hf => ?_)
      refine a_if_ne C (tgt := 127) (q := 124) dX7_pour_121 hf (by decide) rfl (fun hf => ?_) (fun hf => ?_)
      · refine a_aload_n C (i := 0) (q := 128) dX7_pour_127 rfl 0 rfl rfl ?_
        refine a_get7 C (q := 131) dX7_pour_128 8 (by decide) k_221 (by decide) rfl rfl rfl ?_
        refine a_iconst C (v := (0 : Int32)) (q := 132) dX7_pour_131 rfl (by decide) ?_
        refine a_aload_n C (i := 0) (q := 133) dX7_pour_132 rfl 0 rfl rfl ?_
        refine a_get7 C (q := 136) dX7_pour_133 0 (by decide) k_213 (by decide) rfl rfl rfl ?_
        refine a_get6 C (q := 139) dX7_pour_136 4 (by decide) k_43 (by decide) rfl rfl rfl ?_
        refine a_iconst C (v := (0 : Int32)) (q := 140) dX7_pour_139 rfl (by decide) ?_
        refine a_bipush C (v := (12 : Int32)) (q := 142) dX7_pour_140 rfl (by decide) ?_
        refine a_copyN C (q := 145) (mk := (fun z => (z, r))) dX7_pour_142 hR (by decide) hf (Nat.le_of_ble_eq_true rfl) k_733 (by decide) (by decide) rfl rfl rfl cellE_C rfl (fun t_12 hf => ?_)
        refine a_iload C (i := 5) (q := 147) dX7_pour_145 rfl 1 rfl ?_
        have hf := Option.some.inj hf; subst hf
        exact (show RetI F G Q cX7_pour 8 .int v5_9 (t_12, r) from hK) rfl _ _ dX7_pour_147
      · refine a_bipush C (v := (-2 : Int32)) (q := 126) dX7_pour_124 rfl (by decide) ?_
        have hf := Option.some.inj hf; subst hf
        exact (show RetI F G Q cX7_pour 8 .int (-2 : Int32) (t_10, r) from hK) rfl _ _ dX7_pour_126
  · refine a_iload C (i := 4) (q := 18) dX7_pour_16 rfl 0 rfl ?_
    have hf := Option.some.inj hf; subst hf
    exact (show RetI F G Q cX7_pour 8 .int y_1 (t, r) from hK) rfl _ _ dX7_pour_18
theorem c_X7_pour (l : Launch) (G : GX) (n : Nat) (t : MM) (r : SR) (v1 : Int32) (v2 : Int32) (v3 : Int32) (res : Int32 × MM) (hf : f_X7_pour n t v1 v2 v3 = some res) : MetC l G yX7_pour cX7_pour 8 (some .int) 5 (t, r) [.ref (G.2.1 0), .int v1, .int v2, .int v3] (PostI G res.1 (res.2, r)) :=
  m_I (by decide) (Nat.le_of_ble_eq_true rfl) (fun F Q C h1 h2 h3 hK => w_X7_pour_e C (Rm.of h1 h3) n t r v1 v2 v3 res hf hK)
theorem cw_X7_film : CwV RX7 yX7_film cX7_film 6 3 (some .int) := ⟨k_737, k_735, k_736, k_1, by decide +kernel, by decide⟩
def P_X7_film_22 (F : FX) (G : GX) (Q : State → Prop) (r : SR) (v1 : Int32) (v3 : Int32) (v5 : Int32) (t : MM) : Prop := At F G Q 6 22 [(0, .ref (G.2.1 0)), (1, .int v1), (3, .int v3), (5, .int v5)] [] (t, r)
def E_X7_film_22 (F : FX) (G : GX) (Q : State → Prop) (r : SR) (v1 : Int32) (v3 : Int32) : MM → Prop := fun q => match q with
  | t => At F G Q 6 57 [] [] (t, r)
def lb_X7_film_22 (n : Nat) (v1 : Int32) (v3 : Int32) (v5 : Int32) (t : MM) : Option ((MM) ⊕ (Int32 × MM)) :=
  (if (12 : Int32) ≤ v5 then some (.inl t) else ix v1 4 (b1 (f_X6_loadOf n t v5) (fun y_3 => b1 (f_X3_write t (30 + 2 * v1.toNatClampNeg) (v3 + v5) y_3) (fun y_4 => nm (v5 + 1) (fun v5_5 => some (.inr (v5_5, y_4)))))))
set_option maxHeartbeats 4000000 in
theorem w_X7_film_22 {F : FX} {G : GX} {Q : State → Prop} (C : Cx F G cX7_film 6 RX7) (hR : Rm F 4) (n : Nat) (r : SR) (v1 : Int32) (v3 : Int32)  (v5 : Int32) (t : MM) (res : (MM) ⊕ (Int32 × MM)) (hf : lb_X7_film_22 n v1 v3 v5 t = some res) (hK : Sum.elim (E_X7_film_22 F G Q r v1 v3) (fun q => match q with | (v5, t) => P_X7_film_22 F G Q r v1 v3 v5 t) res) : P_X7_film_22 F G Q r v1 v3 v5 t := by
  unfold lb_X7_film_22 at hf
  show At F G Q 6 22 [(0, .ref (G.2.1 0)), (1, .int v1), (3, .int v3), (5, .int v5)] [] (t, r)
  refine a_iload C (i := 5) (q := 24) dX7_film_22 rfl 3 rfl ?_
  refine a_bipush C (v := (12 : Int32)) (q := 26) dX7_film_24 rfl (by decide) ?_
  refine a_icmp_ge C (tgt := 57) (q := 29) dX7_film_26 hf (by decide) rfl (fun hf => ?_) (fun hf => ?_)
  · have hf := Option.some.inj hf; subst hf
    exact a_sub [] rfl (show At F G Q 6 57 [] [] (t, r) from hK)
  · refine a_aload_n C (i := 0) (q := 30) dX7_film_29 rfl 0 rfl rfl ?_
    refine a_get7 C (q := 33) dX7_film_30 7 (by decide) k_220 (by decide) rfl rfl rfl ?_
    refine a_iload_n C (i := 1) (q := 34) dX7_film_33 rfl 1 rfl rfl ?_
    refine a_aald C (q := 35) dX7_film_34 hf rfl (fun hi_2 hf => ?_)
    refine a_iload_n C (i := 3) (q := 36) dX7_film_35 rfl 2 rfl rfl ?_
    refine a_iload C (i := 5) (q := 38) dX7_film_36 rfl 3 rfl ?_
    refine a_iadd C (q := 39) dX7_film_38 rfl ?_
    refine a_aload_n C (i := 0) (q := 40) dX7_film_39 rfl 0 rfl rfl ?_
    refine a_get7 C (q := 43) dX7_film_40 0 (by decide) k_213 (by decide) rfl rfl rfl ?_
    refine a_iload C (i := 5) (q := 45) dX7_film_43 rfl 3 rfl ?_
    refine a_callVI C (q := 48) (As := [.int v5]) (st := [.int (v3 + v5), .ref (G.2.1 (30 + 2 * v1.toNatClampNeg))]) dX7_film_45 hR (by decide) hf (fun b => b) (fun _ => (t, r)) (by decide) rfl rfl cw_X6_loadOf (fun b hb => c_X6_loadOf _ G n t r v5 b hb) rfl rfl (Nat.le_of_ble_eq_true rfl) k_268 rfl (fun y_3 hf => ?_)
    refine a_callVV C (q := 51) (As := [.int (v3 + v5), .int y_3]) (st := []) dX7_film_48 hR (by decide) hf (fun b => (b, r)) (isSh_of hi_2).lt ((isSh_of hi_2).at G _ _) rfl cw_X3_write (fun b hb => c_X3_write _ G t r (30 + 2 * v1.toNatClampNeg) (v3 + v5) y_3 (isSh_of hi_2) b hb) rfl rfl (Nat.le_of_ble_eq_true rfl) k_738 rfl (fun y_4 hf => ?_)
    refine a_iincN C (i := 5) (k := 3) (q := 54) (lv' := fun z => [(5, .int z), (0, .ref (G.2.1 0)), (1, .int v1), (3, .int v3)]) dX7_film_51 hf rfl rfl (by decide) (fun _ => rfl) rfl (fun v5_5 hf => ?_)
    refine a_goto C (q := 22) dX7_film_54 (by decide) ?_
    have hf := Option.some.inj hf; subst hf
    exact a_sub [1, 2, 3, 0] rfl (show At F G Q 6 22 [(0, .ref (G.2.1 0)), (1, .int v1), (3, .int v3), (5, .int v5_5)] [] (y_4, r) from hK)
theorem lp_X7_film_22 {F : FX} {G : GX} {Q : State → Prop} (C : Cx F G cX7_film 6 RX7) (hR : Rm F 4) (n : Nat) (r : SR) (v1 : Int32) (v3 : Int32)  (v5 : Int32) (t : MM) (x : MM) (h : it2 (lb_X7_film_22 n v1 v3) n v5 t = some x) (hE : E_X7_film_22 F G Q r v1 v3 x) : At F G Q 6 22 [(0, .ref (G.2.1 0)), (1, .int v1), (3, .int v3), (5, .int v5)] [] (t, r) :=
  it2_ind (b := (lb_X7_film_22 n v1 v3)) (E := E_X7_film_22 F G Q r v1 v3) (P := fun v5 t => P_X7_film_22 F G Q r v1 v3 v5 t) (fun v5 t res hf hK => w_X7_film_22 C hR n r v1 v3   v5 t res hf hK) n v5 t x h hE
def f_X7_film (n : Nat) (t : MM) (v1 : Int32) (v2 : Int32) (v3 : Int32) : Option (Int32 × MM) :=
  b1 (f_X7_refusalOfRow t v1 v2 v3 (12 : Int32)) (fun y_1 => (if y_1 = 0 then b1 (it2 (lb_X7_film_22 n v1 v3) n (0 : Int32) t) (fun t_6 => some ((12 : Int32), t_6)) else some (y_1, t)))
set_option maxHeartbeats 4000000 in
theorem w_X7_film_e {F : FX} {G : GX} {Q : State → Prop} (C : Cx F G cX7_film 6 RX7) (hR : Rm F 4) (n : Nat) (t : MM) (r : SR)  (v1 : Int32) (v2 : Int32) (v3 : Int32) (res : Int32 × MM) (hf : f_X7_film n t v1 v2 v3 = some res) (hK : RetI F G Q cX7_film 6 .int res.1 (res.2, r)) : At F G Q 6 0 [(0, .ref (G.2.1 0)), (1, .int v1), (2, .int v2), (3, .int v3)] [] (t, r) := by
  unfold f_X7_film at hf
  refine a_aload_n C (i := 0) (q := 1) dX7_film_0 rfl 0 rfl rfl ?_
  refine a_iload_n C (i := 1) (q := 2) dX7_film_1 rfl 1 rfl rfl ?_
  refine a_iload_n C (i := 2) (q := 3) dX7_film_2 rfl 2 rfl rfl ?_
  refine a_iload_n C (i := 3) (q := 4) dX7_film_3 rfl 3 rfl rfl ?_
  refine a_bipush C (v := (12 : Int32)) (q := 6) dX7_film_4 rfl (by decide) ?_
  refine a_callVI C (q := 9) (As := [.int v1, .int v2, .int v3, .int (12 : Int32)]) (st := []) dX7_film_6 hR (by decide) hf (fun b => b) (fun _ => (t, r)) (by decide) rfl rfl cw_X7_refusalOfRow (fun b hb => c_X7_refusalOfRow _ G t r v1 v2 v3 (12 : Int32) b hb) rfl rfl (Nat.le_of_ble_eq_true rfl) k_718 rfl (fun y_1 hf => ?_)
  refine a_istore C (i := 4) (q := 11) (lv' := [(4, .int y_1), (0, .ref (G.2.1 0)), (1, .int v1), (2, .int v2), (3, .int v3)]) dX7_film_9 (by decide) rfl rfl ?_
  refine a_iload C (i := 4) (q := 13) dX7_film_11 rfl 0 rfl ?_
  refine a_if_eq C (tgt := 19) (q := 16) dX7_film_13 hf (by decide) rfl (fun hf => ?_) (fun hf => ?_)
  · refine a_iconst C (v := (0 : Int32)) (q := 20) dX7_film_19 rfl (by decide) ?_
    refine a_istore C (i := 5) (q := 22) (lv' := [(5, .int (0 : Int32)), (4, .int y_1), (0, .ref (G.2.1 0)), (1, .int v1), (2, .int v2), (3, .int v3)]) dX7_film_20 (by decide) rfl rfl ?_
    obtain ⟨t_6, h1, hf⟩ := b1_some hf
    refine a_sub [2, 3, 5, 0] rfl (lp_X7_film_22 C hR n r v1 v3  (0 : Int32) t _ h1 ?_)
    show At F G Q 6 57 [] [] (t_6, r)
    refine a_bipush C (v := (12 : Int32)) (q := 59) dX7_film_57 rfl (by decide) ?_
    have hf := Option.some.inj hf; subst hf
    exact (show RetI F G Q cX7_film 6 .int (12 : Int32) (t_6, r) from hK) rfl _ _ dX7_film_59
  · refine a_iload C (i := 4) (q := 18) dX7_film_16 rfl 0 rfl ?_
    have hf := Option.some.inj hf; subst hf
    exact (show RetI F G Q cX7_film 6 .int y_1 (t, r) from hK) rfl _ _ dX7_film_18
theorem c_X7_film (l : Launch) (G : GX) (n : Nat) (t : MM) (r : SR) (v1 : Int32) (v2 : Int32) (v3 : Int32) (res : Int32 × MM) (hf : f_X7_film n t v1 v2 v3 = some res) : MetC l G yX7_film cX7_film 6 (some .int) 4 (t, r) [.ref (G.2.1 0), .int v1, .int v2, .int v3] (PostI G res.1 (res.2, r)) :=
  m_I (by decide) (Nat.le_of_ble_eq_true rfl) (fun F Q C h1 h2 h3 hK => w_X7_film_e C (Rm.of h1 h3) n t r v1 v2 v3 res hf hK)
theorem cw_X7_sheet : CwV RX7 yX7_sheet cX7_sheet 4 3 (some .int) := ⟨k_745, k_743, k_744, k_1, by decide +kernel, by decide⟩
def f_X7_sheet (n : Nat) (t : MM) (v1 : Int32) (v2 : Int32) (v3 : Int32) : Option (Int32 × MM) :=
  b1 (f_X7_isSheet v1) (fun y_1 => (if y_1 = 0 then some ((-1 : Int32), t) else (if v2 < 0 then some ((-1 : Int32), t) else (if (3 : Int32) ≤ v2 then some ((-1 : Int32), t) else (if v3 ≤ (24 : Int32) then (if 0 ≤ v3 then ix v1 4 (b1 (f_X3_renew n t (30 + 2 * v1.toNatClampNeg) v2 v3) (fun y_3 => some (v3, y_3))) else some ((-14 : Int32), t)) else some ((-1 : Int32), t))))))
set_option maxHeartbeats 4000000 in
theorem w_X7_sheet_e {F : FX} {G : GX} {Q : State → Prop} (C : Cx F G cX7_sheet 4 RX7) (hR : Rm F 3) (n : Nat) (t : MM) (r : SR)  (v1 : Int32) (v2 : Int32) (v3 : Int32) (res : Int32 × MM) (hf : f_X7_sheet n t v1 v2 v3 = some res) (hK : RetI F G Q cX7_sheet 4 .int res.1 (res.2, r)) : At F G Q 4 0 [(0, .ref (G.2.1 0)), (1, .int v1), (2, .int v2), (3, .int v3)] [] (t, r) := by
  unfold f_X7_sheet at hf
  refine a_iload_n C (i := 1) (q := 1) dX7_sheet_0 rfl 1 rfl rfl ?_
  refine a_callSI C (q := 4) (As := [.int v1]) (st := []) dX7_sheet_1 hR (by decide) hf (fun b => b) (fun _ => (t, r)) cw_X7_isSheet (fun b hb => c_X7_isSheet _ G t r v1 b hb) rfl rfl (Nat.le_of_ble_eq_true rfl) k_722 rfl (fun y_1 hf => ?_)
  refine a_if_eq C (tgt := 22) (q := 7) dX7_sheet_4 hf (by decide) rfl (fun hf => ?_) (fun hf => ?_)
  · refine a_iconst C (v := (-1 : Int32)) (q := 23) dX7_sheet_22 rfl (by decide) ?_
    have hf := Option.some.inj hf; subst hf
    exact (show RetI F G Q cX7_sheet 4 .int (-1 : Int32) (t, r) from hK) rfl _ _ dX7_sheet_23
  · refine a_iload_n C (i := 2) (q := 8) dX7_sheet_7 rfl 2 rfl rfl ?_
    refine a_if_lt C (tgt := 22) (q := 11) dX7_sheet_8 hf (by decide) rfl (fun hf => ?_) (fun hf => ?_)
    · refine a_iconst C (v := (-1 : Int32)) (q := 23) dX7_sheet_22 rfl (by decide) ?_
      have hf := Option.some.inj hf; subst hf
      exact (show RetI F G Q cX7_sheet 4 .int (-1 : Int32) (t, r) from hK) rfl _ _ dX7_sheet_23
    · refine a_iload_n C (i := 2) (q := 12) dX7_sheet_11 rfl 2 rfl rfl ?_
      refine a_iconst C (v := (3 : Int32)) (q := 13) dX7_sheet_12 rfl (by decide) ?_
      refine a_icmp_ge C (tgt := 22) (q := 16) dX7_sheet_13 hf (by decide) rfl (fun hf => ?_) (fun hf => ?_)
      · refine a_iconst C (v := (-1 : Int32)) (q := 23) dX7_sheet_22 rfl (by decide) ?_
        have hf := Option.some.inj hf; subst hf
        exact (show RetI F G Q cX7_sheet 4 .int (-1 : Int32) (t, r) from hK) rfl _ _ dX7_sheet_23
      · refine a_iload_n C (i := 3) (q := 17) dX7_sheet_16 rfl 3 rfl rfl ?_
        refine a_bipush C (v := (24 : Int32)) (q := 19) dX7_sheet_17 rfl (by decide) ?_
        refine a_icmp_le C (tgt := 24) (q := 22) dX7_sheet_19 hf (by decide) rfl (fun hf => ?_) (fun hf => ?_)
        · refine a_iload_n C (i := 3) (q := 25) dX7_sheet_24 rfl 3 rfl rfl ?_
          refine a_if_ge C (tgt := 31) (q := 28) dX7_sheet_25 hf (by decide) rfl (fun hf => ?_) (fun hf => ?_)
          · refine a_aload_n C (i := 0) (q := 32) dX7_sheet_31 rfl 0 rfl rfl ?_
            refine a_get7 C (q := 35) dX7_sheet_32 7 (by decide) k_220 (by decide) rfl rfl rfl ?_
            refine a_iload_n C (i := 1) (q := 36) dX7_sheet_35 rfl 1 rfl rfl ?_
            refine a_aald C (q := 37) dX7_sheet_36 hf rfl (fun hi_2 hf => ?_)
            refine a_iload_n C (i := 2) (q := 38) dX7_sheet_37 rfl 2 rfl rfl ?_
            refine a_iload_n C (i := 3) (q := 39) dX7_sheet_38 rfl 3 rfl rfl ?_
            refine a_callVV C (q := 42) (As := [.int v2, .int v3]) (st := []) dX7_sheet_39 hR (by decide) hf (fun b => (b, r)) (isSh_of hi_2).lt ((isSh_of hi_2).at G _ _) rfl cw_X3_renew (fun b hb => c_X3_renew _ G n t r (30 + 2 * v1.toNatClampNeg) v2 v3 (isSh_of hi_2) b hb) rfl rfl (Nat.le_of_ble_eq_true rfl) k_746 rfl (fun y_3 hf => ?_)
            refine a_iload_n C (i := 3) (q := 43) dX7_sheet_42 rfl 3 rfl rfl ?_
            have hf := Option.some.inj hf; subst hf
            exact (show RetI F G Q cX7_sheet 4 .int v3 (y_3, r) from hK) rfl _ _ dX7_sheet_43
          · refine a_bipush C (v := (-14 : Int32)) (q := 30) dX7_sheet_28 rfl (by decide) ?_
            have hf := Option.some.inj hf; subst hf
            exact (show RetI F G Q cX7_sheet 4 .int (-14 : Int32) (t, r) from hK) rfl _ _ dX7_sheet_30
        · refine a_iconst C (v := (-1 : Int32)) (q := 23) dX7_sheet_22 rfl (by decide) ?_
          have hf := Option.some.inj hf; subst hf
          exact (show RetI F G Q cX7_sheet 4 .int (-1 : Int32) (t, r) from hK) rfl _ _ dX7_sheet_23
theorem c_X7_sheet (l : Launch) (G : GX) (n : Nat) (t : MM) (r : SR) (v1 : Int32) (v2 : Int32) (v3 : Int32) (res : Int32 × MM) (hf : f_X7_sheet n t v1 v2 v3 = some res) : MetC l G yX7_sheet cX7_sheet 4 (some .int) 3 (t, r) [.ref (G.2.1 0), .int v1, .int v2, .int v3] (PostI G res.1 (res.2, r)) :=
  m_I (by decide) (Nat.le_of_ble_eq_true rfl) (fun F Q C h1 h2 h3 hK => w_X7_sheet_e C (Rm.of h1 h3) n t r v1 v2 v3 res hf hK)
theorem cw_X7_drop : CwV RX7 yX7_drop cX7_drop 2 1 (some .int) := ⟨k_753, k_751, k_752, k_1, by decide +kernel, by decide⟩
def f_X7_drop (t : MM) (v1 : Int32) : Option (Int32 × MM) :=
  b1 (f_X7_isSheet v1) (fun y_1 => (if y_1 = 0 then some ((-1 : Int32), t) else ix v1 4 ((if (t (30 + 2 * v1.toNatClampNeg) 1) = 0 then some ((-11 : Int32), t) else ix v1 4 (nm (st1 t (30 + 2 * v1.toNatClampNeg) 1 (0 : Int32)) (fun t_4 => ix v1 4 (some (t_4 (30 + 2 * v1.toNatClampNeg) 3, t_4))))))))
set_option maxHeartbeats 4000000 in
theorem w_X7_drop_e {F : FX} {G : GX} {Q : State → Prop} (C : Cx F G cX7_drop 2 RX7) (hR : Rm F 3) (t : MM) (r : SR)  (v1 : Int32) (res : Int32 × MM) (hf : f_X7_drop t v1 = some res) (hK : RetI F G Q cX7_drop 2 .int res.1 (res.2, r)) : At F G Q 2 0 [(0, .ref (G.2.1 0)), (1, .int v1)] [] (t, r) := by
  unfold f_X7_drop at hf
  refine a_iload_n C (i := 1) (q := 1) dX7_drop_0 rfl 1 rfl rfl ?_
  refine a_callSI C (q := 4) (As := [.int v1]) (st := []) dX7_drop_1 hR (by decide) hf (fun b => b) (fun _ => (t, r)) cw_X7_isSheet (fun b hb => c_X7_isSheet _ G t r v1 b hb) rfl rfl (Nat.le_of_ble_eq_true rfl) k_722 rfl (fun y_1 hf => ?_)
  refine a_if_ne C (tgt := 9) (q := 7) dX7_drop_4 hf (by decide) rfl (fun hf => ?_) (fun hf => ?_)
  · refine a_aload_n C (i := 0) (q := 10) dX7_drop_9 rfl 0 rfl rfl ?_
    refine a_get7 C (q := 13) dX7_drop_10 7 (by decide) k_220 (by decide) rfl rfl rfl ?_
    refine a_iload_n C (i := 1) (q := 14) dX7_drop_13 rfl 1 rfl rfl ?_
    refine a_aald C (q := 15) dX7_drop_14 hf rfl (fun hi_2 hf => ?_)
    refine a_get3 C (q := 18) dX7_drop_15 1 (by decide) k_199 (isSh_of hi_2).lt ((isSh_of hi_2).at G _ _) rfl rfl ?_
    refine a_if_ne C (tgt := 24) (q := 21) dX7_drop_18 hf (by decide) rfl (fun hf => ?_) (fun hf => ?_)
    · refine a_aload_n C (i := 0) (q := 25) dX7_drop_24 rfl 0 rfl rfl ?_
      refine a_get7 C (q := 28) dX7_drop_25 7 (by decide) k_220 (by decide) rfl rfl rfl ?_
      refine a_iload_n C (i := 1) (q := 29) dX7_drop_28 rfl 1 rfl rfl ?_
      refine a_aald C (q := 30) dX7_drop_29 hf rfl (fun hi_3 hf => ?_)
      refine a_iconst C (v := (0 : Int32)) (q := 31) dX7_drop_30 rfl (by decide) ?_
      refine a_put3N C (q := 34) (mk := (fun z => (z, r))) dX7_drop_31 hf 1 (by decide) k_199 (isSh_of hi_3).lt ((isSh_of hi_3).at G _ _) ((isSh_of hi_3).put (by decide) (by decide) G _ _ _) cellE_C1 rfl rfl rfl (Nat.le_of_ble_eq_true rfl) rfl (fun t_4 hf => ?_)
      refine a_aload_n C (i := 0) (q := 35) dX7_drop_34 rfl 0 rfl rfl ?_
      refine a_get7 C (q := 38) dX7_drop_35 7 (by decide) k_220 (by decide) rfl rfl rfl ?_
      refine a_iload_n C (i := 1) (q := 39) dX7_drop_38 rfl 1 rfl rfl ?_
      refine a_aald C (q := 40) dX7_drop_39 hf rfl (fun hi_5 hf => ?_)
      refine a_get3 C (q := 43) dX7_drop_40 3 (by decide) k_203 (isSh_of hi_5).lt ((isSh_of hi_5).at G _ _) rfl rfl ?_
      have hf := Option.some.inj hf; subst hf
      exact (show RetI F G Q cX7_drop 2 .int (t_4 (30 + 2 * v1.toNatClampNeg) 3) (t_4, r) from hK) rfl _ _ dX7_drop_43
    · refine a_bipush C (v := (-11 : Int32)) (q := 23) dX7_drop_21 rfl (by decide) ?_
      have hf := Option.some.inj hf; subst hf
      exact (show RetI F G Q cX7_drop 2 .int (-11 : Int32) (t, r) from hK) rfl _ _ dX7_drop_23
  · refine a_iconst C (v := (-1 : Int32)) (q := 8) dX7_drop_7 rfl (by decide) ?_
    have hf := Option.some.inj hf; subst hf
    exact (show RetI F G Q cX7_drop 2 .int (-1 : Int32) (t, r) from hK) rfl _ _ dX7_drop_8
theorem c_X7_drop (l : Launch) (G : GX) (t : MM) (r : SR) (v1 : Int32) (res : Int32 × MM) (hf : f_X7_drop t v1 = some res) : MetC l G yX7_drop cX7_drop 2 (some .int) 3 (t, r) [.ref (G.2.1 0), .int v1] (PostI G res.1 (res.2, r)) :=
  m_I (by decide) (Nat.le_of_ble_eq_true rfl) (fun F Q C h1 h2 h3 hK => w_X7_drop_e C (Rm.of h1 h3) t r v1 res hf hK)
theorem cw_X7_item : CwV RX7 yX7_item cX7_item 6 4 (some .int) := ⟨k_757, k_755, k_756, k_1, by decide +kernel, by decide⟩
def f_X7_item (t : MM) (v1 : Int32) (v2 : Int32) (v3 : Int32) (v4 : Int32) : Option (Int32 × MM) :=
  b1 (f_X7_refusalOfRow t v1 v2 v3 (1 : Int32)) (fun y_1 => (if y_1 = 0 then ix v1 4 (b1 (f_X3_write t (30 + 2 * v1.toNatClampNeg) v3 v4) (fun y_3 => some ((1 : Int32), y_3))) else some (y_1, t)))
set_option maxHeartbeats 4000000 in
theorem w_X7_item_e {F : FX} {G : GX} {Q : State → Prop} (C : Cx F G cX7_item 6 RX7) (hR : Rm F 4) (t : MM) (r : SR)  (v1 : Int32) (v2 : Int32) (v3 : Int32) (v4 : Int32) (res : Int32 × MM) (hf : f_X7_item t v1 v2 v3 v4 = some res) (hK : RetI F G Q cX7_item 6 .int res.1 (res.2, r)) : At F G Q 6 0 [(0, .ref (G.2.1 0)), (1, .int v1), (2, .int v2), (3, .int v3), (4, .int v4)] [] (t, r) := by
  unfold f_X7_item at hf
  refine a_aload_n C (i := 0) (q := 1) dX7_item_0 rfl 0 rfl rfl ?_
  refine a_iload_n C (i := 1) (q := 2) dX7_item_1 rfl 1 rfl rfl ?_
  refine a_iload_n C (i := 2) (q := 3) dX7_item_2 rfl 2 rfl rfl ?_
  refine a_iload_n C (i := 3) (q := 4) dX7_item_3 rfl 3 rfl rfl ?_
  refine a_iconst C (v := (1 : Int32)) (q := 5) dX7_item_4 rfl (by decide) ?_
  refine a_callVI C (q := 8) (As := [.int v1, .int v2, .int v3, .int (1 : Int32)]) (st := []) dX7_item_5 hR (by decide) hf (fun b => b) (fun _ => (t, r)) (by decide) rfl rfl cw_X7_refusalOfRow (fun b hb => c_X7_refusalOfRow _ G t r v1 v2 v3 (1 : Int32) b hb) rfl rfl (Nat.le_of_ble_eq_true rfl) k_718 rfl (fun y_1 hf => ?_)
  refine a_istore C (i := 5) (q := 10) (lv' := [(5, .int y_1), (0, .ref (G.2.1 0)), (1, .int v1), (2, .int v2), (3, .int v3), (4, .int v4)]) dX7_item_8 (by decide) rfl rfl ?_
  refine a_iload C (i := 5) (q := 12) dX7_item_10 rfl 0 rfl ?_
  refine a_if_eq C (tgt := 18) (q := 15) dX7_item_12 hf (by decide) rfl (fun hf => ?_) (fun hf => ?_)
  · refine a_aload_n C (i := 0) (q := 19) dX7_item_18 rfl 1 rfl rfl ?_
    refine a_get7 C (q := 22) dX7_item_19 7 (by decide) k_220 (by decide) rfl rfl rfl ?_
    refine a_iload_n C (i := 1) (q := 23) dX7_item_22 rfl 2 rfl rfl ?_
    refine a_aald C (q := 24) dX7_item_23 hf rfl (fun hi_2 hf => ?_)
    refine a_iload_n C (i := 3) (q := 25) dX7_item_24 rfl 4 rfl rfl ?_
    refine a_iload C (i := 4) (q := 27) dX7_item_25 rfl 5 rfl ?_
    refine a_callVV C (q := 30) (As := [.int v3, .int v4]) (st := []) dX7_item_27 hR (by decide) hf (fun b => (b, r)) (isSh_of hi_2).lt ((isSh_of hi_2).at G _ _) rfl cw_X3_write (fun b hb => c_X3_write _ G t r (30 + 2 * v1.toNatClampNeg) v3 v4 (isSh_of hi_2) b hb) rfl rfl (Nat.le_of_ble_eq_true rfl) k_738 rfl (fun y_3 hf => ?_)
    refine a_iconst C (v := (1 : Int32)) (q := 31) dX7_item_30 rfl (by decide) ?_
    have hf := Option.some.inj hf; subst hf
    exact (show RetI F G Q cX7_item 6 .int (1 : Int32) (y_3, r) from hK) rfl _ _ dX7_item_31
  · refine a_iload C (i := 5) (q := 17) dX7_item_15 rfl 0 rfl ?_
    have hf := Option.some.inj hf; subst hf
    exact (show RetI F G Q cX7_item 6 .int y_1 (t, r) from hK) rfl _ _ dX7_item_17
theorem c_X7_item (l : Launch) (G : GX) (t : MM) (r : SR) (v1 : Int32) (v2 : Int32) (v3 : Int32) (v4 : Int32) (res : Int32 × MM) (hf : f_X7_item t v1 v2 v3 v4 = some res) : MetC l G yX7_item cX7_item 6 (some .int) 4 (t, r) [.ref (G.2.1 0), .int v1, .int v2, .int v3, .int v4] (PostI G res.1 (res.2, r)) :=
  m_I (by decide) (Nat.le_of_ble_eq_true rfl) (fun F Q C h1 h2 h3 hK => w_X7_item_e C (Rm.of h1 h3) t r v1 v2 v3 v4 res hf hK)
theorem cw_X7_copy : CwV RX7 yX7_copy cX7_copy 8 5 (some .int) := ⟨k_761, k_759, k_760, k_1, by decide +kernel, by decide⟩
def f_X7_copy (t : MM) (v1 : Int32) (v2 : Int32) (v3 : Int32) (v4 : Int32) (v5 : Int32) : Option (Int32 × MM) :=
  b1 (f_X7_isSheet v1) (fun y_1 => (if y_1 = 0 then some ((-1 : Int32), t) else b1 (f_X7_isSheet v3) (fun y_2 => (if y_2 = 0 then some ((-1 : Int32), t) else ix v1 4 (ix v3 4 ((if (t (30 + 2 * v1.toNatClampNeg) 1) = 0 then some ((-11 : Int32), t) else (if (t (30 + 2 * v3.toNatClampNeg) 1) = 0 then some ((-11 : Int32), t) else (if (t (30 + 2 * v1.toNatClampNeg) 2) = (t (30 + 2 * v3.toNatClampNeg) 2) then b1 (f_X3_hasPart t (30 + 2 * v1.toNatClampNeg) v2 v5) (fun y_5 => (if y_5 = 0 then some ((-13 : Int32), t) else b1 (f_X3_hasPart t (30 + 2 * v3.toNatClampNeg) v4 v5) (fun y_6 => (if y_6 = 0 then some ((-13 : Int32), t) else cpk v2 v4 v5 24 24 (nm (stA t (30 + 2 * v3.toNatClampNeg + 1) (va_cpy (t (30 + 2 * v1.toNatClampNeg + 1)) (t (30 + 2 * v3.toNatClampNeg + 1)) v2.toNatClampNeg v4.toNatClampNeg v5.toNatClampNeg)) (fun t_7 => some (v5, t_7))))))) else some ((-12 : Int32), t))))))))))
set_option maxHeartbeats 4000000 in
theorem w_X7_copy_e {F : FX} {G : GX} {Q : State → Prop} (C : Cx F G cX7_copy 8 RX7) (hR : Rm F 3) (t : MM) (r : SR)  (v1 : Int32) (v2 : Int32) (v3 : Int32) (v4 : Int32) (v5 : Int32) (res : Int32 × MM) (hf : f_X7_copy t v1 v2 v3 v4 v5 = some res) (hK : RetI F G Q cX7_copy 8 .int res.1 (res.2, r)) : At F G Q 8 0 [(0, .ref (G.2.1 0)), (1, .int v1), (2, .int v2), (3, .int v3), (4, .int v4), (5, .int v5)] [] (t, r) := by
  unfold f_X7_copy at hf
  refine a_iload_n C (i := 1) (q := 1) dX7_copy_0 rfl 1 rfl rfl ?_
  refine a_callSI C (q := 4) (As := [.int v1]) (st := []) dX7_copy_1 hR (by decide) hf (fun b => b) (fun _ => (t, r)) cw_X7_isSheet (fun b hb => c_X7_isSheet _ G t r v1 b hb) rfl rfl (Nat.le_of_ble_eq_true rfl) k_722 rfl (fun y_1 hf => ?_)
  refine a_if_eq C (tgt := 14) (q := 7) dX7_copy_4 hf (by decide) rfl (fun hf => ?_) (fun hf => ?_)
  · refine a_iconst C (v := (-1 : Int32)) (q := 15) dX7_copy_14 rfl (by decide) ?_
    have hf := Option.some.inj hf; subst hf
    exact (show RetI F G Q cX7_copy 8 .int (-1 : Int32) (t, r) from hK) rfl _ _ dX7_copy_15
  · refine a_iload_n C (i := 3) (q := 8) dX7_copy_7 rfl 3 rfl rfl ?_
    refine a_callSI C (q := 11) (As := [.int v3]) (st := []) dX7_copy_8 hR (by decide) hf (fun b => b) (fun _ => (t, r)) cw_X7_isSheet (fun b hb => c_X7_isSheet _ G t r v3 b hb) rfl rfl (Nat.le_of_ble_eq_true rfl) k_722 rfl (fun y_2 hf => ?_)
    refine a_if_ne C (tgt := 16) (q := 14) dX7_copy_11 hf (by decide) rfl (fun hf => ?_) (fun hf => ?_)
    · refine a_aload_n C (i := 0) (q := 17) dX7_copy_16 rfl 0 rfl rfl ?_
      refine a_get7 C (q := 20) dX7_copy_17 7 (by decide) k_220 (by decide) rfl rfl rfl ?_
      refine a_iload_n C (i := 1) (q := 21) dX7_copy_20 rfl 1 rfl rfl ?_
      refine a_aald C (q := 22) dX7_copy_21 hf rfl (fun hi_3 hf => ?_)
      refine a_astore C (i := 6) (q := 24) (lv' := [(6, .ref (G.2.1 (30 + 2 * v1.toNatClampNeg))), (0, .ref (G.2.1 0)), (1, .int v1), (2, .int v2), (3, .int v3), (4, .int v4), (5, .int v5)]) dX7_copy_22 (by decide) rfl rfl ?_
      refine a_aload_n C (i := 0) (q := 25) dX7_copy_24 rfl 1 rfl rfl ?_
      refine a_get7 C (q := 28) dX7_copy_25 7 (by decide) k_220 (by decide) rfl rfl rfl ?_
      refine a_iload_n C (i := 3) (q := 29) dX7_copy_28 rfl 4 rfl rfl ?_
      refine a_aald C (q := 30) dX7_copy_29 hf rfl (fun hi_4 hf => ?_)
      refine a_astore C (i := 7) (q := 32) (lv' := [(7, .ref (G.2.1 (30 + 2 * v3.toNatClampNeg))), (6, .ref (G.2.1 (30 + 2 * v1.toNatClampNeg))), (0, .ref (G.2.1 0)), (1, .int v1), (2, .int v2), (3, .int v3), (4, .int v4), (5, .int v5)]) dX7_copy_30 (by decide) rfl rfl ?_
      refine a_aload C (i := 6) (q := 34) dX7_copy_32 rfl 1 rfl ?_
      refine a_get3 C (q := 37) dX7_copy_34 1 (by decide) k_199 (isSh_of hi_3).lt ((isSh_of hi_3).at G _ _) rfl rfl ?_
      refine a_if_eq C (tgt := 48) (q := 40) dX7_copy_37 hf (by decide) rfl (fun hf => ?_) (fun hf => ?_)
      · refine a_bipush C (v := (-11 : Int32)) (q := 50) dX7_copy_48 rfl (by decide) ?_
        have hf := Option.some.inj hf; subst hf
        exact (show RetI F G Q cX7_copy 8 .int (-11 : Int32) (t, r) from hK) rfl _ _ dX7_copy_50
      · refine a_aload C (i := 7) (q := 42) dX7_copy_40 rfl 0 rfl ?_
        refine a_get3 C (q := 45) dX7_copy_42 1 (by decide) k_199 (isSh_of hi_4).lt ((isSh_of hi_4).at G _ _) rfl rfl ?_
        refine a_if_ne C (tgt := 51) (q := 48) dX7_copy_45 hf (by decide) rfl (fun hf => ?_) (fun hf => ?_)
        · refine a_aload C (i := 6) (q := 53) dX7_copy_51 rfl 1 rfl ?_
          refine a_get3 C (q := 56) dX7_copy_53 2 (by decide) k_201 (isSh_of hi_3).lt ((isSh_of hi_3).at G _ _) rfl rfl ?_
          refine a_aload C (i := 7) (q := 58) dX7_copy_56 rfl 0 rfl ?_
          refine a_get3 C (q := 61) dX7_copy_58 2 (by decide) k_201 (isSh_of hi_4).lt ((isSh_of hi_4).at G _ _) rfl rfl ?_
          refine a_icmp_eq C (tgt := 67) (q := 64) dX7_copy_61 hf (by decide) rfl (fun hf => ?_) (fun hf => ?_)
          · refine a_aload C (i := 6) (q := 69) dX7_copy_67 rfl 1 rfl ?_
            refine a_iload_n C (i := 2) (q := 70) dX7_copy_69 rfl 4 rfl rfl ?_
            refine a_iload C (i := 5) (q := 72) dX7_copy_70 rfl 7 rfl ?_
            refine a_callVI C (q := 75) (As := [.int v2, .int v5]) (st := []) dX7_copy_72 hR (by decide) hf (fun b => b) (fun _ => (t, r)) (isSh_of hi_3).lt ((isSh_of hi_3).at G _ _) rfl cw_X3_hasPart (fun b hb => c_X3_hasPart _ G t r (30 + 2 * v1.toNatClampNeg) v2 v5 (isSh_of hi_3) b hb) rfl rfl (Nat.le_of_ble_eq_true rfl) k_725 rfl (fun y_5 hf => ?_)
            refine a_if_eq C (tgt := 90) (q := 78) dX7_copy_75 hf (by decide) rfl (fun hf => ?_) (fun hf => ?_)
            · refine a_bipush C (v := (-13 : Int32)) (q := 92) dX7_copy_90 rfl (by decide) ?_
              have hf := Option.some.inj hf; subst hf
              exact (show RetI F G Q cX7_copy 8 .int (-13 : Int32) (t, r) from hK) rfl _ _ dX7_copy_92
            · refine a_aload C (i := 7) (q := 80) dX7_copy_78 rfl 0 rfl ?_
              refine a_iload C (i := 4) (q := 82) dX7_copy_80 rfl 6 rfl ?_
              refine a_iload C (i := 5) (q := 84) dX7_copy_82 rfl 7 rfl ?_
              refine a_callVI C (q := 87) (As := [.int v4, .int v5]) (st := []) dX7_copy_84 hR (by decide) hf (fun b => b) (fun _ => (t, r)) (isSh_of hi_4).lt ((isSh_of hi_4).at G _ _) rfl cw_X3_hasPart (fun b hb => c_X3_hasPart _ G t r (30 + 2 * v3.toNatClampNeg) v4 v5 (isSh_of hi_4) b hb) rfl rfl (Nat.le_of_ble_eq_true rfl) k_725 rfl (fun y_6 hf => ?_)
              refine a_if_ne C (tgt := 93) (q := 90) dX7_copy_87 hf (by decide) rfl (fun hf => ?_) (fun hf => ?_)
              · refine a_aload C (i := 6) (q := 95) dX7_copy_93 rfl 1 rfl ?_
                refine a_get3 C (q := 98) dX7_copy_95 0 (by decide) k_197 (isSh_of hi_3).lt ((isSh_of hi_3).at G _ _) rfl rfl ?_
                refine a_iload_n C (i := 2) (q := 99) dX7_copy_98 rfl 4 rfl rfl ?_
                refine a_aload C (i := 7) (q := 101) dX7_copy_99 rfl 0 rfl ?_
                refine a_get3 C (q := 104) dX7_copy_101 0 (by decide) k_197 (isSh_of hi_4).lt ((isSh_of hi_4).at G _ _) rfl rfl ?_
                refine a_iload C (i := 4) (q := 106) dX7_copy_104 rfl 6 rfl ?_
                refine a_iload C (i := 5) (q := 108) dX7_copy_106 rfl 7 rfl ?_
                refine a_copyN C (q := 111) (mk := (fun z => (z, r))) dX7_copy_108 hR (by decide) hf (Nat.le_of_ble_eq_true rfl) k_733 (isSh_of hi_3).lt1 (isSh_of hi_4).lt1 ((isSh_of hi_3).items G _ _) ((isSh_of hi_4).items G _ _) ((isSh_of hi_4).itput G _ _ _) cellE_C rfl (fun t_7 hf => ?_)
                refine a_iload C (i := 5) (q := 113) dX7_copy_111 rfl 7 rfl ?_
                have hf := Option.some.inj hf; subst hf
                exact (show RetI F G Q cX7_copy 8 .int v5 (t_7, r) from hK) rfl _ _ dX7_copy_113
              · refine a_bipush C (v := (-13 : Int32)) (q := 92) dX7_copy_90 rfl (by decide) ?_
                have hf := Option.some.inj hf; subst hf
                exact (show RetI F G Q cX7_copy 8 .int (-13 : Int32) (t, r) from hK) rfl _ _ dX7_copy_92
          · refine a_bipush C (v := (-12 : Int32)) (q := 66) dX7_copy_64 rfl (by decide) ?_
            have hf := Option.some.inj hf; subst hf
            exact (show RetI F G Q cX7_copy 8 .int (-12 : Int32) (t, r) from hK) rfl _ _ dX7_copy_66
        · refine a_bipush C (v := (-11 : Int32)) (q := 50) dX7_copy_48 rfl (by decide) ?_
          have hf := Option.some.inj hf; subst hf
          exact (show RetI F G Q cX7_copy 8 .int (-11 : Int32) (t, r) from hK) rfl _ _ dX7_copy_50
    · refine a_iconst C (v := (-1 : Int32)) (q := 15) dX7_copy_14 rfl (by decide) ?_
      have hf := Option.some.inj hf; subst hf
      exact (show RetI F G Q cX7_copy 8 .int (-1 : Int32) (t, r) from hK) rfl _ _ dX7_copy_15
theorem c_X7_copy (l : Launch) (G : GX) (t : MM) (r : SR) (v1 : Int32) (v2 : Int32) (v3 : Int32) (v4 : Int32) (v5 : Int32) (res : Int32 × MM) (hf : f_X7_copy t v1 v2 v3 v4 v5 = some res) : MetC l G yX7_copy cX7_copy 8 (some .int) 3 (t, r) [.ref (G.2.1 0), .int v1, .int v2, .int v3, .int v4, .int v5] (PostI G res.1 (res.2, r)) :=
  m_I (by decide) (Nat.le_of_ble_eq_true rfl) (fun F Q C h1 h2 h3 hK => w_X7_copy_e C (Rm.of h1 h3) t r v1 v2 v3 v4 v5 res hf hK)
