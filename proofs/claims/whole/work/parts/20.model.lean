theorem cw_X8_in : CwS yX8_in cX8_in 6 3 (some .boolean) := ⟨k_882, k_881, k_9, by decide +kernel, by decide⟩
def f_X8_in (v0 : Int64) (v2 : Int64) (v4 : Int64) : Option (Int32) :=
  (if (lg_cmp v0 v2) < 0 then some (0 : Int32) else (if 0 < (lg_cmp v0 v4) then some (0 : Int32) else some (1 : Int32)))
set_option maxHeartbeats 4000000 in
theorem w_X8_in_e {F : FX} {G : GX} {Q : State → Prop} (C : Cx F G cX8_in 6 RX8) (hR : Rm F 2) (s : MM) (r : SR)  (v0 : Int64) (v2 : Int64) (v4 : Int64) (res : Int32) (hf : f_X8_in v0 v2 v4 = some res) (hK : RetI F G Q cX8_in 6 .boolean res (s, r)) : At F G Q 6 0 [(0, .long v0), (2, .long v2), (4, .long v4)] [] (s, r) := by
  unfold f_X8_in at hf
  refine a_lload_n C (i := 0) (q := 1) dX8_in_0 rfl 0 rfl rfl ?_
  refine a_lload_n C (i := 2) (q := 2) dX8_in_1 rfl 1 rfl rfl ?_
  refine a_lcmp C (q := 3) dX8_in_2 rfl ?_
  refine a_if_lt C (tgt := 17) (q := 6) dX8_in_3 hf (by decide) rfl (fun hf => ?_) (fun hf => ?_)
  · refine a_iconst C (v := (0 : Int32)) (q := 18) dX8_in_17 rfl (by decide) ?_
    have hf := Option.some.inj hf; subst hf
    exact (show RetI F G Q cX8_in 6 .boolean (0 : Int32) (s, r) from hK) rfl _ _ dX8_in_18
  · refine a_lload_n C (i := 0) (q := 7) dX8_in_6 rfl 0 rfl rfl ?_
    refine a_lload C (i := 4) (q := 9) dX8_in_7 rfl 2 rfl ?_
    refine a_lcmp C (q := 10) dX8_in_9 rfl ?_
    refine a_if_gt C (tgt := 17) (q := 13) dX8_in_10 hf (by decide) rfl (fun hf => ?_) (fun hf => ?_)
    · refine a_iconst C (v := (0 : Int32)) (q := 18) dX8_in_17 rfl (by decide) ?_
      have hf := Option.some.inj hf; subst hf
      exact (show RetI F G Q cX8_in 6 .boolean (0 : Int32) (s, r) from hK) rfl _ _ dX8_in_18
    · refine a_iconst C (v := (1 : Int32)) (q := 14) dX8_in_13 rfl (by decide) ?_
      refine a_goto C (q := 18) dX8_in_14 (by decide) ?_
      have hf := Option.some.inj hf; subst hf
      exact (show RetI F G Q cX8_in 6 .boolean (1 : Int32) (s, r) from hK) rfl _ _ dX8_in_18
theorem c_X8_in (l : Launch) (G : GX) (s : MM) (r : SR) (v0 : Int64) (v2 : Int64) (v4 : Int64) (res : Int32) (hf : f_X8_in v0 v2 v4 = some res) : MetC l G yX8_in cX8_in 6 (some .boolean) 2 (s, r) [.long v0, .long v2, .long v4] (PostI G res (s, r)) :=
  m_I (by decide) (Nat.le_of_ble_eq_true rfl) (fun F Q C h1 h2 h3 hK => w_X8_in_e C (Rm.of h1 h3) s r v0 v2 v4 res hf hK)
theorem cw_X8_has : CwS yX8_has cX8_has 2 2 (some .boolean) := ⟨k_914, k_913, k_9, by decide +kernel, by decide⟩
def f_X8_has (v0 : Int32) (v1 : Int32) : Option (Int32) :=
  (if ((v0 >>> (v1 &&& 31)) &&& (1 : Int32)) = (1 : Int32) then some (1 : Int32) else some (0 : Int32))
set_option maxHeartbeats 4000000 in
theorem w_X8_has_e {F : FX} {G : GX} {Q : State → Prop} (C : Cx F G cX8_has 2 RX8) (hR : Rm F 2) (s : MM) (r : SR)  (v0 : Int32) (v1 : Int32) (res : Int32) (hf : f_X8_has v0 v1 = some res) (hK : RetI F G Q cX8_has 2 .boolean res (s, r)) : At F G Q 2 0 [(0, .int v0), (1, .int v1)] [] (s, r) := by
  unfold f_X8_has at hf
  refine a_iload_n C (i := 0) (q := 1) dX8_has_0 rfl 0 rfl rfl ?_
  refine a_iload_n C (i := 1) (q := 2) dX8_has_1 rfl 1 rfl rfl ?_
  refine a_ishr C (q := 3) dX8_has_2 rfl ?_
  refine a_iconst C (v := (1 : Int32)) (q := 4) dX8_has_3 rfl (by decide) ?_
  refine a_iand C (q := 5) dX8_has_4 rfl ?_
  refine a_iconst C (v := (1 : Int32)) (q := 6) dX8_has_5 rfl (by decide) ?_
  refine a_icmp_ne C (tgt := 13) (q := 9) dX8_has_6 hf (by decide) rfl (fun hf => ?_) (fun hf => ?_)
  · refine a_iconst C (v := (0 : Int32)) (q := 14) dX8_has_13 rfl (by decide) ?_
    have hf := Option.some.inj hf; subst hf
    exact (show RetI F G Q cX8_has 2 .boolean (0 : Int32) (s, r) from hK) rfl _ _ dX8_has_14
  · refine a_iconst C (v := (1 : Int32)) (q := 10) dX8_has_9 rfl (by decide) ?_
    refine a_goto C (q := 14) dX8_has_10 (by decide) ?_
    have hf := Option.some.inj hf; subst hf
    exact (show RetI F G Q cX8_has 2 .boolean (1 : Int32) (s, r) from hK) rfl _ _ dX8_has_14
theorem c_X8_has (l : Launch) (G : GX) (s : MM) (r : SR) (v0 : Int32) (v1 : Int32) (res : Int32) (hf : f_X8_has v0 v1 = some res) : MetC l G yX8_has cX8_has 2 (some .boolean) 2 (s, r) [.int v0, .int v1] (PostI G res (s, r)) :=
  m_I (by decide) (Nat.le_of_ble_eq_true rfl) (fun F Q C h1 h2 h3 hK => w_X8_has_e C (Rm.of h1 h3) s r v0 v1 res hf hK)
theorem cw_X8_isOne : CwV RX8 yX8_isOne cX8_isOne 2 1 (some .boolean) := ⟨k_895, k_894, kp_20, k_9, by decide +kernel, by decide⟩
def f_X8_isOne (t : SR) (v1 : Int32) : Option (Int32) :=
  b1 (f_X8_in v1.toInt64 (0 : Int64) (((t.1 39 4) - (1 : Int32)).toInt64)) (fun y_1 => bz y_1 (some y_1))
set_option maxHeartbeats 4000000 in
theorem w_X8_isOne_e {F : FX} {G : GX} {Q : State → Prop} (C : Cx F G cX8_isOne 2 RX8) (hR : Rm F 3) (s : MM) (t : SR)  (v1 : Int32) (res : Int32) (hf : f_X8_isOne t v1 = some res) (hK : RetI F G Q cX8_isOne 2 .boolean res (s, t)) : At F G Q 2 0 [(0, .ref (G.2.1 39)), (1, .int v1)] [] (s, t) := by
  unfold f_X8_isOne at hf
  refine a_iload_n C (i := 1) (q := 1) dX8_isOne_0 rfl 1 rfl rfl ?_
  refine a_i2l C (q := 2) dX8_isOne_1 rfl ?_
  refine a_lconst C (v := (0 : Int64)) (q := 3) dX8_isOne_2 rfl (by decide) ?_
  refine a_aload_n C (i := 0) (q := 4) dX8_isOne_3 rfl 0 rfl rfl ?_
  refine a_get8 C (q := 7) dX8_isOne_4 4 (by decide) k_772 (by decide) rfl rfl rfl ?_
  refine a_iconst C (v := (1 : Int32)) (q := 8) dX8_isOne_7 rfl (by decide) ?_
  refine a_isub C (q := 9) dX8_isOne_8 rfl ?_
  refine a_i2l C (q := 10) dX8_isOne_9 rfl ?_
  refine a_callSI C (q := 13) (As := [.long v1.toInt64, .long (0 : Int64), .long (((t.1 39 4) - (1 : Int32)).toInt64)]) (st := []) dX8_isOne_10 hR (by decide) hf (fun b => b) (fun _ => (s, t)) cw_X8_in (fun b hb => c_X8_in _ G s t v1.toInt64 (0 : Int64) (((t.1 39 4) - (1 : Int32)).toInt64) b hb) rfl rfl (Nat.le_of_ble_eq_true rfl) k_880 rfl (fun y_1 hf => ?_)
  obtain ⟨hz, hf⟩ := bz_some hf
  have hf := Option.some.inj hf; subst hf
  exact (show RetI F G Q cX8_isOne 2 .boolean y_1 (s, t) from hK) hz _ _ dX8_isOne_13
theorem c_X8_isOne (l : Launch) (G : GX) (s : MM) (t : SR) (v1 : Int32) (res : Int32) (hf : f_X8_isOne t v1 = some res) : MetC l G yX8_isOne cX8_isOne 2 (some .boolean) 3 (s, t) [.ref (G.2.1 39), .int v1] (PostI G res (s, t)) :=
  m_I (by decide) (Nat.le_of_ble_eq_true rfl) (fun F Q C h1 h2 h3 hK => w_X8_isOne_e C (Rm.of h1 h3) s t v1 res hf hK)
theorem cw_X8_isCar : CwS yX8_isCar cX8_isCar 1 1 (some .boolean) := ⟨k_902, k_901, k_9, by decide +kernel, by decide⟩
def f_X8_isCar (v0 : Int32) : Option (Int32) :=
  b1 (f_X8_in v0.toInt64 (0 : Int64) (11 : Int64)) (fun y_1 => bz y_1 (some y_1))
set_option maxHeartbeats 4000000 in
theorem w_X8_isCar_e {F : FX} {G : GX} {Q : State → Prop} (C : Cx F G cX8_isCar 1 RX8) (hR : Rm F 3) (s : MM) (r : SR)  (v0 : Int32) (res : Int32) (hf : f_X8_isCar v0 = some res) (hK : RetI F G Q cX8_isCar 1 .boolean res (s, r)) : At F G Q 1 0 [(0, .int v0)] [] (s, r) := by
  unfold f_X8_isCar at hf
  refine a_iload_n C (i := 0) (q := 1) dX8_isCar_0 rfl 0 rfl rfl ?_
  refine a_i2l C (q := 2) dX8_isCar_1 rfl ?_
  refine a_lconst C (v := (0 : Int64)) (q := 3) dX8_isCar_2 rfl (by decide) ?_
  refine a_ldc2 C (v := (11 : Int64)) (q := 6) dX8_isCar_3 rfl k_903 ?_
  refine a_callSI C (q := 9) (As := [.long v0.toInt64, .long (0 : Int64), .long (11 : Int64)]) (st := []) dX8_isCar_6 hR (by decide) hf (fun b => b) (fun _ => (s, r)) cw_X8_in (fun b hb => c_X8_in _ G s r v0.toInt64 (0 : Int64) (11 : Int64) b hb) rfl rfl (Nat.le_of_ble_eq_true rfl) k_880 rfl (fun y_1 hf => ?_)
  obtain ⟨hz, hf⟩ := bz_some hf
  have hf := Option.some.inj hf; subst hf
  exact (show RetI F G Q cX8_isCar 1 .boolean y_1 (s, r) from hK) hz _ _ dX8_isCar_9
theorem c_X8_isCar (l : Launch) (G : GX) (s : MM) (r : SR) (v0 : Int32) (res : Int32) (hf : f_X8_isCar v0 = some res) : MetC l G yX8_isCar cX8_isCar 1 (some .boolean) 3 (s, r) [.int v0] (PostI G res (s, r)) :=
  m_I (by decide) (Nat.le_of_ble_eq_true rfl) (fun F Q C h1 h2 h3 hK => w_X8_isCar_e C (Rm.of h1 h3) s r v0 res hf hK)
theorem cw_X8_add : CwV RX8 yX8_add cX8_add 3 2 none := ⟨k_887, k_886, kp_19, k_9, by decide +kernel, by decide⟩
def f_X8_add (t : SR) (v1 : Int32) (v2 : Int32) : Option (SR) :=
  ix (t.1 39 4) 10 (nm (sr1 t 40 ((t.1 39 4).toNatClampNeg) v1) (fun t_1 => ix (t_1.1 39 4) 10 (nm (sr1 t_1 41 ((t_1.1 39 4).toNatClampNeg) v2) (fun t_2 => ix (t_2.1 39 4) 10 (nm (sr1 t_2 42 ((t_2.1 39 4).toNatClampNeg) (12 : Int32)) (fun t_3 => ix (t_3.1 39 4) 10 (nm (sr1 t_3 43 ((t_3.1 39 4).toNatClampNeg) (-4 : Int32)) (fun t_4 => nm (sr1 t_4 39 4 ((t_4.1 39 4) + (1 : Int32))) (fun t_5 => some t_5)))))))))
set_option maxHeartbeats 4000000 in
theorem w_X8_add_e {F : FX} {G : GX} {Q : State → Prop} (C : Cx F G cX8_add 3 RX8) (hR : Rm F 2) (s : MM) (t : SR)  (v1 : Int32) (v2 : Int32) (res : SR) (hf : f_X8_add t v1 v2 = some res) (hK : RetV F G Q cX8_add 3 (s, res)) : At F G Q 3 0 [(0, .ref (G.2.1 39)), (1, .int v1), (2, .int v2)] [] (s, t) := by
  unfold f_X8_add at hf
  refine a_aload_n C (i := 0) (q := 1) dX8_add_0 rfl 0 rfl rfl ?_
  refine a_get8 C (q := 4) dX8_add_1 0 (by decide) k_768 (by decide) rfl rfl rfl ?_
  refine a_aload_n C (i := 0) (q := 5) dX8_add_4 rfl 0 rfl rfl ?_
  refine a_get8 C (q := 8) dX8_add_5 4 (by decide) k_772 (by decide) rfl rfl rfl ?_
  refine a_iload_n C (i := 1) (q := 9) dX8_add_8 rfl 1 rfl rfl ?_
  refine a_iastN C (q := 10) (mk := (fun z => (s, z))) dX8_add_9 hf (by decide) rfl rfl cellE_R1 rfl (fun t_1 hf => ?_)
  refine a_aload_n C (i := 0) (q := 11) dX8_add_10 rfl 0 rfl rfl ?_
  refine a_get8 C (q := 14) dX8_add_11 1 (by decide) k_769 (by decide) rfl rfl rfl ?_
  refine a_aload_n C (i := 0) (q := 15) dX8_add_14 rfl 0 rfl rfl ?_
  refine a_get8 C (q := 18) dX8_add_15 4 (by decide) k_772 (by decide) rfl rfl rfl ?_
  refine a_iload_n C (i := 2) (q := 19) dX8_add_18 rfl 2 rfl rfl ?_
  refine a_iastN C (q := 20) (mk := (fun z => (s, z))) dX8_add_19 hf (by decide) rfl rfl cellE_R1 rfl (fun t_2 hf => ?_)
  refine a_aload_n C (i := 0) (q := 21) dX8_add_20 rfl 0 rfl rfl ?_
  refine a_get8 C (q := 24) dX8_add_21 2 (by decide) k_770 (by decide) rfl rfl rfl ?_
  refine a_aload_n C (i := 0) (q := 25) dX8_add_24 rfl 0 rfl rfl ?_
  refine a_get8 C (q := 28) dX8_add_25 4 (by decide) k_772 (by decide) rfl rfl rfl ?_
  refine a_bipush C (v := (12 : Int32)) (q := 30) dX8_add_28 rfl (by decide) ?_
  refine a_iastN C (q := 31) (mk := (fun z => (s, z))) dX8_add_30 hf (by decide) rfl rfl cellE_R1 rfl (fun t_3 hf => ?_)
  refine a_aload_n C (i := 0) (q := 32) dX8_add_31 rfl 0 rfl rfl ?_
  refine a_get8 C (q := 35) dX8_add_32 3 (by decide) k_771 (by decide) rfl rfl rfl ?_
  refine a_aload_n C (i := 0) (q := 36) dX8_add_35 rfl 0 rfl rfl ?_
  refine a_get8 C (q := 39) dX8_add_36 4 (by decide) k_772 (by decide) rfl rfl rfl ?_
  refine a_bipush C (v := (-4 : Int32)) (q := 41) dX8_add_39 rfl (by decide) ?_
  refine a_iastN C (q := 42) (mk := (fun z => (s, z))) dX8_add_41 hf (by decide) rfl rfl cellE_R1 rfl (fun t_4 hf => ?_)
  refine a_aload_n C (i := 0) (q := 43) dX8_add_42 rfl 0 rfl rfl ?_
  refine a_dup C (q := 44) dX8_add_43 rfl rfl ?_
  refine a_get8 C (q := 47) dX8_add_44 4 (by decide) k_772 (by decide) rfl rfl rfl ?_
  refine a_iconst C (v := (1 : Int32)) (q := 48) dX8_add_47 rfl (by decide) ?_
  refine a_iadd C (q := 49) dX8_add_48 rfl ?_
  refine a_put8N C (q := 52) (mk := (fun z => (s, z))) dX8_add_49 hf 4 (by decide) k_772 (by decide) rfl rfl cellE_R1 rfl rfl rfl (Nat.le_of_ble_eq_true rfl) rfl (fun t_5 hf => ?_)
  have hf := Option.some.inj hf; subst hf
  exact (show RetV F G Q cX8_add 3 (s, t_5) from hK) _ _ dX8_add_52
theorem c_X8_add (l : Launch) (G : GX) (s : MM) (t : SR) (v1 : Int32) (v2 : Int32) (res : SR) (hf : f_X8_add t v1 v2 = some res) : MetC l G yX8_add cX8_add 3 none 2 (s, t) [.ref (G.2.1 39), .int v1, .int v2] (PostV G (s, res)) :=
  m_V (by decide) (Nat.le_of_ble_eq_true rfl) (fun F Q C h1 h2 h3 hK => w_X8_add_e C (Rm.of h1 h3) s t v1 v2 res hf hK)
theorem cw_X8_person : CwV RX8 yX8_person cX8_person 3 2 (some .int) := ⟨k_878, k_876, k_877, k_9, by decide +kernel, by decide⟩
def f_X8_person (t : SR) (v1 : Int32) (v2 : Int32) : Option (Int32 × SR) :=
  b1 (f_X8_in v1.toInt64 (0 : Int64) (3 : Int64)) (fun y_1 => (if y_1 = 0 then some ((-1 : Int32), t) else b1 (f_X8_in v2.toInt64 (1 : Int64) (99 : Int64)) (fun y_2 => (if y_2 = 0 then some ((-1 : Int32), t) else (if (t.1 39 4) = (10 : Int32) then some ((-3 : Int32), t) else b1 (f_X8_add t v1 v2) (fun y_3 => some ((y_3.1 39 4) - (1 : Int32), y_3)))))))
set_option maxHeartbeats 4000000 in
theorem w_X8_person_e {F : FX} {G : GX} {Q : State → Prop} (C : Cx F G cX8_person 3 RX8) (hR : Rm F 3) (s : MM) (t : SR)  (v1 : Int32) (v2 : Int32) (res : Int32 × SR) (hf : f_X8_person t v1 v2 = some res) (hK : RetI F G Q cX8_person 3 .int res.1 (s, res.2)) : At F G Q 3 0 [(0, .ref (G.2.1 39)), (1, .int v1), (2, .int v2)] [] (s, t) := by
  unfold f_X8_person at hf
  refine a_iload_n C (i := 1) (q := 1) dX8_person_0 rfl 1 rfl rfl ?_
  refine a_i2l C (q := 2) dX8_person_1 rfl ?_
  refine a_lconst C (v := (0 : Int64)) (q := 3) dX8_person_2 rfl (by decide) ?_
  refine a_ldc2 C (v := (3 : Int64)) (q := 6) dX8_person_3 rfl k_879 ?_
  refine a_callSI C (q := 9) (As := [.long v1.toInt64, .long (0 : Int64), .long (3 : Int64)]) (st := []) dX8_person_6 hR (by decide) hf (fun b => b) (fun _ => (s, t)) cw_X8_in (fun b hb => c_X8_in _ G s t v1.toInt64 (0 : Int64) (3 : Int64) b hb) rfl rfl (Nat.le_of_ble_eq_true rfl) k_880 rfl (fun y_1 hf => ?_)
  refine a_if_eq C (tgt := 24) (q := 12) dX8_person_9 hf (by decide) rfl (fun hf => ?_) (fun hf => ?_)
  · refine a_iconst C (v := (-1 : Int32)) (q := 25) dX8_person_24 rfl (by decide) ?_
    have hf := Option.some.inj hf; subst hf
    exact (show RetI F G Q cX8_person 3 .int (-1 : Int32) (s, t) from hK) rfl _ _ dX8_person_25
  · refine a_iload_n C (i := 2) (q := 13) dX8_person_12 rfl 2 rfl rfl ?_
    refine a_i2l C (q := 14) dX8_person_13 rfl ?_
    refine a_lconst C (v := (1 : Int64)) (q := 15) dX8_person_14 rfl (by decide) ?_
    refine a_ldc2 C (v := (99 : Int64)) (q := 18) dX8_person_15 rfl k_883 ?_
    refine a_callSI C (q := 21) (As := [.long v2.toInt64, .long (1 : Int64), .long (99 : Int64)]) (st := []) dX8_person_18 hR (by decide) hf (fun b => b) (fun _ => (s, t)) cw_X8_in (fun b hb => c_X8_in _ G s t v2.toInt64 (1 : Int64) (99 : Int64) b hb) rfl rfl (Nat.le_of_ble_eq_true rfl) k_880 rfl (fun y_2 hf => ?_)
    refine a_if_ne C (tgt := 26) (q := 24) dX8_person_21 hf (by decide) rfl (fun hf => ?_) (fun hf => ?_)
    · refine a_aload_n C (i := 0) (q := 27) dX8_person_26 rfl 0 rfl rfl ?_
      refine a_get8 C (q := 30) dX8_person_27 4 (by decide) k_772 (by decide) rfl rfl rfl ?_
      refine a_bipush C (v := (10 : Int32)) (q := 32) dX8_person_30 rfl (by decide) ?_
      refine a_icmp_ne C (tgt := 38) (q := 35) dX8_person_32 hf (by decide) rfl (fun hf => ?_) (fun hf => ?_)
      · refine a_aload_n C (i := 0) (q := 39) dX8_person_38 rfl 0 rfl rfl ?_
        refine a_iload_n C (i := 1) (q := 40) dX8_person_39 rfl 1 rfl rfl ?_
        refine a_iload_n C (i := 2) (q := 41) dX8_person_40 rfl 2 rfl rfl ?_
        refine a_callVV C (q := 44) (As := [.int v1, .int v2]) (st := []) dX8_person_41 hR (by decide) hf (fun b => (s, b)) (by decide) rfl rfl cw_X8_add (fun b hb => c_X8_add _ G s t v1 v2 b hb) rfl rfl (Nat.le_of_ble_eq_true rfl) k_884 rfl (fun y_3 hf => ?_)
        refine a_aload_n C (i := 0) (q := 45) dX8_person_44 rfl 0 rfl rfl ?_
        refine a_get8 C (q := 48) dX8_person_45 4 (by decide) k_772 (by decide) rfl rfl rfl ?_
        refine a_iconst C (v := (1 : Int32)) (q := 49) dX8_person_48 rfl (by decide) ?_
        refine a_isub C (q := 50) dX8_person_49 rfl ?_
        have hf := Option.some.inj hf; subst hf
        exact (show RetI F G Q cX8_person 3 .int ((y_3.1 39 4) - (1 : Int32)) (s, y_3) from hK) rfl _ _ dX8_person_50
      · refine a_bipush C (v := (-3 : Int32)) (q := 37) dX8_person_35 rfl (by decide) ?_
        have hf := Option.some.inj hf; subst hf
        exact (show RetI F G Q cX8_person 3 .int (-3 : Int32) (s, t) from hK) rfl _ _ dX8_person_37
    · refine a_iconst C (v := (-1 : Int32)) (q := 25) dX8_person_24 rfl (by decide) ?_
      have hf := Option.some.inj hf; subst hf
      exact (show RetI F G Q cX8_person 3 .int (-1 : Int32) (s, t) from hK) rfl _ _ dX8_person_25
theorem c_X8_person (l : Launch) (G : GX) (s : MM) (t : SR) (v1 : Int32) (v2 : Int32) (res : Int32 × SR) (hf : f_X8_person t v1 v2 = some res) : MetC l G yX8_person cX8_person 3 (some .int) 3 (s, t) [.ref (G.2.1 39), .int v1, .int v2] (PostI G res.1 (s, res.2)) :=
  m_I (by decide) (Nat.le_of_ble_eq_true rfl) (fun F Q C h1 h2 h3 hK => w_X8_person_e C (Rm.of h1 h3) s t v1 v2 res hf hK)
theorem cw_X8_told : CwV RX8 yX8_told cX8_told 3 2 (some .int) := ⟨k_891, k_889, k_890, k_9, by decide +kernel, by decide⟩
def f_X8_told (t : SR) (v1 : Int32) (v2 : Int32) : Option (Int32) :=
  b1 (f_X8_isOne t v1) (fun y_1 => (if y_1 = 0 then some (-1 : Int32) else b1 (f_X8_in v2.toInt64 (0 : Int64) (3 : Int64)) (fun y_2 => (if y_2 = 0 then some (-1 : Int32) else (if v2 = 0 then ix v1 10 (some (t.1 40 v1.toNatClampNeg)) else (if v2 = (1 : Int32) then ix v1 10 (some (t.1 41 v1.toNatClampNeg)) else (if v2 = (2 : Int32) then ix v1 10 (some (t.1 42 v1.toNatClampNeg)) else ix v1 10 (some (t.1 43 v1.toNatClampNeg)))))))))
set_option maxHeartbeats 4000000 in
theorem w_X8_told_e {F : FX} {G : GX} {Q : State → Prop} (C : Cx F G cX8_told 3 RX8) (hR : Rm F 4) (s : MM) (t : SR)  (v1 : Int32) (v2 : Int32) (res : Int32) (hf : f_X8_told t v1 v2 = some res) (hK : RetI F G Q cX8_told 3 .int res (s, t)) : At F G Q 3 0 [(0, .ref (G.2.1 39)), (1, .int v1), (2, .int v2)] [] (s, t) := by
  unfold f_X8_told at hf
  refine a_aload_n C (i := 0) (q := 1) dX8_told_0 rfl 0 rfl rfl ?_
  refine a_iload_n C (i := 1) (q := 2) dX8_told_1 rfl 1 rfl rfl ?_
  refine a_callVI C (q := 5) (As := [.int v1]) (st := []) dX8_told_2 hR (by decide) hf (fun b => b) (fun _ => (s, t)) (by decide) rfl rfl cw_X8_isOne (fun b hb => c_X8_isOne _ G s t v1 b hb) rfl rfl (Nat.le_of_ble_eq_true rfl) k_892 rfl (fun y_1 hf => ?_)
  refine a_if_eq C (tgt := 20) (q := 8) dX8_told_5 hf (by decide) rfl (fun hf => ?_) (fun hf => ?_)
  · refine a_iconst C (v := (-1 : Int32)) (q := 21) dX8_told_20 rfl (by decide) ?_
    have hf := Option.some.inj hf; subst hf
    exact (show RetI F G Q cX8_told 3 .int (-1 : Int32) (s, t) from hK) rfl _ _ dX8_told_21
  · refine a_iload_n C (i := 2) (q := 9) dX8_told_8 rfl 2 rfl rfl ?_
    refine a_i2l C (q := 10) dX8_told_9 rfl ?_
    refine a_lconst C (v := (0 : Int64)) (q := 11) dX8_told_10 rfl (by decide) ?_
    refine a_ldc2 C (v := (3 : Int64)) (q := 14) dX8_told_11 rfl k_879 ?_
    refine a_callSI C (q := 17) (As := [.long v2.toInt64, .long (0 : Int64), .long (3 : Int64)]) (st := []) dX8_told_14 hR (by decide) hf (fun b => b) (fun _ => (s, t)) cw_X8_in (fun b hb => c_X8_in _ G s t v2.toInt64 (0 : Int64) (3 : Int64) b hb) rfl rfl (Nat.le_of_ble_eq_true rfl) k_880 rfl (fun y_2 hf => ?_)
    refine a_if_ne C (tgt := 22) (q := 20) dX8_told_17 hf (by decide) rfl (fun hf => ?_) (fun hf => ?_)
    · refine a_iload_n C (i := 2) (q := 23) dX8_told_22 rfl 2 rfl rfl ?_
      refine a_if_ne C (tgt := 35) (q := 26) dX8_told_23 hf (by decide) rfl (fun hf => ?_) (fun hf => ?_)
      · refine a_iload_n C (i := 2) (q := 36) dX8_told_35 rfl 2 rfl rfl ?_
        refine a_iconst C (v := (1 : Int32)) (q := 37) dX8_told_36 rfl (by decide) ?_
        refine a_icmp_ne C (tgt := 49) (q := 40) dX8_told_37 hf (by decide) rfl (fun hf => ?_) (fun hf => ?_)
        · refine a_iload_n C (i := 2) (q := 50) dX8_told_49 rfl 2 rfl rfl ?_
          refine a_iconst C (v := (2 : Int32)) (q := 51) dX8_told_50 rfl (by decide) ?_
          refine a_icmp_ne C (tgt := 63) (q := 54) dX8_told_51 hf (by decide) rfl (fun hf => ?_) (fun hf => ?_)
          · refine a_aload_n C (i := 0) (q := 64) dX8_told_63 rfl 0 rfl rfl ?_
            refine a_get8 C (q := 67) dX8_told_64 3 (by decide) k_771 (by decide) rfl rfl rfl ?_
            refine a_iload_n C (i := 1) (q := 68) dX8_told_67 rfl 1 rfl rfl ?_
            refine a_iald C (q := 69) (g := t.1 43) dX8_told_68 hf (by decide) rfl rfl (fun hf => ?_)
            have hf := Option.some.inj hf; subst hf
            exact (show RetI F G Q cX8_told 3 .int (t.1 43 v1.toNatClampNeg) (s, t) from hK) rfl _ _ dX8_told_69
          · refine a_aload_n C (i := 0) (q := 55) dX8_told_54 rfl 0 rfl rfl ?_
            refine a_get8 C (q := 58) dX8_told_55 2 (by decide) k_770 (by decide) rfl rfl rfl ?_
            refine a_iload_n C (i := 1) (q := 59) dX8_told_58 rfl 1 rfl rfl ?_
            refine a_iald C (q := 60) (g := t.1 42) dX8_told_59 hf (by decide) rfl rfl (fun hf => ?_)
            refine a_goto C (q := 69) dX8_told_60 (by decide) ?_
            have hf := Option.some.inj hf; subst hf
            exact (show RetI F G Q cX8_told 3 .int (t.1 42 v1.toNatClampNeg) (s, t) from hK) rfl _ _ dX8_told_69
        · refine a_aload_n C (i := 0) (q := 41) dX8_told_40 rfl 0 rfl rfl ?_
          refine a_get8 C (q := 44) dX8_told_41 1 (by decide) k_769 (by decide) rfl rfl rfl ?_
          refine a_iload_n C (i := 1) (q := 45) dX8_told_44 rfl 1 rfl rfl ?_
          refine a_iald C (q := 46) (g := t.1 41) dX8_told_45 hf (by decide) rfl rfl (fun hf => ?_)
          refine a_goto C (q := 69) dX8_told_46 (by decide) ?_
          have hf := Option.some.inj hf; subst hf
          exact (show RetI F G Q cX8_told 3 .int (t.1 41 v1.toNatClampNeg) (s, t) from hK) rfl _ _ dX8_told_69
      · refine a_aload_n C (i := 0) (q := 27) dX8_told_26 rfl 0 rfl rfl ?_
        refine a_get8 C (q := 30) dX8_told_27 0 (by decide) k_768 (by decide) rfl rfl rfl ?_
        refine a_iload_n C (i := 1) (q := 31) dX8_told_30 rfl 1 rfl rfl ?_
        refine a_iald C (q := 32) (g := t.1 40) dX8_told_31 hf (by decide) rfl rfl (fun hf => ?_)
        refine a_goto C (q := 69) dX8_told_32 (by decide) ?_
        have hf := Option.some.inj hf; subst hf
        exact (show RetI F G Q cX8_told 3 .int (t.1 40 v1.toNatClampNeg) (s, t) from hK) rfl _ _ dX8_told_69
    · refine a_iconst C (v := (-1 : Int32)) (q := 21) dX8_told_20 rfl (by decide) ?_
      have hf := Option.some.inj hf; subst hf
      exact (show RetI F G Q cX8_told 3 .int (-1 : Int32) (s, t) from hK) rfl _ _ dX8_told_21
theorem c_X8_told (l : Launch) (G : GX) (s : MM) (t : SR) (v1 : Int32) (v2 : Int32) (res : Int32) (hf : f_X8_told t v1 v2 = some res) : MetC l G yX8_told cX8_told 3 (some .int) 4 (s, t) [.ref (G.2.1 39), .int v1, .int v2] (PostI G res (s, t)) :=
  m_I (by decide) (Nat.le_of_ble_eq_true rfl) (fun F Q C h1 h2 h3 hK => w_X8_told_e C (Rm.of h1 h3) s t v1 v2 res hf hK)
theorem cw_X8_whoIn : CwV RX8 yX8_whoIn cX8_whoIn 4 1 (some .int) := ⟨k_907, k_906, kp_21, k_9, by decide +kernel, by decide⟩
def P_X8_whoIn_4 (F : FX) (G : GX) (Q : State → Prop) (s : MM) (t : SR) (v1 : Int32) (v2 : Int32) (v3 : Int32) : Prop := At F G Q 4 4 [(0, .ref (G.2.1 39)), (1, .int v1), (2, .int v2), (3, .int v3)] [] (s, t)
def E_X8_whoIn_4 (F : FX) (G : GX) (Q : State → Prop) (s : MM) (t : SR) (v1 : Int32) : Int32 → Prop := fun q => match q with
  | v2 => At F G Q 4 38 [(2, .int v2)] [] (s, t)
def lb_X8_whoIn_4 (n : Nat) (t : SR) (v1 : Int32) (v2 : Int32) (v3 : Int32) : Option ((Int32) ⊕ (Int32 × Int32)) :=
  (if (t.1 39 4) ≤ v3 then some (.inl v2) else ix v3 10 ((if (t.1 42 v3.toNatClampNeg) = v1 then nm (v2 ||| ((1 : Int32) <<< (v3 &&& 31))) (fun v2_3 => nm (v3 + 1) (fun v3_4 => some (.inr (v2_3, v3_4)))) else nm (v2 ||| (0 : Int32)) (fun v2_1 => nm (v3 + 1) (fun v3_2 => some (.inr (v2_1, v3_2)))))))
set_option maxHeartbeats 4000000 in
theorem w_X8_whoIn_4 {F : FX} {G : GX} {Q : State → Prop} (C : Cx F G cX8_whoIn 4 RX8) (hR : Rm F 2) (n : Nat) (s : MM) (t : SR) (v1 : Int32)  (v2 : Int32) (v3 : Int32) (res : (Int32) ⊕ (Int32 × Int32)) (hf : lb_X8_whoIn_4 n t v1 v2 v3 = some res) (hK : Sum.elim (E_X8_whoIn_4 F G Q s t v1) (fun q => match q with | (v2, v3) => P_X8_whoIn_4 F G Q s t v1 v2 v3) res) : P_X8_whoIn_4 F G Q s t v1 v2 v3 := by
  unfold lb_X8_whoIn_4 at hf
  show At F G Q 4 4 [(0, .ref (G.2.1 39)), (1, .int v1), (2, .int v2), (3, .int v3)] [] (s, t)
  refine a_iload_n C (i := 3) (q := 5) dX8_whoIn_4 rfl 3 rfl rfl ?_
  refine a_aload_n C (i := 0) (q := 6) dX8_whoIn_5 rfl 0 rfl rfl ?_
  refine a_get8 C (q := 9) dX8_whoIn_6 4 (by decide) k_772 (by decide) rfl rfl rfl ?_
  refine a_icmp_ge C (tgt := 38) (q := 12) dX8_whoIn_9 hf (by decide) rfl (fun hf => ?_) (fun hf => ?_)
  · have hf := Option.some.inj hf; subst hf
    exact a_sub [2] rfl (show At F G Q 4 38 [(2, .int v2)] [] (s, t) from hK)
  · refine a_iload_n C (i := 2) (q := 13) dX8_whoIn_12 rfl 2 rfl rfl ?_
    refine a_aload_n C (i := 0) (q := 14) dX8_whoIn_13 rfl 0 rfl rfl ?_
    refine a_get8 C (q := 17) dX8_whoIn_14 2 (by decide) k_770 (by decide) rfl rfl rfl ?_
    refine a_iload_n C (i := 3) (q := 18) dX8_whoIn_17 rfl 3 rfl rfl ?_
    refine a_iald C (q := 19) (g := t.1 42) dX8_whoIn_18 hf (by decide) rfl rfl (fun hf => ?_)
    refine a_iload_n C (i := 1) (q := 20) dX8_whoIn_19 rfl 1 rfl rfl ?_
    refine a_icmp_ne C (tgt := 29) (q := 23) dX8_whoIn_20 hf (by decide) rfl (fun hf => ?_) (fun hf => ?_)
    · refine a_iconst C (v := (0 : Int32)) (q := 30) dX8_whoIn_29 rfl (by decide) ?_
      refine a_ior C (q := 31) dX8_whoIn_30 rfl ?_
      refine a_istore_nN C (i := 2) (q := 32) (lv' := fun z => [(2, .int z), (0, .ref (G.2.1 39)), (1, .int v1), (3, .int v3)]) dX8_whoIn_31 hf rfl (by decide) (fun _ => rfl) rfl (fun v2_1 hf => ?_)
      refine a_iincN C (i := 3) (k := 3) (q := 35) (lv' := fun z => [(3, .int z), (2, .int v2_1), (0, .ref (G.2.1 39)), (1, .int v1)]) dX8_whoIn_32 hf rfl rfl (by decide) (fun _ => rfl) rfl (fun v3_2 hf => ?_)
      refine a_goto C (q := 4) dX8_whoIn_35 (by decide) ?_
      have hf := Option.some.inj hf; subst hf
      exact a_sub [2, 3, 1, 0] rfl (show At F G Q 4 4 [(0, .ref (G.2.1 39)), (1, .int v1), (2, .int v2_1), (3, .int v3_2)] [] (s, t) from hK)
    · refine a_iconst C (v := (1 : Int32)) (q := 24) dX8_whoIn_23 rfl (by decide) ?_
      refine a_iload_n C (i := 3) (q := 25) dX8_whoIn_24 rfl 3 rfl rfl ?_
      refine a_ishl C (q := 26) dX8_whoIn_25 rfl ?_
      refine a_goto C (q := 30) dX8_whoIn_26 (by decide) ?_
      refine a_ior C (q := 31) dX8_whoIn_30 rfl ?_
      refine a_istore_nN C (i := 2) (q := 32) (lv' := fun z => [(2, .int z), (0, .ref (G.2.1 39)), (1, .int v1), (3, .int v3)]) dX8_whoIn_31 hf rfl (by decide) (fun _ => rfl) rfl (fun v2_3 hf => ?_)
      refine a_iincN C (i := 3) (k := 3) (q := 35) (lv' := fun z => [(3, .int z), (2, .int v2_3), (0, .ref (G.2.1 39)), (1, .int v1)]) dX8_whoIn_32 hf rfl rfl (by decide) (fun _ => rfl) rfl (fun v3_4 hf => ?_)
      refine a_goto C (q := 4) dX8_whoIn_35 (by decide) ?_
      have hf := Option.some.inj hf; subst hf
      exact a_sub [2, 3, 1, 0] rfl (show At F G Q 4 4 [(0, .ref (G.2.1 39)), (1, .int v1), (2, .int v2_3), (3, .int v3_4)] [] (s, t) from hK)
theorem lp_X8_whoIn_4 {F : FX} {G : GX} {Q : State → Prop} (C : Cx F G cX8_whoIn 4 RX8) (hR : Rm F 2) (n : Nat) (s : MM) (t : SR) (v1 : Int32)  (v2 : Int32) (v3 : Int32) (x : Int32) (h : it2 (lb_X8_whoIn_4 n t v1) n v2 v3 = some x) (hE : E_X8_whoIn_4 F G Q s t v1 x) : At F G Q 4 4 [(0, .ref (G.2.1 39)), (1, .int v1), (2, .int v2), (3, .int v3)] [] (s, t) :=
  it2_ind (b := (lb_X8_whoIn_4 n t v1)) (E := E_X8_whoIn_4 F G Q s t v1) (P := fun v2 v3 => P_X8_whoIn_4 F G Q s t v1 v2 v3) (fun v2 v3 res hf hK => w_X8_whoIn_4 C hR n s t v1   v2 v3 res hf hK) n v2 v3 x h hE
def f_X8_whoIn (n : Nat) (t : SR) (v1 : Int32) : Option (Int32) :=
  b1 (it2 (lb_X8_whoIn_4 n t v1) n (0 : Int32) (0 : Int32)) (fun v2_5 => some v2_5)
set_option maxHeartbeats 4000000 in
theorem w_X8_whoIn_e {F : FX} {G : GX} {Q : State → Prop} (C : Cx F G cX8_whoIn 4 RX8) (hR : Rm F 2) (n : Nat) (s : MM) (t : SR)  (v1 : Int32) (res : Int32) (hf : f_X8_whoIn n t v1 = some res) (hK : RetI F G Q cX8_whoIn 4 .int res (s, t)) : At F G Q 4 0 [(0, .ref (G.2.1 39)), (1, .int v1)] [] (s, t) := by
  unfold f_X8_whoIn at hf
  refine a_iconst C (v := (0 : Int32)) (q := 1) dX8_whoIn_0 rfl (by decide) ?_
  refine a_istore_n C (i := 2) (q := 2) (lv' := [(2, .int (0 : Int32)), (0, .ref (G.2.1 39)), (1, .int v1)]) dX8_whoIn_1 rfl (by decide) rfl rfl ?_
  refine a_iconst C (v := (0 : Int32)) (q := 3) dX8_whoIn_2 rfl (by decide) ?_
  refine a_istore_n C (i := 3) (q := 4) (lv' := [(3, .int (0 : Int32)), (2, .int (0 : Int32)), (0, .ref (G.2.1 39)), (1, .int v1)]) dX8_whoIn_3 rfl (by decide) rfl rfl ?_
  obtain ⟨v2_5, h1, hf⟩ := b1_some hf
  refine a_sub [2, 3, 1, 0] rfl (lp_X8_whoIn_4 C hR n s t v1  (0 : Int32) (0 : Int32) _ h1 ?_)
  show At F G Q 4 38 [(2, .int v2_5)] [] (s, t)
  refine a_iload_n C (i := 2) (q := 39) dX8_whoIn_38 rfl 0 rfl rfl ?_
  have hf := Option.some.inj hf; subst hf
  exact (show RetI F G Q cX8_whoIn 4 .int v2_5 (s, t) from hK) rfl _ _ dX8_whoIn_39
theorem c_X8_whoIn (l : Launch) (G : GX) (n : Nat) (s : MM) (t : SR) (v1 : Int32) (res : Int32) (hf : f_X8_whoIn n t v1 = some res) : MetC l G yX8_whoIn cX8_whoIn 4 (some .int) 2 (s, t) [.ref (G.2.1 39), .int v1] (PostI G res (s, t)) :=
  m_I (by decide) (Nat.le_of_ble_eq_true rfl) (fun F Q C h1 h2 h3 hK => w_X8_whoIn_e C (Rm.of h1 h3) n s t v1 res hf hK)
theorem cw_X8_seatsOf : CwV RX8 yX8_seatsOf cX8_seatsOf 4 1 (some .int) := ⟨k_918, k_917, kp_23, k_9, by decide +kernel, by decide⟩
def P_X8_seatsOf_4 (F : FX) (G : GX) (Q : State → Prop) (s : MM) (t : SR) (v1 : Int32) (v2 : Int32) (v3 : Int32) : Prop := At F G Q 4 4 [(0, .ref (G.2.1 39)), (1, .int v1), (2, .int v2), (3, .int v3)] [] (s, t)
def E_X8_seatsOf_4 (F : FX) (G : GX) (Q : State → Prop) (s : MM) (t : SR) (v1 : Int32) : Int32 → Prop := fun q => match q with
  | v2 => At F G Q 4 48 [(2, .int v2)] [] (s, t)
def lb_X8_seatsOf_4 (n : Nat) (t : SR) (v1 : Int32) (v2 : Int32) (v3 : Int32) : Option ((Int32) ⊕ (Int32 × Int32)) :=
  (if (t.1 39 4) ≤ v3 then some (.inl v2) else b1 (f_X8_has v1 v3) (fun y_1 => (if y_1 = 0 then nm (v2 + (0 : Int32)) (fun v2_2 => nm (v3 + 1) (fun v3_3 => some (.inr (v2_2, v3_3)))) else ix v3 10 ((if (t.1 40 v3.toNatClampNeg) < (2 : Int32) then nm (v2 + (1 : Int32)) (fun v2_4 => nm (v3 + 1) (fun v3_5 => some (.inr (v2_4, v3_5)))) else nm (v2 + (2 : Int32)) (fun v2_6 => nm (v3 + 1) (fun v3_7 => some (.inr (v2_6, v3_7)))))))))
set_option maxHeartbeats 4000000 in
theorem w_X8_seatsOf_4 {F : FX} {G : GX} {Q : State → Prop} (C : Cx F G cX8_seatsOf 4 RX8) (hR : Rm F 3) (n : Nat) (s : MM) (t : SR) (v1 : Int32)  (v2 : Int32) (v3 : Int32) (res : (Int32) ⊕ (Int32 × Int32)) (hf : lb_X8_seatsOf_4 n t v1 v2 v3 = some res) (hK : Sum.elim (E_X8_seatsOf_4 F G Q s t v1) (fun q => match q with | (v2, v3) => P_X8_seatsOf_4 F G Q s t v1 v2 v3) res) : P_X8_seatsOf_4 F G Q s t v1 v2 v3 := by
  unfold lb_X8_seatsOf_4 at hf
  show At F G Q 4 4 [(0, .ref (G.2.1 39)), (1, .int v1), (2, .int v2), (3, .int v3)] [] (s, t)
  refine a_iload_n C (i := 3) (q := 5) dX8_seatsOf_4 rfl 3 rfl rfl ?_
  refine a_aload_n C (i := 0) (q := 6) dX8_seatsOf_5 rfl 0 rfl rfl ?_
  refine a_get8 C (q := 9) dX8_seatsOf_6 4 (by decide) k_772 (by decide) rfl rfl rfl ?_
  refine a_icmp_ge C (tgt := 48) (q := 12) dX8_seatsOf_9 hf (by decide) rfl (fun hf => ?_) (fun hf => ?_)
  · have hf := Option.some.inj hf; subst hf
    exact a_sub [2] rfl (show At F G Q 4 48 [(2, .int v2)] [] (s, t) from hK)
  · refine a_iload_n C (i := 2) (q := 13) dX8_seatsOf_12 rfl 2 rfl rfl ?_
    refine a_iload_n C (i := 1) (q := 14) dX8_seatsOf_13 rfl 1 rfl rfl ?_
    refine a_iload_n C (i := 3) (q := 15) dX8_seatsOf_14 rfl 3 rfl rfl ?_
    refine a_callSI C (q := 18) (As := [.int v1, .int v3]) (st := [.int v2]) dX8_seatsOf_15 hR (by decide) hf (fun b => b) (fun _ => (s, t)) cw_X8_has (fun b hb => c_X8_has _ G s t v1 v3 b hb) rfl rfl (Nat.le_of_ble_eq_true rfl) k_912 rfl (fun y_1 hf => ?_)
    refine a_if_eq C (tgt := 39) (q := 21) dX8_seatsOf_18 hf (by decide) rfl (fun hf => ?_) (fun hf => ?_)
    · refine a_iconst C (v := (0 : Int32)) (q := 40) dX8_seatsOf_39 rfl (by decide) ?_
      refine a_iadd C (q := 41) dX8_seatsOf_40 rfl ?_
      refine a_istore_nN C (i := 2) (q := 42) (lv' := fun z => [(2, .int z), (0, .ref (G.2.1 39)), (1, .int v1), (3, .int v3)]) dX8_seatsOf_41 hf rfl (by decide) (fun _ => rfl) rfl (fun v2_2 hf => ?_)
      refine a_iincN C (i := 3) (k := 3) (q := 45) (lv' := fun z => [(3, .int z), (2, .int v2_2), (0, .ref (G.2.1 39)), (1, .int v1)]) dX8_seatsOf_42 hf rfl rfl (by decide) (fun _ => rfl) rfl (fun v3_3 hf => ?_)
      refine a_goto C (q := 4) dX8_seatsOf_45 (by decide) ?_
      have hf := Option.some.inj hf; subst hf
      exact a_sub [2, 3, 1, 0] rfl (show At F G Q 4 4 [(0, .ref (G.2.1 39)), (1, .int v1), (2, .int v2_2), (3, .int v3_3)] [] (s, t) from hK)
    · refine a_aload_n C (i := 0) (q := 22) dX8_seatsOf_21 rfl 0 rfl rfl ?_
      refine a_get8 C (q := 25) dX8_seatsOf_22 0 (by decide) k_768 (by decide) rfl rfl rfl ?_
      refine a_iload_n C (i := 3) (q := 26) dX8_seatsOf_25 rfl 3 rfl rfl ?_
      refine a_iald C (q := 27) (g := t.1 40) dX8_seatsOf_26 hf (by decide) rfl rfl (fun hf => ?_)
      refine a_iconst C (v := (2 : Int32)) (q := 28) dX8_seatsOf_27 rfl (by decide) ?_
      refine a_icmp_lt C (tgt := 35) (q := 31) dX8_seatsOf_28 hf (by decide) rfl (fun hf => ?_) (fun hf => ?_)
      · refine a_iconst C (v := (1 : Int32)) (q := 36) dX8_seatsOf_35 rfl (by decide) ?_
        refine a_goto C (q := 40) dX8_seatsOf_36 (by decide) ?_
        refine a_iadd C (q := 41) dX8_seatsOf_40 rfl ?_
        refine a_istore_nN C (i := 2) (q := 42) (lv' := fun z => [(2, .int z), (0, .ref (G.2.1 39)), (1, .int v1), (3, .int v3)]) dX8_seatsOf_41 hf rfl (by decide) (fun _ => rfl) rfl (fun v2_4 hf => ?_)
        refine a_iincN C (i := 3) (k := 3) (q := 45) (lv' := fun z => [(3, .int z), (2, .int v2_4), (0, .ref (G.2.1 39)), (1, .int v1)]) dX8_seatsOf_42 hf rfl rfl (by decide) (fun _ => rfl) rfl (fun v3_5 hf => ?_)
        refine a_goto C (q := 4) dX8_seatsOf_45 (by decide) ?_
        have hf := Option.some.inj hf; subst hf
        exact a_sub [2, 3, 1, 0] rfl (show At F G Q 4 4 [(0, .ref (G.2.1 39)), (1, .int v1), (2, .int v2_4), (3, .int v3_5)] [] (s, t) from hK)
      · refine a_iconst C (v := (2 : Int32)) (q := 32) dX8_seatsOf_31 rfl (by decide) ?_
        refine a_goto C (q := 40) dX8_seatsOf_32 (by decide) ?_
        refine a_iadd C (q := 41) dX8_seatsOf_40 rfl ?_
        refine a_istore_nN C (i := 2) (q := 42) (lv' := fun z => [(2, .int z), (0, .ref (G.2.1 39)), (1, .int v1), (3, .int v3)]) dX8_seatsOf_41 hf rfl (by decide) (fun _ => rfl) rfl (fun v2_6 hf => ?_)
        refine a_iincN C (i := 3) (k := 3) (q := 45) (lv' := fun z => [(3, .int z), (2, .int v2_6), (0, .ref (G.2.1 39)), (1, .int v1)]) dX8_seatsOf_42 hf rfl rfl (by decide) (fun _ => rfl) rfl (fun v3_7 hf => ?_)
        refine a_goto C (q := 4) dX8_seatsOf_45 (by decide) ?_
        have hf := Option.some.inj hf; subst hf
        exact a_sub [2, 3, 1, 0] rfl (show At F G Q 4 4 [(0, .ref (G.2.1 39)), (1, .int v1), (2, .int v2_6), (3, .int v3_7)] [] (s, t) from hK)
theorem lp_X8_seatsOf_4 {F : FX} {G : GX} {Q : State → Prop} (C : Cx F G cX8_seatsOf 4 RX8) (hR : Rm F 3) (n : Nat) (s : MM) (t : SR) (v1 : Int32)  (v2 : Int32) (v3 : Int32) (x : Int32) (h : it2 (lb_X8_seatsOf_4 n t v1) n v2 v3 = some x) (hE : E_X8_seatsOf_4 F G Q s t v1 x) : At F G Q 4 4 [(0, .ref (G.2.1 39)), (1, .int v1), (2, .int v2), (3, .int v3)] [] (s, t) :=
  it2_ind (b := (lb_X8_seatsOf_4 n t v1)) (E := E_X8_seatsOf_4 F G Q s t v1) (P := fun v2 v3 => P_X8_seatsOf_4 F G Q s t v1 v2 v3) (fun v2 v3 res hf hK => w_X8_seatsOf_4 C hR n s t v1   v2 v3 res hf hK) n v2 v3 x h hE
def f_X8_seatsOf (n : Nat) (t : SR) (v1 : Int32) : Option (Int32) :=
  b1 (it2 (lb_X8_seatsOf_4 n t v1) n (0 : Int32) (0 : Int32)) (fun v2_8 => some v2_8)
set_option maxHeartbeats 4000000 in
theorem w_X8_seatsOf_e {F : FX} {G : GX} {Q : State → Prop} (C : Cx F G cX8_seatsOf 4 RX8) (hR : Rm F 3) (n : Nat) (s : MM) (t : SR)  (v1 : Int32) (res : Int32) (hf : f_X8_seatsOf n t v1 = some res) (hK : RetI F G Q cX8_seatsOf 4 .int res (s, t)) : At F G Q 4 0 [(0, .ref (G.2.1 39)), (1, .int v1)] [] (s, t) := by
  unfold f_X8_seatsOf at hf
  refine a_iconst C (v := (0 : Int32)) (q := 1) dX8_seatsOf_0 rfl (by decide) ?_
  refine a_istore_n C (i := 2) (q := 2) (lv' := [(2, .int (0 : Int32)), (0, .ref (G.2.1 39)), (1, .int v1)]) dX8_seatsOf_1 rfl (by decide) rfl rfl ?_
  refine a_iconst C (v := (0 : Int32)) (q := 3) dX8_seatsOf_2 rfl (by decide) ?_
  refine a_istore_n C (i := 3) (q := 4) (lv' := [(3, .int (0 : Int32)), (2, .int (0 : Int32)), (0, .ref (G.2.1 39)), (1, .int v1)]) dX8_seatsOf_3 rfl (by decide) rfl rfl ?_
  obtain ⟨v2_8, h1, hf⟩ := b1_some hf
  refine a_sub [2, 3, 1, 0] rfl (lp_X8_seatsOf_4 C hR n s t v1  (0 : Int32) (0 : Int32) _ h1 ?_)
  show At F G Q 4 48 [(2, .int v2_8)] [] (s, t)
  refine a_iload_n C (i := 2) (q := 49) dX8_seatsOf_48 rfl 0 rfl rfl ?_
  have hf := Option.some.inj hf; subst hf
  exact (show RetI F G Q cX8_seatsOf 4 .int v2_8 (s, t) from hK) rfl _ _ dX8_seatsOf_49
theorem c_X8_seatsOf (l : Launch) (G : GX) (n : Nat) (s : MM) (t : SR) (v1 : Int32) (res : Int32) (hf : f_X8_seatsOf n t v1 = some res) : MetC l G yX8_seatsOf cX8_seatsOf 4 (some .int) 3 (s, t) [.ref (G.2.1 39), .int v1] (PostI G res (s, t)) :=
  m_I (by decide) (Nat.le_of_ble_eq_true rfl) (fun F Q C h1 h2 h3 hK => w_X8_seatsOf_e C (Rm.of h1 h3) n s t v1 res hf hK)
theorem cw_X8_weightOf : CwV RX8 yX8_weightOf cX8_weightOf 4 1 (some .int) := ⟨k_911, k_910, kp_22, k_9, by decide +kernel, by decide⟩
def P_X8_weightOf_4 (F : FX) (G : GX) (Q : State → Prop) (s : MM) (t : SR) (v1 : Int32) (v2 : Int32) (v3 : Int32) : Prop := At F G Q 4 4 [(0, .ref (G.2.1 39)), (1, .int v1), (2, .int v2), (3, .int v3)] [] (s, t)
def E_X8_weightOf_4 (F : FX) (G : GX) (Q : State → Prop) (s : MM) (t : SR) (v1 : Int32) : Int32 → Prop := fun q => match q with
  | v2 => At F G Q 4 39 [(2, .int v2)] [] (s, t)
def lb_X8_weightOf_4 (n : Nat) (t : SR) (v1 : Int32) (v2 : Int32) (v3 : Int32) : Option ((Int32) ⊕ (Int32 × Int32)) :=
  (if (t.1 39 4) ≤ v3 then some (.inl v2) else b1 (f_X8_has v1 v3) (fun y_1 => (if y_1 = 0 then nm (v2 + (0 : Int32)) (fun v2_2 => nm (v3 + 1) (fun v3_3 => some (.inr (v2_2, v3_3)))) else ix v3 10 (nm (v2 + (t.1 41 v3.toNatClampNeg)) (fun v2_4 => nm (v3 + 1) (fun v3_5 => some (.inr (v2_4, v3_5))))))))
set_option maxHeartbeats 4000000 in
theorem w_X8_weightOf_4 {F : FX} {G : GX} {Q : State → Prop} (C : Cx F G cX8_weightOf 4 RX8) (hR : Rm F 3) (n : Nat) (s : MM) (t : SR) (v1 : Int32)  (v2 : Int32) (v3 : Int32) (res : (Int32) ⊕ (Int32 × Int32)) (hf : lb_X8_weightOf_4 n t v1 v2 v3 = some res) (hK : Sum.elim (E_X8_weightOf_4 F G Q s t v1) (fun q => match q with | (v2, v3) => P_X8_weightOf_4 F G Q s t v1 v2 v3) res) : P_X8_weightOf_4 F G Q s t v1 v2 v3 := by
  unfold lb_X8_weightOf_4 at hf
  show At F G Q 4 4 [(0, .ref (G.2.1 39)), (1, .int v1), (2, .int v2), (3, .int v3)] [] (s, t)
  refine a_iload_n C (i := 3) (q := 5) dX8_weightOf_4 rfl 3 rfl rfl ?_
  refine a_aload_n C (i := 0) (q := 6) dX8_weightOf_5 rfl 0 rfl rfl ?_
  refine a_get8 C (q := 9) dX8_weightOf_6 4 (by decide) k_772 (by decide) rfl rfl rfl ?_
  refine a_icmp_ge C (tgt := 39) (q := 12) dX8_weightOf_9 hf (by decide) rfl (fun hf => ?_) (fun hf => ?_)
  · have hf := Option.some.inj hf; subst hf
    exact a_sub [2] rfl (show At F G Q 4 39 [(2, .int v2)] [] (s, t) from hK)
  · refine a_iload_n C (i := 2) (q := 13) dX8_weightOf_12 rfl 2 rfl rfl ?_
    refine a_iload_n C (i := 1) (q := 14) dX8_weightOf_13 rfl 1 rfl rfl ?_
    refine a_iload_n C (i := 3) (q := 15) dX8_weightOf_14 rfl 3 rfl rfl ?_
    refine a_callSI C (q := 18) (As := [.int v1, .int v3]) (st := [.int v2]) dX8_weightOf_15 hR (by decide) hf (fun b => b) (fun _ => (s, t)) cw_X8_has (fun b hb => c_X8_has _ G s t v1 v3 b hb) rfl rfl (Nat.le_of_ble_eq_true rfl) k_912 rfl (fun y_1 hf => ?_)
    refine a_if_eq C (tgt := 30) (q := 21) dX8_weightOf_18 hf (by decide) rfl (fun hf => ?_) (fun hf => ?_)
    · refine a_iconst C (v := (0 : Int32)) (q := 31) dX8_weightOf_30 rfl (by decide) ?_
      refine a_iadd C (q := 32) dX8_weightOf_31 rfl ?_
      refine a_istore_nN C (i := 2) (q := 33) (lv' := fun z => [(2, .int z), (0, .ref (G.2.1 39)), (1, .int v1), (3, .int v3)]) dX8_weightOf_32 hf rfl (by decide) (fun _ => rfl) rfl (fun v2_2 hf => ?_)
      refine a_iincN C (i := 3) (k := 3) (q := 36) (lv' := fun z => [(3, .int z), (2, .int v2_2), (0, .ref (G.2.1 39)), (1, .int v1)]) dX8_weightOf_33 hf rfl rfl (by decide) (fun _ => rfl) rfl (fun v3_3 hf => ?_)
      refine a_goto C (q := 4) dX8_weightOf_36 (by decide) ?_
      have hf := Option.some.inj hf; subst hf
      exact a_sub [2, 3, 1, 0] rfl (show At F G Q 4 4 [(0, .ref (G.2.1 39)), (1, .int v1), (2, .int v2_2), (3, .int v3_3)] [] (s, t) from hK)
    · refine a_aload_n C (i := 0) (q := 22) dX8_weightOf_21 rfl 0 rfl rfl ?_
      refine a_get8 C (q := 25) dX8_weightOf_22 1 (by decide) k_769 (by decide) rfl rfl rfl ?_
      refine a_iload_n C (i := 3) (q := 26) dX8_weightOf_25 rfl 3 rfl rfl ?_
      refine a_iald C (q := 27) (g := t.1 41) dX8_weightOf_26 hf (by decide) rfl rfl (fun hf => ?_)
      refine a_goto C (q := 31) dX8_weightOf_27 (by decide) ?_
      refine a_iadd C (q := 32) dX8_weightOf_31 rfl ?_
      refine a_istore_nN C (i := 2) (q := 33) (lv' := fun z => [(2, .int z), (0, .ref (G.2.1 39)), (1, .int v1), (3, .int v3)]) dX8_weightOf_32 hf rfl (by decide) (fun _ => rfl) rfl (fun v2_4 hf => ?_)
      refine a_iincN C (i := 3) (k := 3) (q := 36) (lv' := fun z => [(3, .int z), (2, .int v2_4), (0, .ref (G.2.1 39)), (1, .int v1)]) dX8_weightOf_33 hf rfl rfl (by decide) (fun _ => rfl) rfl (fun v3_5 hf => ?_)
      refine a_goto C (q := 4) dX8_weightOf_36 (by decide) ?_
      have hf := Option.some.inj hf; subst hf
      exact a_sub [2, 3, 1, 0] rfl (show At F G Q 4 4 [(0, .ref (G.2.1 39)), (1, .int v1), (2, .int v2_4), (3, .int v3_5)] [] (s, t) from hK)
theorem lp_X8_weightOf_4 {F : FX} {G : GX} {Q : State → Prop} (C : Cx F G cX8_weightOf 4 RX8) (hR : Rm F 3) (n : Nat) (s : MM) (t : SR) (v1 : Int32)  (v2 : Int32) (v3 : Int32) (x : Int32) (h : it2 (lb_X8_weightOf_4 n t v1) n v2 v3 = some x) (hE : E_X8_weightOf_4 F G Q s t v1 x) : At F G Q 4 4 [(0, .ref (G.2.1 39)), (1, .int v1), (2, .int v2), (3, .int v3)] [] (s, t) :=
  it2_ind (b := (lb_X8_weightOf_4 n t v1)) (E := E_X8_weightOf_4 F G Q s t v1) (P := fun v2 v3 => P_X8_weightOf_4 F G Q s t v1 v2 v3) (fun v2 v3 res hf hK => w_X8_weightOf_4 C hR n s t v1   v2 v3 res hf hK) n v2 v3 x h hE
def f_X8_weightOf (n : Nat) (t : SR) (v1 : Int32) : Option (Int32) :=
  b1 (it2 (lb_X8_weightOf_4 n t v1) n (0 : Int32) (0 : Int32)) (fun v2_6 => some v2_6)
set_option maxHeartbeats 4000000 in
theorem w_X8_weightOf_e {F : FX} {G : GX} {Q : State → Prop} (C : Cx F G cX8_weightOf 4 RX8) (hR : Rm F 3) (n : Nat) (s : MM) (t : SR)  (v1 : Int32) (res : Int32) (hf : f_X8_weightOf n t v1 = some res) (hK : RetI F G Q cX8_weightOf 4 .int res (s, t)) : At F G Q 4 0 [(0, .ref (G.2.1 39)), (1, .int v1)] [] (s, t) := by
  unfold f_X8_weightOf at hf
  refine a_iconst C (v := (0 : Int32)) (q := 1) dX8_weightOf_0 rfl (by decide) ?_
  refine a_istore_n C (i := 2) (q := 2) (lv' := [(2, .int (0 : Int32)), (0, .ref (G.2.1 39)), (1, .int v1)]) dX8_weightOf_1 rfl (by decide) rfl rfl ?_
  refine a_iconst C (v := (0 : Int32)) (q := 3) dX8_weightOf_2 rfl (by decide) ?_
  refine a_istore_n C (i := 3) (q := 4) (lv' := [(3, .int (0 : Int32)), (2, .int (0 : Int32)), (0, .ref (G.2.1 39)), (1, .int v1)]) dX8_weightOf_3 rfl (by decide) rfl rfl ?_
  obtain ⟨v2_6, h1, hf⟩ := b1_some hf
  refine a_sub [2, 3, 1, 0] rfl (lp_X8_weightOf_4 C hR n s t v1  (0 : Int32) (0 : Int32) _ h1 ?_)
  show At F G Q 4 39 [(2, .int v2_6)] [] (s, t)
  refine a_iload_n C (i := 2) (q := 40) dX8_weightOf_39 rfl 0 rfl rfl ?_
  have hf := Option.some.inj hf; subst hf
  exact (show RetI F G Q cX8_weightOf 4 .int v2_6 (s, t) from hK) rfl _ _ dX8_weightOf_40
theorem c_X8_weightOf (l : Launch) (G : GX) (n : Nat) (s : MM) (t : SR) (v1 : Int32) (res : Int32) (hf : f_X8_weightOf n t v1 = some res) : MetC l G yX8_weightOf cX8_weightOf 4 (some .int) 3 (s, t) [.ref (G.2.1 39), .int v1] (PostI G res (s, t)) :=
  m_I (by decide) (Nat.le_of_ble_eq_true rfl) (fun F Q C h1 h2 h3 hK => w_X8_weightOf_e C (Rm.of h1 h3) n s t v1 res hf hK)
theorem cw_X8_fits : CwV RX8 yX8_fits cX8_fits 6 1 (some .boolean) := ⟨k_1016, k_1015, kp_36, k_9, by decide +kernel, by decide⟩
def P_X8_fits_10 (F : FX) (G : GX) (Q : State → Prop) (s : MM) (t : SR) (v1 : Int32) (v2 : Int32) (v3 : Int32) (v4 : Int32) (v5 : Int32) : Prop := At F G Q 6 10 [(0, .ref (G.2.1 39)), (1, .int v1), (2, .int v2), (3, .int v3), (4, .int v4), (5, .int v5)] [] (s, t)
def E_X8_fits_10 (F : FX) (G : GX) (Q : State → Prop) (s : MM) (t : SR) (v1 : Int32) : Int32 × Int32 × Int32 → Prop := fun q => match q with
  | (v2, v3, v4) => At F G Q 6 99 [(0, .ref (G.2.1 39)), (1, .int v1), (2, .int v2), (3, .int v3), (4, .int v4)] [] (s, t)
def f_X8_fits_69_in10 (n : Nat) (t : SR) (v1 : Int32) (v2 : Int32) (v4 : Int32) (v5 : Int32) (w0 : Int32) : Option ((Int32 × Int32 × Int32) ⊕ (Int32 × Int32 × Int32 × Int32)) :=
  (if v4 = 0 then ix v5 10 ((if (t.1 40 v5.toNatClampNeg) = (3 : Int32) then nm (v5 + 1) (fun v5_5 => some (.inr (v2, w0, (1 : Int32), v5_5))) else nm (v5 + 1) (fun v5_4 => some (.inr (v2, w0, (0 : Int32), v5_4))))) else nm (v5 + 1) (fun v5_3 => some (.inr (v2, w0, (1 : Int32), v5_3))))
set_option maxHeartbeats 4000000 in
theorem w_X8_fits_69_in10 {F : FX} {G : GX} {Q : State → Prop} (C : Cx F G cX8_fits 6 RX8) (hR : Rm F 4) (n : Nat) (s : MM) (t : SR)  (v1 : Int32) (v2 : Int32) (v4 : Int32) (v5 : Int32) (w0 : Int32) (res : (Int32 × Int32 × Int32) ⊕ (Int32 × Int32 × Int32 × Int32)) (hf : f_X8_fits_69_in10 n t v1 v2 v4 v5 w0 = some res) (hK : Sum.elim (E_X8_fits_10 F G Q s t v1) (fun q => match q with | (v2, v3, v4, v5) => P_X8_fits_10 F G Q s t v1 v2 v3 v4 v5) res) : At F G Q 6 69 [(0, .ref (G.2.1 39)), (1, .int v1), (2, .int v2), (4, .int v4), (5, .int v5)] [.int w0] (s, t) := by
  unfold f_X8_fits_69_in10 at hf
  refine a_istore_n C (i := 3) (q := 70) (lv' := [(3, .int w0), (0, .ref (G.2.1 39)), (1, .int v1), (2, .int v2), (4, .int v4), (5, .int v5)]) dX8_fits_69 rfl (by decide) rfl rfl ?_
  refine a_iload C (i := 4) (q := 72) dX8_fits_70 rfl 4 rfl ?_
  refine a_if_ne C (tgt := 86) (q := 75) dX8_fits_72 hf (by decide) rfl (fun hf => ?_) (fun hf => ?_)
  · refine a_iconst C (v := (1 : Int32)) (q := 87) dX8_fits_86 rfl (by decide) ?_
    refine a_goto C (q := 91) dX8_fits_87 (by decide) ?_
    refine a_istore C (i := 4) (q := 93) (lv' := [(4, .int (1 : Int32)), (3, .int w0), (0, .ref (G.2.1 39)), (1, .int v1), (2, .int v2), (5, .int v5)]) dX8_fits_91 (by decide) rfl rfl ?_
    refine a_iincN C (i := 5) (k := 5) (q := 96) (lv' := fun z => [(5, .int z), (4, .int (1 : Int32)), (3, .int w0), (0, .ref (G.2.1 39)), (1, .int v1), (2, .int v2)]) dX8_fits_93 hf rfl rfl (by decide) (fun _ => rfl) rfl (fun v5_3 hf => ?_)
    refine a_goto C (q := 10) dX8_fits_96 (by decide) ?_
    have hf := Option.some.inj hf; subst hf
    exact a_sub [3, 4, 5, 2, 1, 0] rfl (show At F G Q 6 10 [(0, .ref (G.2.1 39)), (1, .int v1), (2, .int v2), (3, .int w0), (4, .int (1 : Int32)), (5, .int v5_3)] [] (s, t) from hK)
  · refine a_aload_n C (i := 0) (q := 76) dX8_fits_75 rfl 1 rfl rfl ?_
    refine a_get8 C (q := 79) dX8_fits_76 0 (by decide) k_768 (by decide) rfl rfl rfl ?_
    refine a_iload C (i := 5) (q := 81) dX8_fits_79 rfl 5 rfl ?_
    refine a_iald C (q := 82) (g := t.1 40) dX8_fits_81 hf (by decide) rfl rfl (fun hf => ?_)
    refine a_iconst C (v := (3 : Int32)) (q := 83) dX8_fits_82 rfl (by decide) ?_
    refine a_icmp_ne C (tgt := 90) (q := 86) dX8_fits_83 hf (by decide) rfl (fun hf => ?_) (fun hf => ?_)
    · refine a_iconst C (v := (0 : Int32)) (q := 91) dX8_fits_90 rfl (by decide) ?_
      refine a_istore C (i := 4) (q := 93) (lv' := [(4, .int (0 : Int32)), (3, .int w0), (0, .ref (G.2.1 39)), (1, .int v1), (2, .int v2), (5, .int v5)]) dX8_fits_91 (by decide) rfl rfl ?_
      refine a_iincN C (i := 5) (k := 5) (q := 96) (lv' := fun z => [(5, .int z), (4, .int (0 : Int32)), (3, .int w0), (0, .ref (G.2.1 39)), (1, .int v1), (2, .int v2)]) dX8_fits_93 hf rfl rfl (by decide) (fun _ => rfl) rfl (fun v5_4 hf => ?_)
      refine a_goto C (q := 10) dX8_fits_96 (by decide) ?_
      have hf := Option.some.inj hf; subst hf
      exact a_sub [3, 4, 5, 2, 1, 0] rfl (show At F G Q 6 10 [(0, .ref (G.2.1 39)), (1, .int v1), (2, .int v2), (3, .int w0), (4, .int (0 : Int32)), (5, .int v5_4)] [] (s, t) from hK)
    · refine a_iconst C (v := (1 : Int32)) (q := 87) dX8_fits_86 rfl (by decide) ?_
      refine a_goto C (q := 91) dX8_fits_87 (by decide) ?_
      refine a_istore C (i := 4) (q := 93) (lv' := [(4, .int (1 : Int32)), (3, .int w0), (0, .ref (G.2.1 39)), (1, .int v1), (2, .int v2), (5, .int v5)]) dX8_fits_91 (by decide) rfl rfl ?_
      refine a_iincN C (i := 5) (k := 5) (q := 96) (lv' := fun z => [(5, .int z), (4, .int (1 : Int32)), (3, .int w0), (0, .ref (G.2.1 39)), (1, .int v1), (2, .int v2)]) dX8_fits_93 hf rfl rfl (by decide) (fun _ => rfl) rfl (fun v5_5 hf => ?_)
      refine a_goto C (q := 10) dX8_fits_96 (by decide) ?_
      have hf := Option.some.inj hf; subst hf
      exact a_sub [3, 4, 5, 2, 1, 0] rfl (show At F G Q 6 10 [(0, .ref (G.2.1 39)), (1, .int v1), (2, .int v2), (3, .int w0), (4, .int (1 : Int32)), (5, .int v5_5)] [] (s, t) from hK)
def f_X8_fits_48_in10 (n : Nat) (t : SR) (v1 : Int32) (v3 : Int32) (v4 : Int32) (v5 : Int32) (w0 : Int32) : Option ((Int32 × Int32 × Int32) ⊕ (Int32 × Int32 × Int32 × Int32)) :=
  (if v3 = 0 then ix v5 10 ((if (t.1 40 v5.toNatClampNeg) = (1 : Int32) then f_X8_fits_69_in10 n t v1 w0 v4 v5 (0 : Int32) else f_X8_fits_69_in10 n t v1 w0 v4 v5 (1 : Int32))) else f_X8_fits_69_in10 n t v1 w0 v4 v5 (1 : Int32))
set_option maxHeartbeats 4000000 in
theorem w_X8_fits_48_in10 {F : FX} {G : GX} {Q : State → Prop} (C : Cx F G cX8_fits 6 RX8) (hR : Rm F 4) (n : Nat) (s : MM) (t : SR)  (v1 : Int32) (v3 : Int32) (v4 : Int32) (v5 : Int32) (w0 : Int32) (res : (Int32 × Int32 × Int32) ⊕ (Int32 × Int32 × Int32 × Int32)) (hf : f_X8_fits_48_in10 n t v1 v3 v4 v5 w0 = some res) (hK : Sum.elim (E_X8_fits_10 F G Q s t v1) (fun q => match q with | (v2, v3, v4, v5) => P_X8_fits_10 F G Q s t v1 v2 v3 v4 v5) res) : At F G Q 6 48 [(0, .ref (G.2.1 39)), (1, .int v1), (3, .int v3), (4, .int v4), (5, .int v5)] [.int w0] (s, t) := by
  unfold f_X8_fits_48_in10 at hf
  refine a_istore_n C (i := 2) (q := 49) (lv' := [(2, .int w0), (0, .ref (G.2.1 39)), (1, .int v1), (3, .int v3), (4, .int v4), (5, .int v5)]) dX8_fits_48 rfl (by decide) rfl rfl ?_
  refine a_iload_n C (i := 3) (q := 50) dX8_fits_49 rfl 3 rfl rfl ?_
  refine a_if_ne C (tgt := 64) (q := 53) dX8_fits_50 hf (by decide) rfl (fun hf => ?_) (fun hf => ?_)
  · refine a_iconst C (v := (1 : Int32)) (q := 65) dX8_fits_64 rfl (by decide) ?_
    refine a_goto C (q := 69) dX8_fits_65 (by decide) ?_
    exact a_sub [1, 2, 0, 4, 5] rfl (w_X8_fits_69_in10 C hR n s t v1 w0 v4 v5 (1 : Int32) res hf hK)
  · refine a_aload_n C (i := 0) (q := 54) dX8_fits_53 rfl 1 rfl rfl ?_
    refine a_get8 C (q := 57) dX8_fits_54 0 (by decide) k_768 (by decide) rfl rfl rfl ?_
    refine a_iload C (i := 5) (q := 59) dX8_fits_57 rfl 5 rfl ?_
    refine a_iald C (q := 60) (g := t.1 40) dX8_fits_59 hf (by decide) rfl rfl (fun hf => ?_)
    refine a_iconst C (v := (1 : Int32)) (q := 61) dX8_fits_60 rfl (by decide) ?_
    refine a_icmp_eq C (tgt := 68) (q := 64) dX8_fits_61 hf (by decide) rfl (fun hf => ?_) (fun hf => ?_)
    · refine a_iconst C (v := (0 : Int32)) (q := 69) dX8_fits_68 rfl (by decide) ?_
      exact a_sub [1, 2, 0, 4, 5] rfl (w_X8_fits_69_in10 C hR n s t v1 w0 v4 v5 (0 : Int32) res hf hK)
    · refine a_iconst C (v := (1 : Int32)) (q := 65) dX8_fits_64 rfl (by decide) ?_
      refine a_goto C (q := 69) dX8_fits_65 (by decide) ?_
      exact a_sub [1, 2, 0, 4, 5] rfl (w_X8_fits_69_in10 C hR n s t v1 w0 v4 v5 (1 : Int32) res hf hK)
def lb_X8_fits_10 (n : Nat) (t : SR) (v1 : Int32) (v2 : Int32) (v3 : Int32) (v4 : Int32) (v5 : Int32) : Option ((Int32 × Int32 × Int32) ⊕ (Int32 × Int32 × Int32 × Int32)) :=
  (if (t.1 39 4) ≤ v5 then some (.inl (v2, v3, v4)) else b1 (f_X8_has v1 v5) (fun y_1 => (if y_1 = 0 then nm (v5 + 1) (fun v5_2 => some (.inr (v2, v3, v4, v5_2))) else (if v2 = 0 then ix v5 10 ((if (t.1 40 v5.toNatClampNeg) = (1 : Int32) then f_X8_fits_48_in10 n t v1 v3 v4 v5 (1 : Int32) else f_X8_fits_48_in10 n t v1 v3 v4 v5 (0 : Int32))) else f_X8_fits_48_in10 n t v1 v3 v4 v5 (1 : Int32)))))
set_option maxHeartbeats 4000000 in
theorem w_X8_fits_10 {F : FX} {G : GX} {Q : State → Prop} (C : Cx F G cX8_fits 6 RX8) (hR : Rm F 4) (n : Nat) (s : MM) (t : SR) (v1 : Int32)  (v2 : Int32) (v3 : Int32) (v4 : Int32) (v5 : Int32) (res : (Int32 × Int32 × Int32) ⊕ (Int32 × Int32 × Int32 × Int32)) (hf : lb_X8_fits_10 n t v1 v2 v3 v4 v5 = some res) (hK : Sum.elim (E_X8_fits_10 F G Q s t v1) (fun q => match q with | (v2, v3, v4, v5) => P_X8_fits_10 F G Q s t v1 v2 v3 v4 v5) res) : P_X8_fits_10 F G Q s t v1 v2 v3 v4 v5 := by
  unfold lb_X8_fits_10 at hf
  show At F G Q 6 10 [(0, .ref (G.2.1 39)), (1, .int v1), (2, .int v2), (3, .int v3), (4, .int v4), (5, .int v5)] [] (s, t)
  refine a_iload C (i := 5) (q := 12) dX8_fits_10 rfl 5 rfl ?_
  refine a_aload_n C (i := 0) (q := 13) dX8_fits_12 rfl 0 rfl rfl ?_
  refine a_get8 C (q := 16) dX8_fits_13 4 (by decide) k_772 (by decide) rfl rfl rfl ?_
  refine a_icmp_ge C (tgt := 99) (q := 19) dX8_fits_16 hf (by decide) rfl (fun hf => ?_) (fun hf => ?_)
  · have hf := Option.some.inj hf; subst hf
    exact a_sub [0, 1, 2, 3, 4] rfl (show At F G Q 6 99 [(0, .ref (G.2.1 39)), (1, .int v1), (2, .int v2), (3, .int v3), (4, .int v4)] [] (s, t) from hK)
  · refine a_iload_n C (i := 1) (q := 20) dX8_fits_19 rfl 1 rfl rfl ?_
    refine a_iload C (i := 5) (q := 22) dX8_fits_20 rfl 5 rfl ?_
    refine a_callSI C (q := 25) (As := [.int v1, .int v5]) (st := []) dX8_fits_22 hR (by decide) hf (fun b => b) (fun _ => (s, t)) cw_X8_has (fun b hb => c_X8_has _ G s t v1 v5 b hb) rfl rfl (Nat.le_of_ble_eq_true rfl) k_912 rfl (fun y_1 hf => ?_)
    refine a_if_eq C (tgt := 93) (q := 28) dX8_fits_25 hf (by decide) rfl (fun hf => ?_) (fun hf => ?_)
    · refine a_iincN C (i := 5) (k := 5) (q := 96) (lv' := fun z => [(5, .int z), (0, .ref (G.2.1 39)), (1, .int v1), (2, .int v2), (3, .int v3), (4, .int v4)]) dX8_fits_93 hf rfl rfl (by decide) (fun _ => rfl) rfl (fun v5_2 hf => ?_)
      refine a_goto C (q := 10) dX8_fits_96 (by decide) ?_
      have hf := Option.some.inj hf; subst hf
      exact a_sub [1, 2, 3, 4, 5, 0] rfl (show At F G Q 6 10 [(0, .ref (G.2.1 39)), (1, .int v1), (2, .int v2), (3, .int v3), (4, .int v4), (5, .int v5_2)] [] (s, t) from hK)
    · refine a_iload_n C (i := 2) (q := 29) dX8_fits_28 rfl 2 rfl rfl ?_
      refine a_if_ne C (tgt := 43) (q := 32) dX8_fits_29 hf (by decide) rfl (fun hf => ?_) (fun hf => ?_)
      · refine a_iconst C (v := (1 : Int32)) (q := 44) dX8_fits_43 rfl (by decide) ?_
        refine a_goto C (q := 48) dX8_fits_44 (by decide) ?_
        exact a_sub [0, 1, 3, 4, 5] rfl (w_X8_fits_48_in10 C hR n s t v1 v3 v4 v5 (1 : Int32) res hf hK)
      · refine a_aload_n C (i := 0) (q := 33) dX8_fits_32 rfl 0 rfl rfl ?_
        refine a_get8 C (q := 36) dX8_fits_33 0 (by decide) k_768 (by decide) rfl rfl rfl ?_
        refine a_iload C (i := 5) (q := 38) dX8_fits_36 rfl 5 rfl ?_
        refine a_iald C (q := 39) (g := t.1 40) dX8_fits_38 hf (by decide) rfl rfl (fun hf => ?_)
        refine a_iconst C (v := (1 : Int32)) (q := 40) dX8_fits_39 rfl (by decide) ?_
        refine a_icmp_ne C (tgt := 47) (q := 43) dX8_fits_40 hf (by decide) rfl (fun hf => ?_) (fun hf => ?_)
        · refine a_iconst C (v := (0 : Int32)) (q := 48) dX8_fits_47 rfl (by decide) ?_
          exact a_sub [0, 1, 3, 4, 5] rfl (w_X8_fits_48_in10 C hR n s t v1 v3 v4 v5 (0 : Int32) res hf hK)
        · refine a_iconst C (v := (1 : Int32)) (q := 44) dX8_fits_43 rfl (by decide) ?_
          refine a_goto C (q := 48) dX8_fits_44 (by decide) ?_
          exact a_sub [0, 1, 3, 4, 5] rfl (w_X8_fits_48_in10 C hR n s t v1 v3 v4 v5 (1 : Int32) res hf hK)
theorem lp_X8_fits_10 {F : FX} {G : GX} {Q : State → Prop} (C : Cx F G cX8_fits 6 RX8) (hR : Rm F 4) (n : Nat) (s : MM) (t : SR) (v1 : Int32)  (v2 : Int32) (v3 : Int32) (v4 : Int32) (v5 : Int32) (x : Int32 × Int32 × Int32) (h : it4 (lb_X8_fits_10 n t v1) n v2 v3 v4 v5 = some x) (hE : E_X8_fits_10 F G Q s t v1 x) : At F G Q 6 10 [(0, .ref (G.2.1 39)), (1, .int v1), (2, .int v2), (3, .int v3), (4, .int v4), (5, .int v5)] [] (s, t) :=
  it4_ind (b := (lb_X8_fits_10 n t v1)) (E := E_X8_fits_10 F G Q s t v1) (P := fun v2 v3 v4 v5 => P_X8_fits_10 F G Q s t v1 v2 v3 v4 v5) (fun v2 v3 v4 v5 res hf hK => w_X8_fits_10 C hR n s t v1   v2 v3 v4 v5 res hf hK) n v2 v3 v4 v5 x h hE
def f_X8_fits_116 (n : Nat) (t : SR) (v2 : Int32) (v4 : Int32) : Option (Int32) :=
  (if v2 = 0 then some (1 : Int32) else (if v4 = 0 then some (1 : Int32) else some (0 : Int32)))
set_option maxHeartbeats 4000000 in
theorem w_X8_fits_116 {F : FX} {G : GX} {Q : State → Prop} (C : Cx F G cX8_fits 6 RX8) (hR : Rm F 4) (n : Nat) (s : MM) (t : SR)  (v2 : Int32) (v4 : Int32) (res : Int32) (hf : f_X8_fits_116 n t v2 v4 = some res) (hK : RetI F G Q cX8_fits 6 .boolean res (s, t)) : At F G Q 6 116 [(2, .int v2), (4, .int v4)] [] (s, t) := by
  unfold f_X8_fits_116 at hf
  refine a_iload_n C (i := 2) (q := 117) dX8_fits_116 rfl 0 rfl rfl ?_
  refine a_if_eq C (tgt := 125) (q := 120) dX8_fits_117 hf (by decide) rfl (fun hf => ?_) (fun hf => ?_)
  · refine a_iconst C (v := (1 : Int32)) (q := 126) dX8_fits_125 rfl (by decide) ?_
    refine a_goto C (q := 130) dX8_fits_126 (by decide) ?_
    have hf := Option.some.inj hf; subst hf
    exact (show RetI F G Q cX8_fits 6 .boolean (1 : Int32) (s, t) from hK) rfl _ _ dX8_fits_130
  · refine a_iload C (i := 4) (q := 122) dX8_fits_120 rfl 1 rfl ?_
    refine a_if_ne C (tgt := 129) (q := 125) dX8_fits_122 hf (by decide) rfl (fun hf => ?_) (fun hf => ?_)
    · refine a_iconst C (v := (0 : Int32)) (q := 130) dX8_fits_129 rfl (by decide) ?_
      have hf := Option.some.inj hf; subst hf
      exact (show RetI F G Q cX8_fits 6 .boolean (0 : Int32) (s, t) from hK) rfl _ _ dX8_fits_130
    · refine a_iconst C (v := (1 : Int32)) (q := 126) dX8_fits_125 rfl (by decide) ?_
      refine a_goto C (q := 130) dX8_fits_126 (by decide) ?_
      have hf := Option.some.inj hf; subst hf
      exact (show RetI F G Q cX8_fits 6 .boolean (1 : Int32) (s, t) from hK) rfl _ _ dX8_fits_130
def f_X8_fits (n : Nat) (t : SR) (v1 : Int32) : Option (Int32) :=
  b3 (it4 (lb_X8_fits_10 n t v1) n (0 : Int32) (0 : Int32) (0 : Int32) (0 : Int32)) (fun v2_6 v3_7 v4_8 => b1 (f_X8_seatsOf n t v1) (fun y_9 => (if (3 : Int32) < y_9 then some (0 : Int32) else (if v2_6 = 0 then f_X8_fits_116 n t v2_6 v4_8 else (if v3_7 = 0 then some (0 : Int32) else f_X8_fits_116 n t v2_6 v4_8)))))
set_option maxHeartbeats 4000000 in
theorem w_X8_fits_e {F : FX} {G : GX} {Q : State → Prop} (C : Cx F G cX8_fits 6 RX8) (hR : Rm F 4) (n : Nat) (s : MM) (t : SR)  (v1 : Int32) (res : Int32) (hf : f_X8_fits n t v1 = some res) (hK : RetI F G Q cX8_fits 6 .boolean res (s, t)) : At F G Q 6 0 [(0, .ref (G.2.1 39)), (1, .int v1)] [] (s, t) := by
  unfold f_X8_fits at hf
  refine a_iconst C (v := (0 : Int32)) (q := 1) dX8_fits_0 rfl (by decide) ?_
  refine a_istore_n C (i := 2) (q := 2) (lv' := [(2, .int (0 : Int32)), (0, .ref (G.2.1 39)), (1, .int v1)]) dX8_fits_1 rfl (by decide) rfl rfl ?_
  refine a_iconst C (v := (0 : Int32)) (q := 3) dX8_fits_2 rfl (by decide) ?_
  refine a_istore_n C (i := 3) (q := 4) (lv' := [(3, .int (0 : Int32)), (2, .int (0 : Int32)), (0, .ref (G.2.1 39)), (1, .int v1)]) dX8_fits_3 rfl (by decide) rfl rfl ?_
  refine a_iconst C (v := (0 : Int32)) (q := 5) dX8_fits_4 rfl (by decide) ?_
  refine a_istore C (i := 4) (q := 7) (lv' := [(4, .int (0 : Int32)), (3, .int (0 : Int32)), (2, .int (0 : Int32)), (0, .ref (G.2.1 39)), (1, .int v1)]) dX8_fits_5 (by decide) rfl rfl ?_
  refine a_iconst C (v := (0 : Int32)) (q := 8) dX8_fits_7 rfl (by decide) ?_
  refine a_istore C (i := 5) (q := 10) (lv' := [(5, .int (0 : Int32)), (4, .int (0 : Int32)), (3, .int (0 : Int32)), (2, .int (0 : Int32)), (0, .ref (G.2.1 39)), (1, .int v1)]) dX8_fits_8 (by decide) rfl rfl ?_
  obtain ⟨v2_6, v3_7, v4_8, h1, hf⟩ := b3_some hf
  refine a_sub [4, 5, 3, 2, 1, 0] rfl (lp_X8_fits_10 C hR n s t v1  (0 : Int32) (0 : Int32) (0 : Int32) (0 : Int32) _ h1 ?_)
  show At F G Q 6 99 [(0, .ref (G.2.1 39)), (1, .int v1), (2, .int v2_6), (3, .int v3_7), (4, .int v4_8)] [] (s, t)
  refine a_aload_n C (i := 0) (q := 100) dX8_fits_99 rfl 0 rfl rfl ?_
  refine a_iload_n C (i := 1) (q := 101) dX8_fits_100 rfl 1 rfl rfl ?_
  refine a_callVI C (q := 104) (As := [.int v1]) (st := []) dX8_fits_101 hR (by decide) hf (fun b => b) (fun _ => (s, t)) (by decide) rfl rfl cw_X8_seatsOf (fun b hb => c_X8_seatsOf _ G n s t v1 b hb) rfl rfl (Nat.le_of_ble_eq_true rfl) k_915 rfl (fun y_9 hf => ?_)
  refine a_iconst C (v := (3 : Int32)) (q := 105) dX8_fits_104 rfl (by decide) ?_
  refine a_icmp_gt C (tgt := 129) (q := 108) dX8_fits_105 hf (by decide) rfl (fun hf => ?_) (fun hf => ?_)
  · refine a_iconst C (v := (0 : Int32)) (q := 130) dX8_fits_129 rfl (by decide) ?_
    have hf := Option.some.inj hf; subst hf
    exact (show RetI F G Q cX8_fits 6 .boolean (0 : Int32) (s, t) from hK) rfl _ _ dX8_fits_130
  · refine a_iload_n C (i := 2) (q := 109) dX8_fits_108 rfl 2 rfl rfl ?_
    refine a_if_eq C (tgt := 116) (q := 112) dX8_fits_109 hf (by decide) rfl (fun hf => ?_) (fun hf => ?_)
    · exact a_sub [2, 4] rfl (w_X8_fits_116 C hR n s t v2_6 v4_8 res hf hK)
    · refine a_iload_n C (i := 3) (q := 113) dX8_fits_112 rfl 3 rfl rfl ?_
      refine a_if_eq C (tgt := 129) (q := 116) dX8_fits_113 hf (by decide) rfl (fun hf => ?_) (fun hf => ?_)
      · refine a_iconst C (v := (0 : Int32)) (q := 130) dX8_fits_129 rfl (by decide) ?_
        have hf := Option.some.inj hf; subst hf
        exact (show RetI F G Q cX8_fits 6 .boolean (0 : Int32) (s, t) from hK) rfl _ _ dX8_fits_130
      · exact a_sub [2, 4] rfl (w_X8_fits_116 C hR n s t v2_6 v4_8 res hf hK)
theorem c_X8_fits (l : Launch) (G : GX) (n : Nat) (s : MM) (t : SR) (v1 : Int32) (res : Int32) (hf : f_X8_fits n t v1 = some res) : MetC l G yX8_fits cX8_fits 6 (some .boolean) 4 (s, t) [.ref (G.2.1 39), .int v1] (PostI G res (s, t)) :=
  m_I (by decide) (Nat.le_of_ble_eq_true rfl) (fun F Q C h1 h2 h3 hK => w_X8_fits_e C (Rm.of h1 h3) n s t v1 res hf hK)
theorem cw_X8_car : CwV RX8 yX8_car cX8_car 4 2 (some .int) := ⟨k_899, k_897, k_898, k_9, by decide +kernel, by decide⟩
def f_X8_car (n : Nat) (t : SR) (v1 : Int32) (v2 : Int32) : Option (Int32) :=
  b1 (f_X8_isCar v1) (fun y_1 => (if y_1 = 0 then some (-1 : Int32) else b1 (f_X8_in v2.toInt64 (0 : Int64) (3 : Int64)) (fun y_2 => (if y_2 = 0 then some (-1 : Int32) else b1 (f_X8_whoIn n t v1) (fun y_3 => (if v2 = 0 then b1 (f_X8_weightOf n t y_3) (fun y_5 => ix v1 12 (some (y_5 + (t.1 44 v1.toNatClampNeg)))) else (if v2 = (1 : Int32) then b1 (f_X8_seatsOf n t y_3) (fun y_4 => some y_4) else (if v2 = (2 : Int32) then ix v1 12 (some (t.1 44 v1.toNatClampNeg)) else some y_3))))))))
set_option maxHeartbeats 4000000 in
theorem w_X8_car_e {F : FX} {G : GX} {Q : State → Prop} (C : Cx F G cX8_car 4 RX8) (hR : Rm F 4) (n : Nat) (s : MM) (t : SR)  (v1 : Int32) (v2 : Int32) (res : Int32) (hf : f_X8_car n t v1 v2 = some res) (hK : RetI F G Q cX8_car 4 .int res (s, t)) : At F G Q 4 0 [(0, .ref (G.2.1 39)), (1, .int v1), (2, .int v2)] [] (s, t) := by
  unfold f_X8_car at hf
  refine a_iload_n C (i := 1) (q := 1) dX8_car_0 rfl 1 rfl rfl ?_
  refine a_callSI C (q := 4) (As := [.int v1]) (st := []) dX8_car_1 hR (by decide) hf (fun b => b) (fun _ => (s, t)) cw_X8_isCar (fun b hb => c_X8_isCar _ G s t v1 b hb) rfl rfl (Nat.le_of_ble_eq_true rfl) k_900 rfl (fun y_1 hf => ?_)
  refine a_if_eq C (tgt := 19) (q := 7) dX8_car_4 hf (by decide) rfl (fun hf => ?_) (fun hf => ?_)
  · refine a_iconst C (v := (-1 : Int32)) (q := 20) dX8_car_19 rfl (by decide) ?_
    have hf := Option.some.inj hf; subst hf
    exact (show RetI F G Q cX8_car 4 .int (-1 : Int32) (s, t) from hK) rfl _ _ dX8_car_20
  · refine a_iload_n C (i := 2) (q := 8) dX8_car_7 rfl 2 rfl rfl ?_
    refine a_i2l C (q := 9) dX8_car_8 rfl ?_
    refine a_lconst C (v := (0 : Int64)) (q := 10) dX8_car_9 rfl (by decide) ?_
    refine a_ldc2 C (v := (3 : Int64)) (q := 13) dX8_car_10 rfl k_879 ?_
    refine a_callSI C (q := 16) (As := [.long v2.toInt64, .long (0 : Int64), .long (3 : Int64)]) (st := []) dX8_car_13 hR (by decide) hf (fun b => b) (fun _ => (s, t)) cw_X8_in (fun b hb => c_X8_in _ G s t v2.toInt64 (0 : Int64) (3 : Int64) b hb) rfl rfl (Nat.le_of_ble_eq_true rfl) k_880 rfl (fun y_2 hf => ?_)
    refine a_if_ne C (tgt := 21) (q := 19) dX8_car_16 hf (by decide) rfl (fun hf => ?_) (fun hf => ?_)
    · refine a_aload_n C (i := 0) (q := 22) dX8_car_21 rfl 0 rfl rfl ?_
      refine a_iload_n C (i := 1) (q := 23) dX8_car_22 rfl 1 rfl rfl ?_
      refine a_callVI C (q := 26) (As := [.int v1]) (st := []) dX8_car_23 hR (by decide) hf (fun b => b) (fun _ => (s, t)) (by decide) rfl rfl cw_X8_whoIn (fun b hb => c_X8_whoIn _ G n s t v1 b hb) rfl rfl (Nat.le_of_ble_eq_true rfl) k_904 rfl (fun y_3 hf => ?_)
      refine a_istore_n C (i := 3) (q := 27) (lv' := [(3, .int y_3), (0, .ref (G.2.1 39)), (1, .int v1), (2, .int v2)]) dX8_car_26 rfl (by decide) rfl rfl ?_
      refine a_iload_n C (i := 2) (q := 28) dX8_car_27 rfl 3 rfl rfl ?_
      refine a_if_ne C (tgt := 46) (q := 31) dX8_car_28 hf (by decide) rfl (fun hf => ?_) (fun hf => ?_)
      · refine a_iload_n C (i := 2) (q := 47) dX8_car_46 rfl 3 rfl rfl ?_
        refine a_iconst C (v := (1 : Int32)) (q := 48) dX8_car_47 rfl (by decide) ?_
        refine a_icmp_ne C (tgt := 59) (q := 51) dX8_car_48 hf (by decide) rfl (fun hf => ?_) (fun hf => ?_)
        · refine a_iload_n C (i := 2) (q := 60) dX8_car_59 rfl 3 rfl rfl ?_
          refine a_iconst C (v := (2 : Int32)) (q := 61) dX8_car_60 rfl (by decide) ?_
          refine a_icmp_ne C (tgt := 73) (q := 64) dX8_car_61 hf (by decide) rfl (fun hf => ?_) (fun hf => ?_)
          · refine a_iload_n C (i := 3) (q := 74) dX8_car_73 rfl 0 rfl rfl ?_
            have hf := Option.some.inj hf; subst hf
            exact (show RetI F G Q cX8_car 4 .int y_3 (s, t) from hK) rfl _ _ dX8_car_74
          · refine a_aload_n C (i := 0) (q := 65) dX8_car_64 rfl 1 rfl rfl ?_
            refine a_get8 C (q := 68) dX8_car_65 5 (by decide) k_773 (by decide) rfl rfl rfl ?_
            refine a_iload_n C (i := 1) (q := 69) dX8_car_68 rfl 2 rfl rfl ?_
            refine a_iald C (q := 70) (g := t.1 44) dX8_car_69 hf (by decide) rfl rfl (fun hf => ?_)
            refine a_goto C (q := 74) dX8_car_70 (by decide) ?_
            have hf := Option.some.inj hf; subst hf
            exact (show RetI F G Q cX8_car 4 .int (t.1 44 v1.toNatClampNeg) (s, t) from hK) rfl _ _ dX8_car_74
        · refine a_aload_n C (i := 0) (q := 52) dX8_car_51 rfl 1 rfl rfl ?_
          refine a_iload_n C (i := 3) (q := 53) dX8_car_52 rfl 0 rfl rfl ?_
          refine a_callVI C (q := 56) (As := [.int y_3]) (st := []) dX8_car_53 hR (by decide) hf (fun b => b) (fun _ => (s, t)) (by decide) rfl rfl cw_X8_seatsOf (fun b hb => c_X8_seatsOf _ G n s t y_3 b hb) rfl rfl (Nat.le_of_ble_eq_true rfl) k_915 rfl (fun y_4 hf => ?_)
          refine a_goto C (q := 74) dX8_car_56 (by decide) ?_
          have hf := Option.some.inj hf; subst hf
          exact (show RetI F G Q cX8_car 4 .int y_4 (s, t) from hK) rfl _ _ dX8_car_74
      · refine a_aload_n C (i := 0) (q := 32) dX8_car_31 rfl 1 rfl rfl ?_
        refine a_iload_n C (i := 3) (q := 33) dX8_car_32 rfl 0 rfl rfl ?_
        refine a_callVI C (q := 36) (As := [.int y_3]) (st := []) dX8_car_33 hR (by decide) hf (fun b => b) (fun _ => (s, t)) (by decide) rfl rfl cw_X8_weightOf (fun b hb => c_X8_weightOf _ G n s t y_3 b hb) rfl rfl (Nat.le_of_ble_eq_true rfl) k_908 rfl (fun y_5 hf => ?_)
        refine a_aload_n C (i := 0) (q := 37) dX8_car_36 rfl 1 rfl rfl ?_
        refine a_get8 C (q := 40) dX8_car_37 5 (by decide) k_773 (by decide) rfl rfl rfl ?_
        refine a_iload_n C (i := 1) (q := 41) dX8_car_40 rfl 2 rfl rfl ?_
        refine a_iald C (q := 42) (g := t.1 44) dX8_car_41 hf (by decide) rfl rfl (fun hf => ?_)
        refine a_iadd C (q := 43) dX8_car_42 rfl ?_
        refine a_goto C (q := 74) dX8_car_43 (by decide) ?_
        have hf := Option.some.inj hf; subst hf
        exact (show RetI F G Q cX8_car 4 .int (y_5 + (t.1 44 v1.toNatClampNeg)) (s, t) from hK) rfl _ _ dX8_car_74
    · refine a_iconst C (v := (-1 : Int32)) (q := 20) dX8_car_19 rfl (by decide) ?_
      have hf := Option.some.inj hf; subst hf
      exact (show RetI F G Q cX8_car 4 .int (-1 : Int32) (s, t) from hK) rfl _ _ dX8_car_20
theorem c_X8_car (l : Launch) (G : GX) (n : Nat) (s : MM) (t : SR) (v1 : Int32) (v2 : Int32) (res : Int32) (hf : f_X8_car n t v1 v2 = some res) : MetC l G yX8_car cX8_car 4 (some .int) 4 (s, t) [.ref (G.2.1 39), .int v1, .int v2] (PostI G res (s, t)) :=
  m_I (by decide) (Nat.le_of_ble_eq_true rfl) (fun F Q C h1 h2 h3 hK => w_X8_car_e C (Rm.of h1 h3) n s t v1 v2 res hf hK)
theorem cw_X8_findLoads : CwV RX8 yX8_findLoads cX8_findLoads 2 0 none := ⟨k_931, k_930, kp_25, k_9, by decide +kernel, by decide⟩
def P_X8_findLoads_2 (F : FX) (G : GX) (Q : State → Prop) (s : MM) (v1 : Int32) (t : SR) : Prop := At F G Q 2 2 [(0, .ref (G.2.1 39)), (1, .int v1)] [] (s, t)
def E_X8_findLoads_2 (F : FX) (G : GX) (Q : State → Prop) (s : MM) : SR → Prop := fun q => match q with
  | t => At F G Q 2 26 [(0, .ref (G.2.1 39))] [] (s, t)
def lb_X8_findLoads_2 (n : Nat) (v1 : Int32) (t : SR) : Option ((SR) ⊕ (Int32 × SR)) :=
  (if (12 : Int32) ≤ v1 then some (.inl t) else ix v1 12 (ix v1 12 (nm (sr1 t 45 v1.toNatClampNeg (t.1 44 v1.toNatClampNeg)) (fun t_1 => nm (v1 + 1) (fun v1_2 => some (.inr (v1_2, t_1)))))))
set_option maxHeartbeats 4000000 in
theorem w_X8_findLoads_2 {F : FX} {G : GX} {Q : State → Prop} (C : Cx F G cX8_findLoads 2 RX8) (hR : Rm F 2) (n : Nat) (s : MM)  (v1 : Int32) (t : SR) (res : (SR) ⊕ (Int32 × SR)) (hf : lb_X8_findLoads_2 n v1 t = some res) (hK : Sum.elim (E_X8_findLoads_2 F G Q s) (fun q => match q with | (v1, t) => P_X8_findLoads_2 F G Q s v1 t) res) : P_X8_findLoads_2 F G Q s v1 t := by
  unfold lb_X8_findLoads_2 at hf
  show At F G Q 2 2 [(0, .ref (G.2.1 39)), (1, .int v1)] [] (s, t)
  refine a_iload_n C (i := 1) (q := 3) dX8_findLoads_2 rfl 1 rfl rfl ?_
  refine a_bipush C (v := (12 : Int32)) (q := 5) dX8_findLoads_3 rfl (by decide) ?_
  refine a_icmp_ge C (tgt := 26) (q := 8) dX8_findLoads_5 hf (by decide) rfl (fun hf => ?_) (fun hf => ?_)
  · have hf := Option.some.inj hf; subst hf
    exact a_sub [0] rfl (show At F G Q 2 26 [(0, .ref (G.2.1 39))] [] (s, t) from hK)
  · refine a_aload_n C (i := 0) (q := 9) dX8_findLoads_8 rfl 0 rfl rfl ?_
    refine a_get8 C (q := 12) dX8_findLoads_9 9 (by decide) k_777 (by decide) rfl rfl rfl ?_
    refine a_iload_n C (i := 1) (q := 13) dX8_findLoads_12 rfl 1 rfl rfl ?_
    refine a_aload_n C (i := 0) (q := 14) dX8_findLoads_13 rfl 0 rfl rfl ?_
    refine a_get8 C (q := 17) dX8_findLoads_14 5 (by decide) k_773 (by decide) rfl rfl rfl ?_
    refine a_iload_n C (i := 1) (q := 18) dX8_findLoads_17 rfl 1 rfl rfl ?_
    refine a_iald C (q := 19) (g := t.1 44) dX8_findLoads_18 hf (by decide) rfl rfl (fun hf => ?_)
    refine a_iastN C (q := 20) (mk := (fun z => (s, z))) dX8_findLoads_19 hf (by decide) rfl rfl cellE_R1 rfl (fun t_1 hf => ?_)
    refine a_iincN C (i := 1) (k := 1) (q := 23) (lv' := fun z => [(1, .int z), (0, .ref (G.2.1 39))]) dX8_findLoads_20 hf rfl rfl (by decide) (fun _ => rfl) rfl (fun v1_2 hf => ?_)
    refine a_goto C (q := 2) dX8_findLoads_23 (by decide) ?_
    have hf := Option.some.inj hf; subst hf
    exact a_sub [1, 0] rfl (show At F G Q 2 2 [(0, .ref (G.2.1 39)), (1, .int v1_2)] [] (s, t_1) from hK)
theorem lp_X8_findLoads_2 {F : FX} {G : GX} {Q : State → Prop} (C : Cx F G cX8_findLoads 2 RX8) (hR : Rm F 2) (n : Nat) (s : MM)  (v1 : Int32) (t : SR) (x : SR) (h : it2 (lb_X8_findLoads_2 n ) n v1 t = some x) (hE : E_X8_findLoads_2 F G Q s x) : At F G Q 2 2 [(0, .ref (G.2.1 39)), (1, .int v1)] [] (s, t) :=
  it2_ind (b := (lb_X8_findLoads_2 n )) (E := E_X8_findLoads_2 F G Q s) (P := fun v1 t => P_X8_findLoads_2 F G Q s v1 t) (fun v1 t res hf hK => w_X8_findLoads_2 C hR n s   v1 t res hf hK) n v1 t x h hE
def P_X8_findLoads_28 (F : FX) (G : GX) (Q : State → Prop) (s : MM) (v1 : Int32) (t : SR) : Prop := At F G Q 2 28 [(0, .ref (G.2.1 39)), (1, .int v1)] [] (s, t)
def E_X8_findLoads_28 (F : FX) (G : GX) (Q : State → Prop) (s : MM) : SR → Prop := fun q => match q with
  | t => At F G Q 2 73 [] [] (s, t)
def lb_X8_findLoads_28 (n : Nat) (v1 : Int32) (t : SR) : Option ((SR) ⊕ (Int32 × SR)) :=
  (if (t.1 39 4) ≤ v1 then some (.inl t) else ix v1 10 ((if (12 : Int32) ≤ (t.1 42 v1.toNatClampNeg) then nm (v1 + 1) (fun v1_4 => some (.inr (v1_4, t))) else ix v1 10 (ix (t.1 42 v1.toNatClampNeg) 12 (ix v1 10 (ix (t.1 42 v1.toNatClampNeg) 12 (nm (sr1 t 45 ((t.1 42 v1.toNatClampNeg).toNatClampNeg) ((t.1 45 ((t.1 42 v1.toNatClampNeg).toNatClampNeg)) + (t.1 41 v1.toNatClampNeg))) (fun t_5 => nm (v1 + 1) (fun v1_6 => some (.inr (v1_6, t_5)))))))))))
set_option maxHeartbeats 4000000 in
theorem w_X8_findLoads_28 {F : FX} {G : GX} {Q : State → Prop} (C : Cx F G cX8_findLoads 2 RX8) (hR : Rm F 2) (n : Nat) (s : MM)  (v1 : Int32) (t : SR) (res : (SR) ⊕ (Int32 × SR)) (hf : lb_X8_findLoads_28 n v1 t = some res) (hK : Sum.elim (E_X8_findLoads_28 F G Q s) (fun q => match q with | (v1, t) => P_X8_findLoads_28 F G Q s v1 t) res) : P_X8_findLoads_28 F G Q s v1 t := by
  unfold lb_X8_findLoads_28 at hf
  show At F G Q 2 28 [(0, .ref (G.2.1 39)), (1, .int v1)] [] (s, t)
  refine a_iload_n C (i := 1) (q := 29) dX8_findLoads_28 rfl 1 rfl rfl ?_
  refine a_aload_n C (i := 0) (q := 30) dX8_findLoads_29 rfl 0 rfl rfl ?_
  refine a_get8 C (q := 33) dX8_findLoads_30 4 (by decide) k_772 (by decide) rfl rfl rfl ?_
  refine a_icmp_ge C (tgt := 73) (q := 36) dX8_findLoads_33 hf (by decide) rfl (fun hf => ?_) (fun hf => ?_)
  · have hf := Option.some.inj hf; subst hf
    exact a_sub [] rfl (show At F G Q 2 73 [] [] (s, t) from hK)
  · refine a_aload_n C (i := 0) (q := 37) dX8_findLoads_36 rfl 0 rfl rfl ?_
    refine a_get8 C (q := 40) dX8_findLoads_37 2 (by decide) k_770 (by decide) rfl rfl rfl ?_
    refine a_iload_n C (i := 1) (q := 41) dX8_findLoads_40 rfl 1 rfl rfl ?_
    refine a_iald C (q := 42) (g := t.1 42) dX8_findLoads_41 hf (by decide) rfl rfl (fun hf => ?_)
    refine a_bipush C (v := (12 : Int32)) (q := 44) dX8_findLoads_42 rfl (by decide) ?_
    refine a_icmp_ge C (tgt := 67) (q := 47) dX8_findLoads_44 hf (by decide) rfl (fun hf => ?_) (fun hf => ?_)
    · refine a_iincN C (i := 1) (k := 1) (q := 70) (lv' := fun z => [(1, .int z), (0, .ref (G.2.1 39))]) dX8_findLoads_67 hf rfl rfl (by decide) (fun _ => rfl) rfl (fun v1_4 hf => ?_)
      refine a_goto C (q := 28) dX8_findLoads_70 (by decide) ?_
      have hf := Option.some.inj hf; subst hf
      exact a_sub [1, 0] rfl (show At F G Q 2 28 [(0, .ref (G.2.1 39)), (1, .int v1_4)] [] (s, t) from hK)
    · refine a_aload_n C (i := 0) (q := 48) dX8_findLoads_47 rfl 0 rfl rfl ?_
      refine a_get8 C (q := 51) dX8_findLoads_48 9 (by decide) k_777 (by decide) rfl rfl rfl ?_
      refine a_aload_n C (i := 0) (q := 52) dX8_findLoads_51 rfl 0 rfl rfl ?_
      refine a_get8 C (q := 55) dX8_findLoads_52 2 (by decide) k_770 (by decide) rfl rfl rfl ?_
      refine a_iload_n C (i := 1) (q := 56) dX8_findLoads_55 rfl 1 rfl rfl ?_
      refine a_iald C (q := 57) (g := t.1 42) dX8_findLoads_56 hf (by decide) rfl rfl (fun hf => ?_)
      refine a_dup2 C (q := 58) dX8_findLoads_57 rfl rfl rfl ?_
      refine a_iald C (q := 59) (g := t.1 45) dX8_findLoads_58 hf (by decide) rfl rfl (fun hf => ?_)
      refine a_aload_n C (i := 0) (q := 60) dX8_findLoads_59 rfl 0 rfl rfl ?_
      refine a_get8 C (q := 63) dX8_findLoads_60 1 (by decide) k_769 (by decide) rfl rfl rfl ?_
      refine a_iload_n C (i := 1) (q := 64) dX8_findLoads_63 rfl 1 rfl rfl ?_
      refine a_iald C (q := 65) (g := t.1 41) dX8_findLoads_64 hf (by decide) rfl rfl (fun hf => ?_)
      refine a_iadd C (q := 66) dX8_findLoads_65 rfl ?_
      refine a_iastN C (q := 67) (mk := (fun z => (s, z))) dX8_findLoads_66 hf (by decide) rfl rfl cellE_R1 rfl (fun t_5 hf => ?_)
      refine a_iincN C (i := 1) (k := 1) (q := 70) (lv' := fun z => [(1, .int z), (0, .ref (G.2.1 39))]) dX8_findLoads_67 hf rfl rfl (by decide) (fun _ => rfl) rfl (fun v1_6 hf => ?_)
      refine a_goto C (q := 28) dX8_findLoads_70 (by decide) ?_
      have hf := Option.some.inj hf; subst hf
      exact a_sub [1, 0] rfl (show At F G Q 2 28 [(0, .ref (G.2.1 39)), (1, .int v1_6)] [] (s, t_5) from hK)
theorem lp_X8_findLoads_28 {F : FX} {G : GX} {Q : State → Prop} (C : Cx F G cX8_findLoads 2 RX8) (hR : Rm F 2) (n : Nat) (s : MM)  (v1 : Int32) (t : SR) (x : SR) (h : it2 (lb_X8_findLoads_28 n ) n v1 t = some x) (hE : E_X8_findLoads_28 F G Q s x) : At F G Q 2 28 [(0, .ref (G.2.1 39)), (1, .int v1)] [] (s, t) :=
  it2_ind (b := (lb_X8_findLoads_28 n )) (E := E_X8_findLoads_28 F G Q s) (P := fun v1 t => P_X8_findLoads_28 F G Q s v1 t) (fun v1 t res hf hK => w_X8_findLoads_28 C hR n s   v1 t res hf hK) n v1 t x h hE
def f_X8_findLoads (n : Nat) (t : SR) : Option (SR) :=
  b1 (it2 (lb_X8_findLoads_2 n ) n (0 : Int32) t) (fun t_3 => b1 (it2 (lb_X8_findLoads_28 n ) n (0 : Int32) t_3) (fun t_7 => some t_7))
set_option maxHeartbeats 4000000 in
theorem w_X8_findLoads_e {F : FX} {G : GX} {Q : State → Prop} (C : Cx F G cX8_findLoads 2 RX8) (hR : Rm F 2) (n : Nat) (s : MM) (t : SR)   (res : SR) (hf : f_X8_findLoads n t = some res) (hK : RetV F G Q cX8_findLoads 2 (s, res)) : At F G Q 2 0 [(0, .ref (G.2.1 39))] [] (s, t) := by
  unfold f_X8_findLoads at hf
  refine a_iconst C (v := (0 : Int32)) (q := 1) dX8_findLoads_0 rfl (by decide) ?_
  refine a_istore_n C (i := 1) (q := 2) (lv' := [(1, .int (0 : Int32)), (0, .ref (G.2.1 39))]) dX8_findLoads_1 rfl (by decide) rfl rfl ?_
  obtain ⟨t_3, h1, hf⟩ := b1_some hf
  refine a_sub [1, 0] rfl (lp_X8_findLoads_2 C hR n s  (0 : Int32) t _ h1 ?_)
  show At F G Q 2 26 [(0, .ref (G.2.1 39))] [] (s, t_3)
  refine a_iconst C (v := (0 : Int32)) (q := 27) dX8_findLoads_26 rfl (by decide) ?_
  refine a_istore_n C (i := 1) (q := 28) (lv' := [(1, .int (0 : Int32)), (0, .ref (G.2.1 39))]) dX8_findLoads_27 rfl (by decide) rfl rfl ?_
  obtain ⟨t_7, h1, hf⟩ := b1_some hf
  refine a_sub [1, 0] rfl (lp_X8_findLoads_28 C hR n s  (0 : Int32) t_3 _ h1 ?_)
  show At F G Q 2 73 [] [] (s, t_7)
  have hf := Option.some.inj hf; subst hf
  exact (show RetV F G Q cX8_findLoads 2 (s, t_7) from hK) _ _ dX8_findLoads_73
theorem c_X8_findLoads (l : Launch) (G : GX) (n : Nat) (s : MM) (t : SR)  (res : SR) (hf : f_X8_findLoads n t = some res) : MetC l G yX8_findLoads cX8_findLoads 2 none 2 (s, t) [.ref (G.2.1 39)] (PostV G (s, res)) :=
  m_V (by decide) (Nat.le_of_ble_eq_true rfl) (fun F Q C h1 h2 h3 hK => w_X8_findLoads_e C (Rm.of h1 h3) n s t res hf hK)
theorem cw_X8_cosine : CwS yX8_cosine cX8_cosine 3 2 (some .int) := ⟨k_942, k_941, k_9, by decide +kernel, by decide⟩
def f_X8_cosine_14 (v1 : Int32) (w0 : Int32) : Option (Int32) :=
  (if v1 = (1 : Int32) then (if w0 = (1 : Int32) then some (1 : Int32) else (if w0 = (5 : Int32) then some (-1 : Int32) else some (0 : Int32))) else (if w0 = 0 then some (2 : Int32) else (if w0 = (2 : Int32) then some (1 : Int32) else (if w0 = (4 : Int32) then some (-1 : Int32) else (if w0 = (6 : Int32) then some (-2 : Int32) else some (0 : Int32))))))
set_option maxHeartbeats 4000000 in
theorem w_X8_cosine_14 {F : FX} {G : GX} {Q : State → Prop} (C : Cx F G cX8_cosine 3 RX8) (hR : Rm F 2) (s : MM) (r : SR)  (v1 : Int32) (w0 : Int32) (res : Int32) (hf : f_X8_cosine_14 v1 w0 = some res) (hK : RetI F G Q cX8_cosine 3 .int res (s, r)) : At F G Q 3 14 [(1, .int v1)] [.int w0] (s, r) := by
  unfold f_X8_cosine_14 at hf
  refine a_istore_n C (i := 2) (q := 15) (lv' := [(2, .int w0), (1, .int v1)]) dX8_cosine_14 rfl (by decide) rfl rfl ?_
  refine a_iload_n C (i := 1) (q := 16) dX8_cosine_15 rfl 1 rfl rfl ?_
  refine a_iconst C (v := (1 : Int32)) (q := 17) dX8_cosine_16 rfl (by decide) ?_
  refine a_icmp_ne C (tgt := 40) (q := 20) dX8_cosine_17 hf (by decide) rfl (fun hf => ?_) (fun hf => ?_)
  · refine a_iload_n C (i := 2) (q := 41) dX8_cosine_40 rfl 0 rfl rfl ?_
    refine a_if_ne C (tgt := 48) (q := 44) dX8_cosine_41 hf (by decide) rfl (fun hf => ?_) (fun hf => ?_)
    · refine a_iload_n C (i := 2) (q := 49) dX8_cosine_48 rfl 0 rfl rfl ?_
      refine a_iconst C (v := (2 : Int32)) (q := 50) dX8_cosine_49 rfl (by decide) ?_
      refine a_icmp_ne C (tgt := 57) (q := 53) dX8_cosine_50 hf (by decide) rfl (fun hf => ?_) (fun hf => ?_)
      · refine a_iload_n C (i := 2) (q := 58) dX8_cosine_57 rfl 0 rfl rfl ?_
        refine a_iconst C (v := (4 : Int32)) (q := 59) dX8_cosine_58 rfl (by decide) ?_
        refine a_icmp_ne C (tgt := 66) (q := 62) dX8_cosine_59 hf (by decide) rfl (fun hf => ?_) (fun hf => ?_)
        · refine a_iload_n C (i := 2) (q := 67) dX8_cosine_66 rfl 0 rfl rfl ?_
          refine a_bipush C (v := (6 : Int32)) (q := 69) dX8_cosine_67 rfl (by decide) ?_
          refine a_icmp_ne C (tgt := 77) (q := 72) dX8_cosine_69 hf (by decide) rfl (fun hf => ?_) (fun hf => ?_)
          · refine a_iconst C (v := (0 : Int32)) (q := 78) dX8_cosine_77 rfl (by decide) ?_
            have hf := Option.some.inj hf; subst hf
            exact (show RetI F G Q cX8_cosine 3 .int (0 : Int32) (s, r) from hK) rfl _ _ dX8_cosine_78
          · refine a_bipush C (v := (-2 : Int32)) (q := 74) dX8_cosine_72 rfl (by decide) ?_
            refine a_goto C (q := 78) dX8_cosine_74 (by decide) ?_
            have hf := Option.some.inj hf; subst hf
            exact (show RetI F G Q cX8_cosine 3 .int (-2 : Int32) (s, r) from hK) rfl _ _ dX8_cosine_78
        · refine a_iconst C (v := (-1 : Int32)) (q := 63) dX8_cosine_62 rfl (by decide) ?_
          refine a_goto C (q := 78) dX8_cosine_63 (by decide) ?_
          have hf := Option.some.inj hf; subst hf
          exact (show RetI F G Q cX8_cosine 3 .int (-1 : Int32) (s, r) from hK) rfl _ _ dX8_cosine_78
      · refine a_iconst C (v := (1 : Int32)) (q := 54) dX8_cosine_53 rfl (by decide) ?_
        refine a_goto C (q := 78) dX8_cosine_54 (by decide) ?_
        have hf := Option.some.inj hf; subst hf
        exact (show RetI F G Q cX8_cosine 3 .int (1 : Int32) (s, r) from hK) rfl _ _ dX8_cosine_78
    · refine a_iconst C (v := (2 : Int32)) (q := 45) dX8_cosine_44 rfl (by decide) ?_
      refine a_goto C (q := 78) dX8_cosine_45 (by decide) ?_
      have hf := Option.some.inj hf; subst hf
      exact (show RetI F G Q cX8_cosine 3 .int (2 : Int32) (s, r) from hK) rfl _ _ dX8_cosine_78
  · refine a_iload_n C (i := 2) (q := 21) dX8_cosine_20 rfl 0 rfl rfl ?_
    refine a_iconst C (v := (1 : Int32)) (q := 22) dX8_cosine_21 rfl (by decide) ?_
    refine a_icmp_ne C (tgt := 29) (q := 25) dX8_cosine_22 hf (by decide) rfl (fun hf => ?_) (fun hf => ?_)
    · refine a_iload_n C (i := 2) (q := 30) dX8_cosine_29 rfl 0 rfl rfl ?_
      refine a_iconst C (v := (5 : Int32)) (q := 31) dX8_cosine_30 rfl (by decide) ?_
      refine a_icmp_ne C (tgt := 38) (q := 34) dX8_cosine_31 hf (by decide) rfl (fun hf => ?_) (fun hf => ?_)
      · refine a_iconst C (v := (0 : Int32)) (q := 39) dX8_cosine_38 rfl (by decide) ?_
        have hf := Option.some.inj hf; subst hf
        exact (show RetI F G Q cX8_cosine 3 .int (0 : Int32) (s, r) from hK) rfl _ _ dX8_cosine_39
      · refine a_iconst C (v := (-1 : Int32)) (q := 35) dX8_cosine_34 rfl (by decide) ?_
        refine a_goto C (q := 39) dX8_cosine_35 (by decide) ?_
        have hf := Option.some.inj hf; subst hf
        exact (show RetI F G Q cX8_cosine 3 .int (-1 : Int32) (s, r) from hK) rfl _ _ dX8_cosine_39
    · refine a_iconst C (v := (1 : Int32)) (q := 26) dX8_cosine_25 rfl (by decide) ?_
      refine a_goto C (q := 39) dX8_cosine_26 (by decide) ?_
      have hf := Option.some.inj hf; subst hf
      exact (show RetI F G Q cX8_cosine 3 .int (1 : Int32) (s, r) from hK) rfl _ _ dX8_cosine_39
def f_X8_cosine (v0 : Int32) (v1 : Int32) : Option (Int32) :=
  (if v0 ≤ (6 : Int32) then f_X8_cosine_14 v1 v0 else f_X8_cosine_14 v1 ((12 : Int32) - v0))
set_option maxHeartbeats 4000000 in
theorem w_X8_cosine_e {F : FX} {G : GX} {Q : State → Prop} (C : Cx F G cX8_cosine 3 RX8) (hR : Rm F 2) (s : MM) (r : SR)  (v0 : Int32) (v1 : Int32) (res : Int32) (hf : f_X8_cosine v0 v1 = some res) (hK : RetI F G Q cX8_cosine 3 .int res (s, r)) : At F G Q 3 0 [(0, .int v0), (1, .int v1)] [] (s, r) := by
  unfold f_X8_cosine at hf
  refine a_iload_n C (i := 0) (q := 1) dX8_cosine_0 rfl 0 rfl rfl ?_
  refine a_bipush C (v := (6 : Int32)) (q := 3) dX8_cosine_1 rfl (by decide) ?_
  refine a_icmp_le C (tgt := 13) (q := 6) dX8_cosine_3 hf (by decide) rfl (fun hf => ?_) (fun hf => ?_)
  · refine a_iload_n C (i := 0) (q := 14) dX8_cosine_13 rfl 0 rfl rfl ?_
    exact a_sub [1] rfl (w_X8_cosine_14 C hR s r v1 v0 res hf hK)
  · refine a_bipush C (v := (12 : Int32)) (q := 8) dX8_cosine_6 rfl (by decide) ?_
    refine a_iload_n C (i := 0) (q := 9) dX8_cosine_8 rfl 0 rfl rfl ?_
    refine a_isub C (q := 10) dX8_cosine_9 rfl ?_
    refine a_goto C (q := 14) dX8_cosine_10 (by decide) ?_
    exact a_sub [1] rfl (w_X8_cosine_14 C hR s r v1 ((12 : Int32) - v0) res hf hK)
theorem c_X8_cosine (l : Launch) (G : GX) (s : MM) (r : SR) (v0 : Int32) (v1 : Int32) (res : Int32) (hf : f_X8_cosine v0 v1 = some res) : MetC l G yX8_cosine cX8_cosine 3 (some .int) 2 (s, r) [.int v0, .int v1] (PostI G res (s, r)) :=
  m_I (by decide) (Nat.le_of_ble_eq_true rfl) (fun F Q C h1 h2 h3 hK => w_X8_cosine_e C (Rm.of h1 h3) s r v0 v1 res hf hK)
theorem cw_X8_findSquare : CwV RX8 yX8_findSquare cX8_findSquare 2 0 none := ⟨k_939, k_938, kp_27, k_9, by decide +kernel, by decide⟩
def P_X8_findSquare_22 (F : FX) (G : GX) (Q : State → Prop) (s : MM) (v1 : Int32) (t : SR) : Prop := At F G Q 2 22 [(0, .ref (G.2.1 39)), (1, .int v1)] [] (s, t)
def E_X8_findSquare_22 (F : FX) (G : GX) (Q : State → Prop) (s : MM) : SR → Prop := fun q => match q with
  | t => At F G Q 2 130 [(0, .ref (G.2.1 39))] [] (s, t)
def lb_X8_findSquare_22 (n : Nat) (v1 : Int32) (t : SR) : Option ((SR) ⊕ (Int32 × SR)) :=
  (if (12 : Int32) ≤ v1 then some (.inl t) else ix v1 12 (b1 (f_X8_cosine v1 (0 : Int32)) (fun y_5 => nm (sr1 t 39 10 ((t.1 39 10) + ((t.1 45 v1.toNatClampNeg) * y_5))) (fun t_6 => ix v1 12 (b1 (f_X8_cosine v1 (1 : Int32)) (fun y_7 => nm (sr1 t_6 39 11 ((t_6.1 39 11) + ((t_6.1 45 v1.toNatClampNeg) * y_7))) (fun t_8 => ix v1 12 (b1 (f_X8_cosine ((v1 + (9 : Int32)) - (v1 + (9 : Int32)) / (12 : Int32) * (12 : Int32)) (0 : Int32)) (fun y_9 => nm (sr1 t_8 39 12 ((t_8.1 39 12) + ((t_8.1 45 v1.toNatClampNeg) * y_9))) (fun t_10 => ix v1 12 (b1 (f_X8_cosine ((v1 + (9 : Int32)) - (v1 + (9 : Int32)) / (12 : Int32) * (12 : Int32)) (1 : Int32)) (fun y_11 => nm (sr1 t_10 39 13 ((t_10.1 39 13) + ((t_10.1 45 v1.toNatClampNeg) * y_11))) (fun t_12 => nm (v1 + 1) (fun v1_13 => some (.inr (v1_13, t_12))))))))))))))))
set_option maxHeartbeats 4000000 in
theorem w_X8_findSquare_22 {F : FX} {G : GX} {Q : State → Prop} (C : Cx F G cX8_findSquare 2 RX8) (hR : Rm F 3) (n : Nat) (s : MM)  (v1 : Int32) (t : SR) (res : (SR) ⊕ (Int32 × SR)) (hf : lb_X8_findSquare_22 n v1 t = some res) (hK : Sum.elim (E_X8_findSquare_22 F G Q s) (fun q => match q with | (v1, t) => P_X8_findSquare_22 F G Q s v1 t) res) : P_X8_findSquare_22 F G Q s v1 t := by
  unfold lb_X8_findSquare_22 at hf
  show At F G Q 2 22 [(0, .ref (G.2.1 39)), (1, .int v1)] [] (s, t)
  refine a_iload_n C (i := 1) (q := 23) dX8_findSquare_22 rfl 1 rfl rfl ?_
  refine a_bipush C (v := (12 : Int32)) (q := 25) dX8_findSquare_23 rfl (by decide) ?_
  refine a_icmp_ge C (tgt := 130) (q := 28) dX8_findSquare_25 hf (by decide) rfl (fun hf => ?_) (fun hf => ?_)
  · have hf := Option.some.inj hf; subst hf
    exact a_sub [0] rfl (show At F G Q 2 130 [(0, .ref (G.2.1 39))] [] (s, t) from hK)
  · refine a_aload_n C (i := 0) (q := 29) dX8_findSquare_28 rfl 0 rfl rfl ?_
    refine a_dup C (q := 30) dX8_findSquare_29 rfl rfl ?_
    refine a_get8 C (q := 33) dX8_findSquare_30 10 (by decide) k_778 (by decide) rfl rfl rfl ?_
    refine a_aload_n C (i := 0) (q := 34) dX8_findSquare_33 rfl 0 rfl rfl ?_
    refine a_get8 C (q := 37) dX8_findSquare_34 9 (by decide) k_777 (by decide) rfl rfl rfl ?_
    refine a_iload_n C (i := 1) (q := 38) dX8_findSquare_37 rfl 1 rfl rfl ?_
    refine a_iald C (q := 39) (g := t.1 45) dX8_findSquare_38 hf (by decide) rfl rfl (fun hf => ?_)
    refine a_iload_n C (i := 1) (q := 40) dX8_findSquare_39 rfl 1 rfl rfl ?_
    refine a_iconst C (v := (0 : Int32)) (q := 41) dX8_findSquare_40 rfl (by decide) ?_
    refine a_callSI C (q := 44) (As := [.int v1, .int (0 : Int32)]) (st := [.int (t.1 45 v1.toNatClampNeg), .int (t.1 39 10), .ref (G.2.1 39)]) dX8_findSquare_41 hR (by decide) hf (fun b => b) (fun _ => (s, t)) cw_X8_cosine (fun b hb => c_X8_cosine _ G s t v1 (0 : Int32) b hb) rfl rfl (Nat.le_of_ble_eq_true rfl) k_940 rfl (fun y_5 hf => ?_)
    refine a_imul C (q := 45) dX8_findSquare_44 rfl ?_
    refine a_iadd C (q := 46) dX8_findSquare_45 rfl ?_
    refine a_put8N C (q := 49) (mk := (fun z => (s, z))) dX8_findSquare_46 hf 10 (by decide) k_778 (by decide) rfl rfl cellE_R1 rfl rfl rfl (Nat.le_of_ble_eq_true rfl) rfl (fun t_6 hf => ?_)
    refine a_aload_n C (i := 0) (q := 50) dX8_findSquare_49 rfl 0 rfl rfl ?_
    refine a_dup C (q := 51) dX8_findSquare_50 rfl rfl ?_
    refine a_get8 C (q := 54) dX8_findSquare_51 11 (by decide) k_779 (by decide) rfl rfl rfl ?_
    refine a_aload_n C (i := 0) (q := 55) dX8_findSquare_54 rfl 0 rfl rfl ?_
    refine a_get8 C (q := 58) dX8_findSquare_55 9 (by decide) k_777 (by decide) rfl rfl rfl ?_
    refine a_iload_n C (i := 1) (q := 59) dX8_findSquare_58 rfl 1 rfl rfl ?_
    refine a_iald C (q := 60) (g := t_6.1 45) dX8_findSquare_59 hf (by decide) rfl rfl (fun hf => ?_)
    refine a_iload_n C (i := 1) (q := 61) dX8_findSquare_60 rfl 1 rfl rfl ?_
    refine a_iconst C (v := (1 : Int32)) (q := 62) dX8_findSquare_61 rfl (by decide) ?_
    refine a_callSI C (q := 65) (As := [.int v1, .int (1 : Int32)]) (st := [.int (t_6.1 45 v1.toNatClampNeg), .int (t_6.1 39 11), .ref (G.2.1 39)]) dX8_findSquare_62 hR (by decide) hf (fun b => b) (fun _ => (s, t_6)) cw_X8_cosine (fun b hb => c_X8_cosine _ G s t_6 v1 (1 : Int32) b hb) rfl rfl (Nat.le_of_ble_eq_true rfl) k_940 rfl (fun y_7 hf => ?_)
    refine a_imul C (q := 66) dX8_findSquare_65 rfl ?_
    refine a_iadd C (q := 67) dX8_findSquare_66 rfl ?_
    refine a_put8N C (q := 70) (mk := (fun z => (s, z))) dX8_findSquare_67 hf 11 (by decide) k_779 (by decide) rfl rfl cellE_R1 rfl rfl rfl (Nat.le_of_ble_eq_true rfl) rfl (fun t_8 hf => ?_)
    refine a_aload_n C (i := 0) (q := 71) dX8_findSquare_70 rfl 0 rfl rfl ?_
    refine a_dup C (q := 72) dX8_findSquare_71 rfl rfl ?_
    refine a_get8 C (q := 75) dX8_findSquare_72 12 (by decide) k_780 (by decide) rfl rfl rfl ?_
    refine a_aload_n C (i := 0) (q := 76) dX8_findSquare_75 rfl 0 rfl rfl ?_
    refine a_get8 C (q := 79) dX8_findSquare_76 9 (by decide) k_777 (by decide) rfl rfl rfl ?_
    refine a_iload_n C (i := 1) (q := 80) dX8_findSquare_79 rfl 1 rfl rfl ?_
    refine a_iald C (q := 81) (g := t_8.1 45) dX8_findSquare_80 hf (by decide) rfl rfl (fun hf => ?_)
    refine a_iload_n C (i := 1) (q := 82) dX8_findSquare_81 rfl 1 rfl rfl ?_
    refine a_bipush C (v := (9 : Int32)) (q := 84) dX8_findSquare_82 rfl (by decide) ?_
    refine a_iadd C (q := 85) dX8_findSquare_84 rfl ?_
    refine a_bipush C (v := (12 : Int32)) (q := 87) dX8_findSquare_85 rfl (by decide) ?_
    refine a_irem C (q := 88) dX8_findSquare_87 rfl (by decide) ?_
    refine a_iconst C (v := (0 : Int32)) (q := 89) dX8_findSquare_88 rfl (by decide) ?_
    refine a_callSI C (q := 92) (As := [.int ((v1 + (9 : Int32)) - (v1 + (9 : Int32)) / (12 : Int32) * (12 : Int32)), .int (0 : Int32)]) (st := [.int (t_8.1 45 v1.toNatClampNeg), .int (t_8.1 39 12), .ref (G.2.1 39)]) dX8_findSquare_89 hR (by decide) hf (fun b => b) (fun _ => (s, t_8)) cw_X8_cosine (fun b hb => c_X8_cosine _ G s t_8 ((v1 + (9 : Int32)) - (v1 + (9 : Int32)) / (12 : Int32) * (12 : Int32)) (0 : Int32) b hb) rfl rfl (Nat.le_of_ble_eq_true rfl) k_940 rfl (fun y_9 hf => ?_)
    refine a_imul C (q := 93) dX8_findSquare_92 rfl ?_
    refine a_iadd C (q := 94) dX8_findSquare_93 rfl ?_
    refine a_put8N C (q := 97) (mk := (fun z => (s, z))) dX8_findSquare_94 hf 12 (by decide) k_780 (by decide) rfl rfl cellE_R1 rfl rfl rfl (Nat.le_of_ble_eq_true rfl) rfl (fun t_10 hf => ?_)
    refine a_aload_n C (i := 0) (q := 98) dX8_findSquare_97 rfl 0 rfl rfl ?_
    refine a_dup C (q := 99) dX8_findSquare_98 rfl rfl ?_
    refine a_get8 C (q := 102) dX8_findSquare_99 13 (by decide) k_781 (by decide) rfl rfl rfl ?_
    refine a_aload_n C (i := 0) (q := 103) dX8_findSquare_102 rfl 0 rfl rfl ?_
    refine a_get8 C (q := 106) dX8_findSquare_103 9 (by decide) k_777 (by decide) rfl rfl rfl ?_
    refine a_iload_n C (i := 1) (q := 107) dX8_findSquare_106 rfl 1 rfl rfl ?_
    refine a_iald C (q := 108) (g := t_10.1 45) dX8_findSquare_107 hf (by decide) rfl rfl (fun hf => ?_)
    refine a_iload_n C (i := 1) (q := 109) dX8_findSquare_108 rfl 1 rfl rfl ?_
    refine a_bipush C (v := (9 : Int32)) (q := 111) dX8_findSquare_109 rfl (by decide) ?_
    refine a_iadd C (q := 112) dX8_findSquare_111 rfl ?_
    refine a_bipush C (v := (12 : Int32)) (q := 114) dX8_findSquare_112 rfl (by decide) ?_
    refine a_irem C (q := 115) dX8_findSquare_114 rfl (by decide) ?_
    refine a_iconst C (v := (1 : Int32)) (q := 116) dX8_findSquare_115 rfl (by decide) ?_
    refine a_callSI C (q := 119) (As := [.int ((v1 + (9 : Int32)) - (v1 + (9 : Int32)) / (12 : Int32) * (12 : Int32)), .int (1 : Int32)]) (st := [.int (t_10.1 45 v1.toNatClampNeg), .int (t_10.1 39 13), .ref (G.2.1 39)]) dX8_findSquare_116 hR (by decide) hf (fun b => b) (fun _ => (s, t_10)) cw_X8_cosine (fun b hb => c_X8_cosine _ G s t_10 ((v1 + (9 : Int32)) - (v1 + (9 : Int32)) / (12 : Int32) * (12 : Int32)) (1 : Int32) b hb) rfl rfl (Nat.le_of_ble_eq_true rfl) k_940 rfl (fun y_11 hf => ?_)
    refine a_imul C (q := 120) dX8_findSquare_119 rfl ?_
    refine a_iadd C (q := 121) dX8_findSquare_120 rfl ?_
    refine a_put8N C (q := 124) (mk := (fun z => (s, z))) dX8_findSquare_121 hf 13 (by decide) k_781 (by decide) rfl rfl cellE_R1 rfl rfl rfl (Nat.le_of_ble_eq_true rfl) rfl (fun t_12 hf => ?_)
    refine a_iincN C (i := 1) (k := 1) (q := 127) (lv' := fun z => [(1, .int z), (0, .ref (G.2.1 39))]) dX8_findSquare_124 hf rfl rfl (by decide) (fun _ => rfl) rfl (fun v1_13 hf => ?_)
    refine a_goto C (q := 22) dX8_findSquare_127 (by decide) ?_
    have hf := Option.some.inj hf; subst hf
    exact a_sub [1, 0] rfl (show At F G Q 2 22 [(0, .ref (G.2.1 39)), (1, .int v1_13)] [] (s, t_12) from hK)
theorem lp_X8_findSquare_22 {F : FX} {G : GX} {Q : State → Prop} (C : Cx F G cX8_findSquare 2 RX8) (hR : Rm F 3) (n : Nat) (s : MM)  (v1 : Int32) (t : SR) (x : SR) (h : it2 (lb_X8_findSquare_22 n ) n v1 t = some x) (hE : E_X8_findSquare_22 F G Q s x) : At F G Q 2 22 [(0, .ref (G.2.1 39)), (1, .int v1)] [] (s, t) :=
  it2_ind (b := (lb_X8_findSquare_22 n )) (E := E_X8_findSquare_22 F G Q s) (P := fun v1 t => P_X8_findSquare_22 F G Q s v1 t) (fun v1 t res hf hK => w_X8_findSquare_22 C hR n s   v1 t res hf hK) n v1 t x h hE
def f_X8_findSquare (n : Nat) (t : SR) : Option (SR) :=
  nm (sr1 t 39 10 (0 : Int32)) (fun t_1 => nm (sr1 t_1 39 11 (0 : Int32)) (fun t_2 => nm (sr1 t_2 39 12 (0 : Int32)) (fun t_3 => nm (sr1 t_3 39 13 (0 : Int32)) (fun t_4 => b1 (it2 (lb_X8_findSquare_22 n ) n (0 : Int32) t_4) (fun t_14 => nm (srL t_14 14 ((((((t_14.1 39 10).toInt64) * ((t_14.1 39 10).toInt64)) + (((3 : Int64) * ((t_14.1 39 11).toInt64)) * ((t_14.1 39 11).toInt64))) + (((t_14.1 39 12).toInt64) * ((t_14.1 39 12).toInt64))) + (((3 : Int64) * ((t_14.1 39 13).toInt64)) * ((t_14.1 39 13).toInt64)))) (fun t_15 => nm (srL t_15 15 ((2 : Int64) * ((((t_15.1 39 10).toInt64) * ((t_15.1 39 11).toInt64)) + (((t_15.1 39 12).toInt64) * ((t_15.1 39 13).toInt64))))) (fun t_16 => some t_16)))))))
set_option maxHeartbeats 4000000 in
theorem w_X8_findSquare_e {F : FX} {G : GX} {Q : State → Prop} (C : Cx F G cX8_findSquare 2 RX8) (hR : Rm F 3) (n : Nat) (s : MM) (t : SR)   (res : SR) (hf : f_X8_findSquare n t = some res) (hK : RetV F G Q cX8_findSquare 2 (s, res)) : At F G Q 2 0 [(0, .ref (G.2.1 39))] [] (s, t) := by
  unfold f_X8_findSquare at hf
  refine a_aload_n C (i := 0) (q := 1) dX8_findSquare_0 rfl 0 rfl rfl ?_
  refine a_iconst C (v := (0 : Int32)) (q := 2) dX8_findSquare_1 rfl (by decide) ?_
  refine a_put8N C (q := 5) (mk := (fun z => (s, z))) dX8_findSquare_2 hf 10 (by decide) k_778 (by decide) rfl rfl cellE_R1 rfl rfl rfl (Nat.le_of_ble_eq_true rfl) rfl (fun t_1 hf => ?_)
  refine a_aload_n C (i := 0) (q := 6) dX8_findSquare_5 rfl 0 rfl rfl ?_
  refine a_iconst C (v := (0 : Int32)) (q := 7) dX8_findSquare_6 rfl (by decide) ?_
  refine a_put8N C (q := 10) (mk := (fun z => (s, z))) dX8_findSquare_7 hf 11 (by decide) k_779 (by decide) rfl rfl cellE_R1 rfl rfl rfl (Nat.le_of_ble_eq_true rfl) rfl (fun t_2 hf => ?_)
  refine a_aload_n C (i := 0) (q := 11) dX8_findSquare_10 rfl 0 rfl rfl ?_
  refine a_iconst C (v := (0 : Int32)) (q := 12) dX8_findSquare_11 rfl (by decide) ?_
  refine a_put8N C (q := 15) (mk := (fun z => (s, z))) dX8_findSquare_12 hf 12 (by decide) k_780 (by decide) rfl rfl cellE_R1 rfl rfl rfl (Nat.le_of_ble_eq_true rfl) rfl (fun t_3 hf => ?_)
  refine a_aload_n C (i := 0) (q := 16) dX8_findSquare_15 rfl 0 rfl rfl ?_
  refine a_iconst C (v := (0 : Int32)) (q := 17) dX8_findSquare_16 rfl (by decide) ?_
  refine a_put8N C (q := 20) (mk := (fun z => (s, z))) dX8_findSquare_17 hf 13 (by decide) k_781 (by decide) rfl rfl cellE_R1 rfl rfl rfl (Nat.le_of_ble_eq_true rfl) rfl (fun t_4 hf => ?_)
  refine a_iconst C (v := (0 : Int32)) (q := 21) dX8_findSquare_20 rfl (by decide) ?_
  refine a_istore_n C (i := 1) (q := 22) (lv' := [(1, .int (0 : Int32)), (0, .ref (G.2.1 39))]) dX8_findSquare_21 rfl (by decide) rfl rfl ?_
  obtain ⟨t_14, h1, hf⟩ := b1_some hf
  refine a_sub [1, 0] rfl (lp_X8_findSquare_22 C hR n s  (0 : Int32) t_4 _ h1 ?_)
  show At F G Q 2 130 [(0, .ref (G.2.1 39))] [] (s, t_14)
  refine a_aload_n C (i := 0) (q := 131) dX8_findSquare_130 rfl 0 rfl rfl ?_
  refine a_aload_n C (i := 0) (q := 132) dX8_findSquare_131 rfl 0 rfl rfl ?_
  refine a_get8 C (q := 135) dX8_findSquare_132 10 (by decide) k_778 (by decide) rfl rfl rfl ?_
  refine a_i2l C (q := 136) dX8_findSquare_135 rfl ?_
  refine a_aload_n C (i := 0) (q := 137) dX8_findSquare_136 rfl 0 rfl rfl ?_
  refine a_get8 C (q := 140) dX8_findSquare_137 10 (by decide) k_778 (by decide) rfl rfl rfl ?_
  refine a_i2l C (q := 141) dX8_findSquare_140 rfl ?_
  refine a_lmul C (q := 142) dX8_findSquare_141 rfl ?_
  refine a_ldc2 C (v := (3 : Int64)) (q := 145) dX8_findSquare_142 rfl k_879 ?_
  refine a_aload_n C (i := 0) (q := 146) dX8_findSquare_145 rfl 0 rfl rfl ?_
  refine a_get8 C (q := 149) dX8_findSquare_146 11 (by decide) k_779 (by decide) rfl rfl rfl ?_
  refine a_i2l C (q := 150) dX8_findSquare_149 rfl ?_
  refine a_lmul C (q := 151) dX8_findSquare_150 rfl ?_
  refine a_aload_n C (i := 0) (q := 152) dX8_findSquare_151 rfl 0 rfl rfl ?_
  refine a_get8 C (q := 155) dX8_findSquare_152 11 (by decide) k_779 (by decide) rfl rfl rfl ?_
  refine a_i2l C (q := 156) dX8_findSquare_155 rfl ?_
  refine a_lmul C (q := 157) dX8_findSquare_156 rfl ?_
  refine a_ladd C (q := 158) dX8_findSquare_157 rfl ?_
  refine a_aload_n C (i := 0) (q := 159) dX8_findSquare_158 rfl 0 rfl rfl ?_
  refine a_get8 C (q := 162) dX8_findSquare_159 12 (by decide) k_780 (by decide) rfl rfl rfl ?_
  refine a_i2l C (q := 163) dX8_findSquare_162 rfl ?_
  refine a_aload_n C (i := 0) (q := 164) dX8_findSquare_163 rfl 0 rfl rfl ?_
  refine a_get8 C (q := 167) dX8_findSquare_164 12 (by decide) k_780 (by decide) rfl rfl rfl ?_
  refine a_i2l C (q := 168) dX8_findSquare_167 rfl ?_
  refine a_lmul C (q := 169) dX8_findSquare_168 rfl ?_
  refine a_ladd C (q := 170) dX8_findSquare_169 rfl ?_
  refine a_ldc2 C (v := (3 : Int64)) (q := 173) dX8_findSquare_170 rfl k_879 ?_
  refine a_aload_n C (i := 0) (q := 174) dX8_findSquare_173 rfl 0 rfl rfl ?_
  refine a_get8 C (q := 177) dX8_findSquare_174 13 (by decide) k_781 (by decide) rfl rfl rfl ?_
  refine a_i2l C (q := 178) dX8_findSquare_177 rfl ?_
  refine a_lmul C (q := 179) dX8_findSquare_178 rfl ?_
  refine a_aload_n C (i := 0) (q := 180) dX8_findSquare_179 rfl 0 rfl rfl ?_
  refine a_get8 C (q := 183) dX8_findSquare_180 13 (by decide) k_781 (by decide) rfl rfl rfl ?_
  refine a_i2l C (q := 184) dX8_findSquare_183 rfl ?_
  refine a_lmul C (q := 185) dX8_findSquare_184 rfl ?_
  refine a_ladd C (q := 186) dX8_findSquare_185 rfl ?_
  refine a_put8N C (q := 189) (mk := (fun z => (s, z))) dX8_findSquare_186 hf 14 (by decide) k_782 (by decide) rfl rfl cellE_L rfl rfl rfl (Nat.le_of_ble_eq_true rfl) rfl (fun t_15 hf => ?_)
  refine a_aload_n C (i := 0) (q := 190) dX8_findSquare_189 rfl 0 rfl rfl ?_
  refine a_ldc2 C (v := (2 : Int64)) (q := 193) dX8_findSquare_190 rfl k_943 ?_
  refine a_aload_n C (i := 0) (q := 194) dX8_findSquare_193 rfl 0 rfl rfl ?_
  refine a_get8 C (q := 197) dX8_findSquare_194 10 (by decide) k_778 (by decide) rfl rfl rfl ?_
  refine a_i2l C (q := 198) dX8_findSquare_197 rfl ?_
  refine a_aload_n C (i := 0) (q := 199) dX8_findSquare_198 rfl 0 rfl rfl ?_
  refine a_get8 C (q := 202) dX8_findSquare_199 11 (by decide) k_779 (by decide) rfl rfl rfl ?_
  refine a_i2l C (q := 203) dX8_findSquare_202 rfl ?_
  refine a_lmul C (q := 204) dX8_findSquare_203 rfl ?_
  refine a_aload_n C (i := 0) (q := 205) dX8_findSquare_204 rfl 0 rfl rfl ?_
  refine a_get8 C (q := 208) dX8_findSquare_205 12 (by decide) k_780 (by decide) rfl rfl rfl ?_
  refine a_i2l C (q := 209) dX8_findSquare_208 rfl ?_
  refine a_aload_n C (i := 0) (q := 210) dX8_findSquare_209 rfl 0 rfl rfl ?_
  refine a_get8 C (q := 213) dX8_findSquare_210 13 (by decide) k_781 (by decide) rfl rfl rfl ?_
  refine a_i2l C (q := 214) dX8_findSquare_213 rfl ?_
  refine a_lmul C (q := 215) dX8_findSquare_214 rfl ?_
  refine a_ladd C (q := 216) dX8_findSquare_215 rfl ?_
  refine a_lmul C (q := 217) dX8_findSquare_216 rfl ?_
  refine a_put8N C (q := 220) (mk := (fun z => (s, z))) dX8_findSquare_217 hf 15 (by decide) k_783 (by decide) rfl rfl cellE_L rfl rfl rfl (Nat.le_of_ble_eq_true rfl) rfl (fun t_16 hf => ?_)
  have hf := Option.some.inj hf; subst hf
  exact (show RetV F G Q cX8_findSquare 2 (s, t_16) from hK) _ _ dX8_findSquare_220
theorem c_X8_findSquare (l : Launch) (G : GX) (n : Nat) (s : MM) (t : SR)  (res : SR) (hf : f_X8_findSquare n t = some res) : MetC l G yX8_findSquare cX8_findSquare 2 none 3 (s, t) [.ref (G.2.1 39)] (PostV G (s, res)) :=
  m_V (by decide) (Nat.le_of_ble_eq_true rfl) (fun F Q C h1 h2 h3 hK => w_X8_findSquare_e C (Rm.of h1 h3) n s t res hf hK)
theorem cw_X8_isNoMore : CwS yX8_isNoMore cX8_isNoMore 4 2 (some .boolean) := ⟨k_947, k_946, k_9, by decide +kernel, by decide⟩
def f_X8_isNoMore_28 (v0 : Int64) (v2 : Int64) : Option (Int32) :=
  (if (lg_cmp v0 (0 : Int64)) ≤ 0 then (if 0 < (lg_cmp (((3 : Int64) * v2) * v2) (v0 * v0)) then some (0 : Int32) else some (1 : Int32)) else (if 0 < (lg_cmp (v0 * v0) (((3 : Int64) * v2) * v2)) then some (0 : Int32) else some (1 : Int32)))
set_option maxHeartbeats 4000000 in
theorem w_X8_isNoMore_28 {F : FX} {G : GX} {Q : State → Prop} (C : Cx F G cX8_isNoMore 4 RX8) (hR : Rm F 2) (s : MM) (r : SR)  (v0 : Int64) (v2 : Int64) (res : Int32) (hf : f_X8_isNoMore_28 v0 v2 = some res) (hK : RetI F G Q cX8_isNoMore 4 .boolean res (s, r)) : At F G Q 4 28 [(0, .long v0), (2, .long v2)] [] (s, r) := by
  unfold f_X8_isNoMore_28 at hf
  refine a_lload_n C (i := 0) (q := 29) dX8_isNoMore_28 rfl 0 rfl rfl ?_
  refine a_lconst C (v := (0 : Int64)) (q := 30) dX8_isNoMore_29 rfl (by decide) ?_
  refine a_lcmp C (q := 31) dX8_isNoMore_30 rfl ?_
  refine a_if_le C (tgt := 56) (q := 34) dX8_isNoMore_31 hf (by decide) rfl (fun hf => ?_) (fun hf => ?_)
  · refine a_ldc2 C (v := (3 : Int64)) (q := 59) dX8_isNoMore_56 rfl k_879 ?_
    refine a_lload_n C (i := 2) (q := 60) dX8_isNoMore_59 rfl 1 rfl rfl ?_
    refine a_lmul C (q := 61) dX8_isNoMore_60 rfl ?_
    refine a_lload_n C (i := 2) (q := 62) dX8_isNoMore_61 rfl 1 rfl rfl ?_
    refine a_lmul C (q := 63) dX8_isNoMore_62 rfl ?_
    refine a_lload_n C (i := 0) (q := 64) dX8_isNoMore_63 rfl 0 rfl rfl ?_
    refine a_lload_n C (i := 0) (q := 65) dX8_isNoMore_64 rfl 0 rfl rfl ?_
    refine a_lmul C (q := 66) dX8_isNoMore_65 rfl ?_
    refine a_lcmp C (q := 67) dX8_isNoMore_66 rfl ?_
    refine a_if_gt C (tgt := 74) (q := 70) dX8_isNoMore_67 hf (by decide) rfl (fun hf => ?_) (fun hf => ?_)
    · refine a_iconst C (v := (0 : Int32)) (q := 75) dX8_isNoMore_74 rfl (by decide) ?_
      have hf := Option.some.inj hf; subst hf
      exact (show RetI F G Q cX8_isNoMore 4 .boolean (0 : Int32) (s, r) from hK) rfl _ _ dX8_isNoMore_75
    · refine a_iconst C (v := (1 : Int32)) (q := 71) dX8_isNoMore_70 rfl (by decide) ?_
      refine a_goto C (q := 75) dX8_isNoMore_71 (by decide) ?_
      have hf := Option.some.inj hf; subst hf
      exact (show RetI F G Q cX8_isNoMore 4 .boolean (1 : Int32) (s, r) from hK) rfl _ _ dX8_isNoMore_75
  · refine a_lload_n C (i := 0) (q := 35) dX8_isNoMore_34 rfl 0 rfl rfl ?_
    refine a_lload_n C (i := 0) (q := 36) dX8_isNoMore_35 rfl 0 rfl rfl ?_
    refine a_lmul C (q := 37) dX8_isNoMore_36 rfl ?_
    refine a_ldc2 C (v := (3 : Int64)) (q := 40) dX8_isNoMore_37 rfl k_879 ?_
    refine a_lload_n C (i := 2) (q := 41) dX8_isNoMore_40 rfl 1 rfl rfl ?_
    refine a_lmul C (q := 42) dX8_isNoMore_41 rfl ?_
    refine a_lload_n C (i := 2) (q := 43) dX8_isNoMore_42 rfl 1 rfl rfl ?_
    refine a_lmul C (q := 44) dX8_isNoMore_43 rfl ?_
    refine a_lcmp C (q := 45) dX8_isNoMore_44 rfl ?_
    refine a_if_gt C (tgt := 52) (q := 48) dX8_isNoMore_45 hf (by decide) rfl (fun hf => ?_) (fun hf => ?_)
    · refine a_iconst C (v := (0 : Int32)) (q := 53) dX8_isNoMore_52 rfl (by decide) ?_
      refine a_goto C (q := 75) dX8_isNoMore_53 (by decide) ?_
      have hf := Option.some.inj hf; subst hf
      exact (show RetI F G Q cX8_isNoMore 4 .boolean (0 : Int32) (s, r) from hK) rfl _ _ dX8_isNoMore_75
    · refine a_iconst C (v := (1 : Int32)) (q := 49) dX8_isNoMore_48 rfl (by decide) ?_
      refine a_goto C (q := 75) dX8_isNoMore_49 (by decide) ?_
      have hf := Option.some.inj hf; subst hf
      exact (show RetI F G Q cX8_isNoMore 4 .boolean (1 : Int32) (s, r) from hK) rfl _ _ dX8_isNoMore_75
def f_X8_isNoMore_14 (v0 : Int64) (v2 : Int64) : Option (Int32) :=
  (if (lg_cmp v0 (0 : Int64)) ≤ 0 then f_X8_isNoMore_28 v0 v2 else (if (lg_cmp v2 (0 : Int64)) ≤ 0 then f_X8_isNoMore_28 v0 v2 else some (0 : Int32)))
set_option maxHeartbeats 4000000 in
theorem w_X8_isNoMore_14 {F : FX} {G : GX} {Q : State → Prop} (C : Cx F G cX8_isNoMore 4 RX8) (hR : Rm F 2) (s : MM) (r : SR)  (v0 : Int64) (v2 : Int64) (res : Int32) (hf : f_X8_isNoMore_14 v0 v2 = some res) (hK : RetI F G Q cX8_isNoMore 4 .boolean res (s, r)) : At F G Q 4 14 [(0, .long v0), (2, .long v2)] [] (s, r) := by
  unfold f_X8_isNoMore_14 at hf
  refine a_lload_n C (i := 0) (q := 15) dX8_isNoMore_14 rfl 0 rfl rfl ?_
  refine a_lconst C (v := (0 : Int64)) (q := 16) dX8_isNoMore_15 rfl (by decide) ?_
  refine a_lcmp C (q := 17) dX8_isNoMore_16 rfl ?_
  refine a_if_le C (tgt := 28) (q := 20) dX8_isNoMore_17 hf (by decide) rfl (fun hf => ?_) (fun hf => ?_)
  · exact a_sub [0, 1] rfl (w_X8_isNoMore_28 C hR s r v0 v2 res hf hK)
  · refine a_lload_n C (i := 2) (q := 21) dX8_isNoMore_20 rfl 1 rfl rfl ?_
    refine a_lconst C (v := (0 : Int64)) (q := 22) dX8_isNoMore_21 rfl (by decide) ?_
    refine a_lcmp C (q := 23) dX8_isNoMore_22 rfl ?_
    refine a_if_le C (tgt := 28) (q := 26) dX8_isNoMore_23 hf (by decide) rfl (fun hf => ?_) (fun hf => ?_)
    · exact a_sub [0, 1] rfl (w_X8_isNoMore_28 C hR s r v0 v2 res hf hK)
    · refine a_iconst C (v := (0 : Int32)) (q := 27) dX8_isNoMore_26 rfl (by decide) ?_
      have hf := Option.some.inj hf; subst hf
      exact (show RetI F G Q cX8_isNoMore 4 .boolean (0 : Int32) (s, r) from hK) rfl _ _ dX8_isNoMore_27
def f_X8_isNoMore (v0 : Int64) (v2 : Int64) : Option (Int32) :=
  (if 0 < (lg_cmp v0 (0 : Int64)) then f_X8_isNoMore_14 v0 v2 else (if 0 < (lg_cmp v2 (0 : Int64)) then f_X8_isNoMore_14 v0 v2 else some (1 : Int32)))
set_option maxHeartbeats 4000000 in
theorem w_X8_isNoMore_e {F : FX} {G : GX} {Q : State → Prop} (C : Cx F G cX8_isNoMore 4 RX8) (hR : Rm F 2) (s : MM) (r : SR)  (v0 : Int64) (v2 : Int64) (res : Int32) (hf : f_X8_isNoMore v0 v2 = some res) (hK : RetI F G Q cX8_isNoMore 4 .boolean res (s, r)) : At F G Q 4 0 [(0, .long v0), (2, .long v2)] [] (s, r) := by
  unfold f_X8_isNoMore at hf
  refine a_lload_n C (i := 0) (q := 1) dX8_isNoMore_0 rfl 0 rfl rfl ?_
  refine a_lconst C (v := (0 : Int64)) (q := 2) dX8_isNoMore_1 rfl (by decide) ?_
  refine a_lcmp C (q := 3) dX8_isNoMore_2 rfl ?_
  refine a_if_gt C (tgt := 14) (q := 6) dX8_isNoMore_3 hf (by decide) rfl (fun hf => ?_) (fun hf => ?_)
  · exact a_sub [0, 1] rfl (w_X8_isNoMore_14 C hR s r v0 v2 res hf hK)
  · refine a_lload_n C (i := 2) (q := 7) dX8_isNoMore_6 rfl 1 rfl rfl ?_
    refine a_lconst C (v := (0 : Int64)) (q := 8) dX8_isNoMore_7 rfl (by decide) ?_
    refine a_lcmp C (q := 9) dX8_isNoMore_8 rfl ?_
    refine a_if_gt C (tgt := 14) (q := 12) dX8_isNoMore_9 hf (by decide) rfl (fun hf => ?_) (fun hf => ?_)
    · exact a_sub [0, 1] rfl (w_X8_isNoMore_14 C hR s r v0 v2 res hf hK)
    · refine a_iconst C (v := (1 : Int32)) (q := 13) dX8_isNoMore_12 rfl (by decide) ?_
      have hf := Option.some.inj hf; subst hf
      exact (show RetI F G Q cX8_isNoMore 4 .boolean (1 : Int32) (s, r) from hK) rfl _ _ dX8_isNoMore_13
theorem c_X8_isNoMore (l : Launch) (G : GX) (s : MM) (r : SR) (v0 : Int64) (v2 : Int64) (res : Int32) (hf : f_X8_isNoMore v0 v2 = some res) : MetC l G yX8_isNoMore cX8_isNoMore 4 (some .boolean) 2 (s, r) [.long v0, .long v2] (PostI G res (s, r)) :=
  m_I (by decide) (Nat.le_of_ble_eq_true rfl) (fun F Q C h1 h2 h3 hK => w_X8_isNoMore_e C (Rm.of h1 h3) s r v0 v2 res hf hK)
theorem cw_X8_isEvenNow : CwV RX8 yX8_isEvenNow cX8_isEvenNow 1 0 (some .boolean) := ⟨k_935, k_934, kp_26, k_9, by decide +kernel, by decide⟩
def f_X8_isEvenNow (n : Nat) (t : SR) : Option (Int32 × SR) :=
  b1 (f_X8_findSquare n t) (fun y_1 => b1 (f_X8_isNoMore ((y_1.2 14) - (((4 : Int64) * ((y_1.1 39 6).toInt64)) * ((y_1.1 39 6).toInt64))) (y_1.2 15)) (fun y_2 => bz y_2 (some (y_2, y_1))))
set_option maxHeartbeats 4000000 in
theorem w_X8_isEvenNow_e {F : FX} {G : GX} {Q : State → Prop} (C : Cx F G cX8_isEvenNow 1 RX8) (hR : Rm F 4) (n : Nat) (s : MM) (t : SR)   (res : Int32 × SR) (hf : f_X8_isEvenNow n t = some res) (hK : RetI F G Q cX8_isEvenNow 1 .boolean res.1 (s, res.2)) : At F G Q 1 0 [(0, .ref (G.2.1 39))] [] (s, t) := by
  unfold f_X8_isEvenNow at hf
  refine a_aload_n C (i := 0) (q := 1) dX8_isEvenNow_0 rfl 0 rfl rfl ?_
  refine a_callVV C (q := 4) (As := []) (st := []) dX8_isEvenNow_1 hR (by decide) hf (fun b => (s, b)) (by decide) rfl rfl cw_X8_findSquare (fun b hb => c_X8_findSquare _ G n s t b hb) rfl rfl (Nat.le_of_ble_eq_true rfl) k_936 rfl (fun y_1 hf => ?_)
  refine a_aload_n C (i := 0) (q := 5) dX8_isEvenNow_4 rfl 0 rfl rfl ?_
  refine a_get8 C (q := 8) dX8_isEvenNow_5 14 (by decide) k_782 (by decide) rfl rfl rfl ?_
  refine a_ldc2 C (v := (4 : Int64)) (q := 11) dX8_isEvenNow_8 rfl k_944 ?_
  refine a_aload_n C (i := 0) (q := 12) dX8_isEvenNow_11 rfl 0 rfl rfl ?_
  refine a_get8 C (q := 15) dX8_isEvenNow_12 6 (by decide) k_774 (by decide) rfl rfl rfl ?_
  refine a_i2l C (q := 16) dX8_isEvenNow_15 rfl ?_
  refine a_lmul C (q := 17) dX8_isEvenNow_16 rfl ?_
  refine a_aload_n C (i := 0) (q := 18) dX8_isEvenNow_17 rfl 0 rfl rfl ?_
  refine a_get8 C (q := 21) dX8_isEvenNow_18 6 (by decide) k_774 (by decide) rfl rfl rfl ?_
  refine a_i2l C (q := 22) dX8_isEvenNow_21 rfl ?_
  refine a_lmul C (q := 23) dX8_isEvenNow_22 rfl ?_
  refine a_lsub C (q := 24) dX8_isEvenNow_23 rfl ?_
  refine a_aload_n C (i := 0) (q := 25) dX8_isEvenNow_24 rfl 0 rfl rfl ?_
  refine a_get8 C (q := 28) dX8_isEvenNow_25 15 (by decide) k_783 (by decide) rfl rfl rfl ?_
  refine a_callSI C (q := 31) (As := [.long ((y_1.2 14) - (((4 : Int64) * ((y_1.1 39 6).toInt64)) * ((y_1.1 39 6).toInt64))), .long (y_1.2 15)]) (st := []) dX8_isEvenNow_28 hR (by decide) hf (fun b => b) (fun _ => (s, y_1)) cw_X8_isNoMore (fun b hb => c_X8_isNoMore _ G s y_1 ((y_1.2 14) - (((4 : Int64) * ((y_1.1 39 6).toInt64)) * ((y_1.1 39 6).toInt64))) (y_1.2 15) b hb) rfl rfl (Nat.le_of_ble_eq_true rfl) k_945 rfl (fun y_2 hf => ?_)
  obtain ⟨hz, hf⟩ := bz_some hf
  have hf := Option.some.inj hf; subst hf
  exact (show RetI F G Q cX8_isEvenNow 1 .boolean y_2 (s, y_1) from hK) hz _ _ dX8_isEvenNow_31
theorem c_X8_isEvenNow (l : Launch) (G : GX) (n : Nat) (s : MM) (t : SR)  (res : Int32 × SR) (hf : f_X8_isEvenNow n t = some res) : MetC l G yX8_isEvenNow cX8_isEvenNow 1 (some .boolean) 4 (s, t) [.ref (G.2.1 39)] (PostI G res.1 (s, res.2)) :=
  m_I (by decide) (Nat.le_of_ble_eq_true rfl) (fun F Q C h1 h2 h3 hK => w_X8_isEvenNow_e C (Rm.of h1 h3) n s t res hf hK)
theorem cw_X8_isEven : CwV RX8 yX8_isEven cX8_isEven 1 0 (some .boolean) := ⟨k_927, k_926, kp_24, k_9, by decide +kernel, by decide⟩
def f_X8_isEven (n : Nat) (t : SR) : Option (Int32 × SR) :=
  b1 (f_X8_findLoads n t) (fun y_1 => b1 (f_X8_isEvenNow n y_1) (fun y_2 => bz y_2.1 (some (y_2.1, y_2.2))))
set_option maxHeartbeats 4000000 in
theorem w_X8_isEven_e {F : FX} {G : GX} {Q : State → Prop} (C : Cx F G cX8_isEven 1 RX8) (hR : Rm F 5) (n : Nat) (s : MM) (t : SR)   (res : Int32 × SR) (hf : f_X8_isEven n t = some res) (hK : RetI F G Q cX8_isEven 1 .boolean res.1 (s, res.2)) : At F G Q 1 0 [(0, .ref (G.2.1 39))] [] (s, t) := by
  unfold f_X8_isEven at hf
  refine a_aload_n C (i := 0) (q := 1) dX8_isEven_0 rfl 0 rfl rfl ?_
  refine a_callVV C (q := 4) (As := []) (st := []) dX8_isEven_1 hR (by decide) hf (fun b => (s, b)) (by decide) rfl rfl cw_X8_findLoads (fun b hb => c_X8_findLoads _ G n s t b hb) rfl rfl (Nat.le_of_ble_eq_true rfl) k_928 rfl (fun y_1 hf => ?_)
  refine a_aload_n C (i := 0) (q := 5) dX8_isEven_4 rfl 0 rfl rfl ?_
  refine a_callVI C (q := 8) (As := []) (st := []) dX8_isEven_5 hR (by decide) hf (fun b => b.1) (fun b => (s, b.2)) (by decide) rfl rfl cw_X8_isEvenNow (fun b hb => c_X8_isEvenNow _ G n s y_1 b hb) rfl rfl (Nat.le_of_ble_eq_true rfl) k_932 rfl (fun y_2 hf => ?_)
  obtain ⟨hz, hf⟩ := bz_some hf
  have hf := Option.some.inj hf; subst hf
  exact (show RetI F G Q cX8_isEven 1 .boolean y_2.1 (s, y_2.2) from hK) hz _ _ dX8_isEven_8
theorem c_X8_isEven (l : Launch) (G : GX) (n : Nat) (s : MM) (t : SR)  (res : Int32 × SR) (hf : f_X8_isEven n t = some res) : MetC l G yX8_isEven cX8_isEven 1 (some .boolean) 5 (s, t) [.ref (G.2.1 39)] (PostI G res.1 (s, res.2)) :=
  m_I (by decide) (Nat.le_of_ble_eq_true rfl) (fun F Q C h1 h2 h3 hK => w_X8_isEven_e C (Rm.of h1 h3) n s t res hf hK)
theorem cw_X8_limit : CwV RX8 yX8_limit cX8_limit 3 1 (some .int) := ⟨k_922, k_920, k_921, k_9, by decide +kernel, by decide⟩
def f_X8_limit (n : Nat) (t : SR) (v1 : Int32) : Option (Int32 × SR) :=
  b1 (f_X8_in v1.toInt64 (0 : Int64) (999 : Int64)) (fun y_1 => (if y_1 = 0 then some ((-1 : Int32), t) else nm (t.1 39 6) (fun v2_2 => nm (sr1 t 39 6 v1) (fun t_3 => b1 (f_X8_isEven n t_3) (fun y_4 => (if y_4.1 = 0 then nm (sr1 y_4.2 39 6 v2_2) (fun t_5 => some ((-2 : Int32), t_5)) else some (v2_2, y_4.2)))))))
set_option maxHeartbeats 4000000 in
theorem w_X8_limit_e {F : FX} {G : GX} {Q : State → Prop} (C : Cx F G cX8_limit 3 RX8) (hR : Rm F 6) (n : Nat) (s : MM) (t : SR)  (v1 : Int32) (res : Int32 × SR) (hf : f_X8_limit n t v1 = some res) (hK : RetI F G Q cX8_limit 3 .int res.1 (s, res.2)) : At F G Q 3 0 [(0, .ref (G.2.1 39)), (1, .int v1)] [] (s, t) := by
  unfold f_X8_limit at hf
  refine a_iload_n C (i := 1) (q := 1) dX8_limit_0 rfl 1 rfl rfl ?_
  refine a_i2l C (q := 2) dX8_limit_1 rfl ?_
  refine a_lconst C (v := (0 : Int64)) (q := 3) dX8_limit_2 rfl (by decide) ?_
  refine a_ldc2 C (v := (999 : Int64)) (q := 6) dX8_limit_3 rfl k_923 ?_
  refine a_callSI C (q := 9) (As := [.long v1.toInt64, .long (0 : Int64), .long (999 : Int64)]) (st := []) dX8_limit_6 hR (by decide) hf (fun b => b) (fun _ => (s, t)) cw_X8_in (fun b hb => c_X8_in _ G s t v1.toInt64 (0 : Int64) (999 : Int64) b hb) rfl rfl (Nat.le_of_ble_eq_true rfl) k_880 rfl (fun y_1 hf => ?_)
  refine a_if_ne C (tgt := 14) (q := 12) dX8_limit_9 hf (by decide) rfl (fun hf => ?_) (fun hf => ?_)
  · refine a_aload_n C (i := 0) (q := 15) dX8_limit_14 rfl 0 rfl rfl ?_
    refine a_get8 C (q := 18) dX8_limit_15 6 (by decide) k_774 (by decide) rfl rfl rfl ?_
    refine a_istore_nN C (i := 2) (q := 19) (lv' := fun z => [(2, .int z), (0, .ref (G.2.1 39)), (1, .int v1)]) dX8_limit_18 hf rfl (by decide) (fun _ => rfl) rfl (fun v2_2 hf => ?_)
    refine a_aload_n C (i := 0) (q := 20) dX8_limit_19 rfl 1 rfl rfl ?_
    refine a_iload_n C (i := 1) (q := 21) dX8_limit_20 rfl 2 rfl rfl ?_
    refine a_put8N C (q := 24) (mk := (fun z => (s, z))) dX8_limit_21 hf 6 (by decide) k_774 (by decide) rfl rfl cellE_R1 rfl rfl rfl (Nat.le_of_ble_eq_true rfl) rfl (fun t_3 hf => ?_)
    refine a_aload_n C (i := 0) (q := 25) dX8_limit_24 rfl 1 rfl rfl ?_
    refine a_callVI C (q := 28) (As := []) (st := []) dX8_limit_25 hR (by decide) hf (fun b => b.1) (fun b => (s, b.2)) (by decide) rfl rfl cw_X8_isEven (fun b hb => c_X8_isEven _ G n s t_3 b hb) rfl rfl (Nat.le_of_ble_eq_true rfl) k_924 rfl (fun y_4 hf => ?_)
    refine a_if_ne C (tgt := 39) (q := 31) dX8_limit_28 hf (by decide) rfl (fun hf => ?_) (fun hf => ?_)
    · refine a_iload_n C (i := 2) (q := 40) dX8_limit_39 rfl 0 rfl rfl ?_
      have hf := Option.some.inj hf; subst hf
      exact (show RetI F G Q cX8_limit 3 .int v2_2 (s, y_4.2) from hK) rfl _ _ dX8_limit_40
    · refine a_aload_n C (i := 0) (q := 32) dX8_limit_31 rfl 1 rfl rfl ?_
      refine a_iload_n C (i := 2) (q := 33) dX8_limit_32 rfl 0 rfl rfl ?_
      refine a_put8N C (q := 36) (mk := (fun z => (s, z))) dX8_limit_33 hf 6 (by decide) k_774 (by decide) rfl rfl cellE_R1 rfl rfl rfl (Nat.le_of_ble_eq_true rfl) rfl (fun t_5 hf => ?_)
      refine a_bipush C (v := (-2 : Int32)) (q := 38) dX8_limit_36 rfl (by decide) ?_
      have hf := Option.some.inj hf; subst hf
      exact (show RetI F G Q cX8_limit 3 .int (-2 : Int32) (s, t_5) from hK) rfl _ _ dX8_limit_38
  · refine a_iconst C (v := (-1 : Int32)) (q := 13) dX8_limit_12 rfl (by decide) ?_
    have hf := Option.some.inj hf; subst hf
    exact (show RetI F G Q cX8_limit 3 .int (-1 : Int32) (s, t) from hK) rfl _ _ dX8_limit_13
theorem c_X8_limit (l : Launch) (G : GX) (n : Nat) (s : MM) (t : SR) (v1 : Int32) (res : Int32 × SR) (hf : f_X8_limit n t v1 = some res) : MetC l G yX8_limit cX8_limit 3 (some .int) 6 (s, t) [.ref (G.2.1 39), .int v1] (PostI G res.1 (s, res.2)) :=
  m_I (by decide) (Nat.le_of_ble_eq_true rfl) (fun F Q C h1 h2 h3 hK => w_X8_limit_e C (Rm.of h1 h3) n s t v1 res hf hK)
theorem cw_X8_out : CwV RX8 yX8_out cX8_out 2 1 (some .int) := ⟨k_951, k_949, k_950, k_9, by decide +kernel, by decide⟩
def f_X8_out (n : Nat) (t : SR) (v1 : Int32) : Option (Int32 × SR) :=
  b1 (f_X8_in v1.toInt64 (0 : Int64) (5 : Int64)) (fun y_1 => (if y_1 = 0 then some ((-100000001 : Int32), t) else b1 (f_X8_findLoads n t) (fun y_2 => b1 (f_X8_findSquare n y_2) (fun y_3 => (if v1 = 0 then some (y_3.1 39 10, y_3) else (if v1 = (1 : Int32) then some (y_3.1 39 11, y_3) else (if v1 = (2 : Int32) then some (y_3.1 39 12, y_3) else (if v1 = (3 : Int32) then some (y_3.1 39 13, y_3) else (if v1 = (4 : Int32) then some ((y_3.2 14).toInt32, y_3) else some ((y_3.2 15).toInt32, y_3))))))))))
set_option maxHeartbeats 4000000 in
theorem w_X8_out_e {F : FX} {G : GX} {Q : State → Prop} (C : Cx F G cX8_out 2 RX8) (hR : Rm F 4) (n : Nat) (s : MM) (t : SR)  (v1 : Int32) (res : Int32 × SR) (hf : f_X8_out n t v1 = some res) (hK : RetI F G Q cX8_out 2 .int res.1 (s, res.2)) : At F G Q 2 0 [(0, .ref (G.2.1 39)), (1, .int v1)] [] (s, t) := by
  unfold f_X8_out at hf
  refine a_iload_n C (i := 1) (q := 1) dX8_out_0 rfl 1 rfl rfl ?_
  refine a_i2l C (q := 2) dX8_out_1 rfl ?_
  refine a_lconst C (v := (0 : Int64)) (q := 3) dX8_out_2 rfl (by decide) ?_
  refine a_ldc2 C (v := (5 : Int64)) (q := 6) dX8_out_3 rfl k_952 ?_
  refine a_callSI C (q := 9) (As := [.long v1.toInt64, .long (0 : Int64), .long (5 : Int64)]) (st := []) dX8_out_6 hR (by decide) hf (fun b => b) (fun _ => (s, t)) cw_X8_in (fun b hb => c_X8_in _ G s t v1.toInt64 (0 : Int64) (5 : Int64) b hb) rfl rfl (Nat.le_of_ble_eq_true rfl) k_880 rfl (fun y_1 hf => ?_)
  refine a_if_ne C (tgt := 15) (q := 12) dX8_out_9 hf (by decide) rfl (fun hf => ?_) (fun hf => ?_)
  · refine a_aload_n C (i := 0) (q := 16) dX8_out_15 rfl 0 rfl rfl ?_
    refine a_callVV C (q := 19) (As := []) (st := []) dX8_out_16 hR (by decide) hf (fun b => (s, b)) (by decide) rfl rfl cw_X8_findLoads (fun b hb => c_X8_findLoads _ G n s t b hb) rfl rfl (Nat.le_of_ble_eq_true rfl) k_928 rfl (fun y_2 hf => ?_)
    refine a_aload_n C (i := 0) (q := 20) dX8_out_19 rfl 0 rfl rfl ?_
    refine a_callVV C (q := 23) (As := []) (st := []) dX8_out_20 hR (by decide) hf (fun b => (s, b)) (by decide) rfl rfl cw_X8_findSquare (fun b hb => c_X8_findSquare _ G n s y_2 b hb) rfl rfl (Nat.le_of_ble_eq_true rfl) k_936 rfl (fun y_3 hf => ?_)
    refine a_iload_n C (i := 1) (q := 24) dX8_out_23 rfl 1 rfl rfl ?_
    refine a_if_ne C (tgt := 34) (q := 27) dX8_out_24 hf (by decide) rfl (fun hf => ?_) (fun hf => ?_)
    · refine a_iload_n C (i := 1) (q := 35) dX8_out_34 rfl 1 rfl rfl ?_
      refine a_iconst C (v := (1 : Int32)) (q := 36) dX8_out_35 rfl (by decide) ?_
      refine a_icmp_ne C (tgt := 46) (q := 39) dX8_out_36 hf (by decide) rfl (fun hf => ?_) (fun hf => ?_)
      · refine a_iload_n C (i := 1) (q := 47) dX8_out_46 rfl 1 rfl rfl ?_
        refine a_iconst C (v := (2 : Int32)) (q := 48) dX8_out_47 rfl (by decide) ?_
        refine a_icmp_ne C (tgt := 58) (q := 51) dX8_out_48 hf (by decide) rfl (fun hf => ?_) (fun hf => ?_)
        · refine a_iload_n C (i := 1) (q := 59) dX8_out_58 rfl 1 rfl rfl ?_
          refine a_iconst C (v := (3 : Int32)) (q := 60) dX8_out_59 rfl (by decide) ?_
          refine a_icmp_ne C (tgt := 70) (q := 63) dX8_out_60 hf (by decide) rfl (fun hf => ?_) (fun hf => ?_)
          · refine a_iload_n C (i := 1) (q := 71) dX8_out_70 rfl 1 rfl rfl ?_
            refine a_iconst C (v := (4 : Int32)) (q := 72) dX8_out_71 rfl (by decide) ?_
            refine a_icmp_ne C (tgt := 82) (q := 75) dX8_out_72 hf (by decide) rfl (fun hf => ?_) (fun hf => ?_)
            · refine a_aload_n C (i := 0) (q := 83) dX8_out_82 rfl 0 rfl rfl ?_
              refine a_get8 C (q := 86) dX8_out_83 15 (by decide) k_783 (by decide) rfl rfl rfl ?_
              refine a_l2i C (q := 87) dX8_out_86 rfl ?_
              have hf := Option.some.inj hf; subst hf
              exact (show RetI F G Q cX8_out 2 .int ((y_3.2 15).toInt32) (s, y_3) from hK) rfl _ _ dX8_out_87
            · refine a_aload_n C (i := 0) (q := 76) dX8_out_75 rfl 0 rfl rfl ?_
              refine a_get8 C (q := 79) dX8_out_76 14 (by decide) k_782 (by decide) rfl rfl rfl ?_
              refine a_goto C (q := 86) dX8_out_79 (by decide) ?_
              refine a_l2i C (q := 87) dX8_out_86 rfl ?_
              have hf := Option.some.inj hf; subst hf
              exact (show RetI F G Q cX8_out 2 .int ((y_3.2 14).toInt32) (s, y_3) from hK) rfl _ _ dX8_out_87
          · refine a_aload_n C (i := 0) (q := 64) dX8_out_63 rfl 0 rfl rfl ?_
            refine a_get8 C (q := 67) dX8_out_64 13 (by decide) k_781 (by decide) rfl rfl rfl ?_
            refine a_goto C (q := 87) dX8_out_67 (by decide) ?_
            have hf := Option.some.inj hf; subst hf
            exact (show RetI F G Q cX8_out 2 .int (y_3.1 39 13) (s, y_3) from hK) rfl _ _ dX8_out_87
        · refine a_aload_n C (i := 0) (q := 52) dX8_out_51 rfl 0 rfl rfl ?_
          refine a_get8 C (q := 55) dX8_out_52 12 (by decide) k_780 (by decide) rfl rfl rfl ?_
          refine a_goto C (q := 87) dX8_out_55 (by decide) ?_
          have hf := Option.some.inj hf; subst hf
          exact (show RetI F G Q cX8_out 2 .int (y_3.1 39 12) (s, y_3) from hK) rfl _ _ dX8_out_87
      · refine a_aload_n C (i := 0) (q := 40) dX8_out_39 rfl 0 rfl rfl ?_
        refine a_get8 C (q := 43) dX8_out_40 11 (by decide) k_779 (by decide) rfl rfl rfl ?_
        refine a_goto C (q := 87) dX8_out_43 (by decide) ?_
        have hf := Option.some.inj hf; subst hf
        exact (show RetI F G Q cX8_out 2 .int (y_3.1 39 11) (s, y_3) from hK) rfl _ _ dX8_out_87
    · refine a_aload_n C (i := 0) (q := 28) dX8_out_27 rfl 0 rfl rfl ?_
      refine a_get8 C (q := 31) dX8_out_28 10 (by decide) k_778 (by decide) rfl rfl rfl ?_
      refine a_goto C (q := 87) dX8_out_31 (by decide) ?_
      have hf := Option.some.inj hf; subst hf
      exact (show RetI F G Q cX8_out 2 .int (y_3.1 39 10) (s, y_3) from hK) rfl _ _ dX8_out_87
  · refine a_ldc C (v := (-100000001 : Int32)) (q := 14) dX8_out_12 rfl k_953 ?_
    have hf := Option.some.inj hf; subst hf
    exact (show RetI F G Q cX8_out 2 .int (-100000001 : Int32) (s, t) from hK) rfl _ _ dX8_out_14
theorem c_X8_out (l : Launch) (G : GX) (n : Nat) (s : MM) (t : SR) (v1 : Int32) (res : Int32 × SR) (hf : f_X8_out n t v1 = some res) : MetC l G yX8_out cX8_out 2 (some .int) 4 (s, t) [.ref (G.2.1 39), .int v1] (PostI G res.1 (s, res.2)) :=
  m_I (by decide) (Nat.le_of_ble_eq_true rfl) (fun F Q C h1 h2 h3 hK => w_X8_out_e C (Rm.of h1 h3) n s t v1 res hf hK)
theorem cw_X8_count : CwV RX8 yX8_count cX8_count 5 1 (some .int) := ⟨k_957, k_955, k_956, k_9, by decide +kernel, by decide⟩
def P_X8_count_4 (F : FX) (G : GX) (Q : State → Prop) (s : MM) (t : SR) (v1 : Int32) (v2 : Int32) (v3 : Int32) : Prop := At F G Q 5 4 [(0, .ref (G.2.1 39)), (1, .int v1), (2, .int v2), (3, .int v3)] [] (s, t)
def E_X8_count_4 (F : FX) (G : GX) (Q : State → Prop) (s : MM) (t : SR) (v1 : Int32) : Int32 → Prop := fun q => match q with
  | v2 => At F G Q 5 25 [(0, .ref (G.2.1 39)), (1, .int v1), (2, .int v2)] [] (s, t)
def lb_X8_count_4 (n : Nat) (t : SR) (v1 : Int32) (v2 : Int32) (v3 : Int32) : Option ((Int32) ⊕ (Int32 × Int32)) :=
  (if (12 : Int32) ≤ v3 then some (.inl v2) else ix v3 12 (nm (v2 + (t.1 44 v3.toNatClampNeg)) (fun v2_1 => nm (v3 + 1) (fun v3_2 => some (.inr (v2_1, v3_2))))))
set_option maxHeartbeats 4000000 in
theorem w_X8_count_4 {F : FX} {G : GX} {Q : State → Prop} (C : Cx F G cX8_count 5 RX8) (hR : Rm F 3) (n : Nat) (s : MM) (t : SR) (v1 : Int32)  (v2 : Int32) (v3 : Int32) (res : (Int32) ⊕ (Int32 × Int32)) (hf : lb_X8_count_4 n t v1 v2 v3 = some res) (hK : Sum.elim (E_X8_count_4 F G Q s t v1) (fun q => match q with | (v2, v3) => P_X8_count_4 F G Q s t v1 v2 v3) res) : P_X8_count_4 F G Q s t v1 v2 v3 := by
  unfold lb_X8_count_4 at hf
  show At F G Q 5 4 [(0, .ref (G.2.1 39)), (1, .int v1), (2, .int v2), (3, .int v3)] [] (s, t)
  refine a_iload_n C (i := 3) (q := 5) dX8_count_4 rfl 3 rfl rfl ?_
  refine a_bipush C (v := (12 : Int32)) (q := 7) dX8_count_5 rfl (by decide) ?_
  refine a_icmp_ge C (tgt := 25) (q := 10) dX8_count_7 hf (by decide) rfl (fun hf => ?_) (fun hf => ?_)
  · have hf := Option.some.inj hf; subst hf
    exact a_sub [0, 1, 2] rfl (show At F G Q 5 25 [(0, .ref (G.2.1 39)), (1, .int v1), (2, .int v2)] [] (s, t) from hK)
  · refine a_iload_n C (i := 2) (q := 11) dX8_count_10 rfl 2 rfl rfl ?_
    refine a_aload_n C (i := 0) (q := 12) dX8_count_11 rfl 0 rfl rfl ?_
    refine a_get8 C (q := 15) dX8_count_12 5 (by decide) k_773 (by decide) rfl rfl rfl ?_
    refine a_iload_n C (i := 3) (q := 16) dX8_count_15 rfl 3 rfl rfl ?_
    refine a_iald C (q := 17) (g := t.1 44) dX8_count_16 hf (by decide) rfl rfl (fun hf => ?_)
    refine a_iadd C (q := 18) dX8_count_17 rfl ?_
    refine a_istore_nN C (i := 2) (q := 19) (lv' := fun z => [(2, .int z), (0, .ref (G.2.1 39)), (1, .int v1), (3, .int v3)]) dX8_count_18 hf rfl (by decide) (fun _ => rfl) rfl (fun v2_1 hf => ?_)
    refine a_iincN C (i := 3) (k := 3) (q := 22) (lv' := fun z => [(3, .int z), (2, .int v2_1), (0, .ref (G.2.1 39)), (1, .int v1)]) dX8_count_19 hf rfl rfl (by decide) (fun _ => rfl) rfl (fun v3_2 hf => ?_)
    refine a_goto C (q := 4) dX8_count_22 (by decide) ?_
    have hf := Option.some.inj hf; subst hf
    exact a_sub [2, 3, 1, 0] rfl (show At F G Q 5 4 [(0, .ref (G.2.1 39)), (1, .int v1), (2, .int v2_1), (3, .int v3_2)] [] (s, t) from hK)
theorem lp_X8_count_4 {F : FX} {G : GX} {Q : State → Prop} (C : Cx F G cX8_count 5 RX8) (hR : Rm F 3) (n : Nat) (s : MM) (t : SR) (v1 : Int32)  (v2 : Int32) (v3 : Int32) (x : Int32) (h : it2 (lb_X8_count_4 n t v1) n v2 v3 = some x) (hE : E_X8_count_4 F G Q s t v1 x) : At F G Q 5 4 [(0, .ref (G.2.1 39)), (1, .int v1), (2, .int v2), (3, .int v3)] [] (s, t) :=
  it2_ind (b := (lb_X8_count_4 n t v1)) (E := E_X8_count_4 F G Q s t v1) (P := fun v2 v3 => P_X8_count_4 F G Q s t v1 v2 v3) (fun v2 v3 res hf hK => w_X8_count_4 C hR n s t v1   v2 v3 res hf hK) n v2 v3 x h hE
def P_X8_count_30 (F : FX) (G : GX) (Q : State → Prop) (s : MM) (t : SR) (v1 : Int32) (v2 : Int32) (v3 : Int32) (v4 : Int32) : Prop := At F G Q 5 30 [(0, .ref (G.2.1 39)), (1, .int v1), (2, .int v2), (3, .int v3), (4, .int v4)] [] (s, t)
def E_X8_count_30 (F : FX) (G : GX) (Q : State → Prop) (s : MM) (t : SR) (v1 : Int32) (v2 : Int32) : Int32 → Prop := fun q => match q with
  | v3 => At F G Q 5 68 [(0, .ref (G.2.1 39)), (1, .int v1), (2, .int v2), (3, .int v3)] [] (s, t)
def lb_X8_count_30 (n : Nat) (t : SR) (v1 : Int32) (v2 : Int32) (v3 : Int32) (v4 : Int32) : Option ((Int32) ⊕ (Int32 × Int32)) :=
  (if (t.1 39 4) ≤ v4 then some (.inl v3) else ix v4 10 ((if (12 : Int32) ≤ (t.1 42 v4.toNatClampNeg) then nm (v3 ||| (0 : Int32)) (fun v3_4 => nm (v4 + 1) (fun v4_5 => some (.inr (v3_4, v4_5)))) else nm (v3 ||| ((1 : Int32) <<< (v4 &&& 31))) (fun v3_6 => nm (v4 + 1) (fun v4_7 => some (.inr (v3_6, v4_7)))))))
set_option maxHeartbeats 4000000 in
theorem w_X8_count_30 {F : FX} {G : GX} {Q : State → Prop} (C : Cx F G cX8_count 5 RX8) (hR : Rm F 3) (n : Nat) (s : MM) (t : SR) (v1 : Int32) (v2 : Int32)  (v3 : Int32) (v4 : Int32) (res : (Int32) ⊕ (Int32 × Int32)) (hf : lb_X8_count_30 n t v1 v2 v3 v4 = some res) (hK : Sum.elim (E_X8_count_30 F G Q s t v1 v2) (fun q => match q with | (v3, v4) => P_X8_count_30 F G Q s t v1 v2 v3 v4) res) : P_X8_count_30 F G Q s t v1 v2 v3 v4 := by
  unfold lb_X8_count_30 at hf
  show At F G Q 5 30 [(0, .ref (G.2.1 39)), (1, .int v1), (2, .int v2), (3, .int v3), (4, .int v4)] [] (s, t)
  refine a_iload C (i := 4) (q := 32) dX8_count_30 rfl 4 rfl ?_
  refine a_aload_n C (i := 0) (q := 33) dX8_count_32 rfl 0 rfl rfl ?_
  refine a_get8 C (q := 36) dX8_count_33 4 (by decide) k_772 (by decide) rfl rfl rfl ?_
  refine a_icmp_ge C (tgt := 68) (q := 39) dX8_count_36 hf (by decide) rfl (fun hf => ?_) (fun hf => ?_)
  · have hf := Option.some.inj hf; subst hf
    exact a_sub [0, 1, 2, 3] rfl (show At F G Q 5 68 [(0, .ref (G.2.1 39)), (1, .int v1), (2, .int v2), (3, .int v3)] [] (s, t) from hK)
  · refine a_iload_n C (i := 3) (q := 40) dX8_count_39 rfl 3 rfl rfl ?_
    refine a_aload_n C (i := 0) (q := 41) dX8_count_40 rfl 0 rfl rfl ?_
    refine a_get8 C (q := 44) dX8_count_41 2 (by decide) k_770 (by decide) rfl rfl rfl ?_
    refine a_iload C (i := 4) (q := 46) dX8_count_44 rfl 4 rfl ?_
    refine a_iald C (q := 47) (g := t.1 42) dX8_count_46 hf (by decide) rfl rfl (fun hf => ?_)
    refine a_bipush C (v := (12 : Int32)) (q := 49) dX8_count_47 rfl (by decide) ?_
    refine a_icmp_ge C (tgt := 59) (q := 52) dX8_count_49 hf (by decide) rfl (fun hf => ?_) (fun hf => ?_)
    · refine a_iconst C (v := (0 : Int32)) (q := 60) dX8_count_59 rfl (by decide) ?_
      refine a_ior C (q := 61) dX8_count_60 rfl ?_
      refine a_istore_nN C (i := 3) (q := 62) (lv' := fun z => [(3, .int z), (0, .ref (G.2.1 39)), (1, .int v1), (2, .int v2), (4, .int v4)]) dX8_count_61 hf rfl (by decide) (fun _ => rfl) rfl (fun v3_4 hf => ?_)
      refine a_iincN C (i := 4) (k := 4) (q := 65) (lv' := fun z => [(4, .int z), (3, .int v3_4), (0, .ref (G.2.1 39)), (1, .int v1), (2, .int v2)]) dX8_count_62 hf rfl rfl (by decide) (fun _ => rfl) rfl (fun v4_5 hf => ?_)
      refine a_goto C (q := 30) dX8_count_65 (by decide) ?_
      have hf := Option.some.inj hf; subst hf
      exact a_sub [2, 3, 4, 1, 0] rfl (show At F G Q 5 30 [(0, .ref (G.2.1 39)), (1, .int v1), (2, .int v2), (3, .int v3_4), (4, .int v4_5)] [] (s, t) from hK)
    · refine a_iconst C (v := (1 : Int32)) (q := 53) dX8_count_52 rfl (by decide) ?_
      refine a_iload C (i := 4) (q := 55) dX8_count_53 rfl 4 rfl ?_
      refine a_ishl C (q := 56) dX8_count_55 rfl ?_
      refine a_goto C (q := 60) dX8_count_56 (by decide) ?_
      refine a_ior C (q := 61) dX8_count_60 rfl ?_
      refine a_istore_nN C (i := 3) (q := 62) (lv' := fun z => [(3, .int z), (0, .ref (G.2.1 39)), (1, .int v1), (2, .int v2), (4, .int v4)]) dX8_count_61 hf rfl (by decide) (fun _ => rfl) rfl (fun v3_6 hf => ?_)
      refine a_iincN C (i := 4) (k := 4) (q := 65) (lv' := fun z => [(4, .int z), (3, .int v3_6), (0, .ref (G.2.1 39)), (1, .int v1), (2, .int v2)]) dX8_count_62 hf rfl rfl (by decide) (fun _ => rfl) rfl (fun v4_7 hf => ?_)
      refine a_goto C (q := 30) dX8_count_65 (by decide) ?_
      have hf := Option.some.inj hf; subst hf
      exact a_sub [2, 3, 4, 1, 0] rfl (show At F G Q 5 30 [(0, .ref (G.2.1 39)), (1, .int v1), (2, .int v2), (3, .int v3_6), (4, .int v4_7)] [] (s, t) from hK)
theorem lp_X8_count_30 {F : FX} {G : GX} {Q : State → Prop} (C : Cx F G cX8_count 5 RX8) (hR : Rm F 3) (n : Nat) (s : MM) (t : SR) (v1 : Int32) (v2 : Int32)  (v3 : Int32) (v4 : Int32) (x : Int32) (h : it2 (lb_X8_count_30 n t v1 v2) n v3 v4 = some x) (hE : E_X8_count_30 F G Q s t v1 v2 x) : At F G Q 5 30 [(0, .ref (G.2.1 39)), (1, .int v1), (2, .int v2), (3, .int v3), (4, .int v4)] [] (s, t) :=
  it2_ind (b := (lb_X8_count_30 n t v1 v2)) (E := E_X8_count_30 F G Q s t v1 v2) (P := fun v3 v4 => P_X8_count_30 F G Q s t v1 v2 v3 v4) (fun v3 v4 res hf hK => w_X8_count_30 C hR n s t v1 v2   v3 v4 res hf hK) n v3 v4 x h hE
def f_X8_count (n : Nat) (t : SR) (v1 : Int32) : Option (Int32) :=
  b1 (it2 (lb_X8_count_4 n t v1) n (0 : Int32) (0 : Int32)) (fun v2_3 => b1 (it2 (lb_X8_count_30 n t v1 v2_3) n (0 : Int32) (0 : Int32)) (fun v3_8 => (if v1 = 0 then some (t.1 39 4) else (if v1 = 1 then some (t.1 39 7) else (if v1 = 2 then some (t.1 39 8) else (if v1 = 3 then b1 (f_X8_whoIn n t (12 : Int32)) (fun y_9 => some y_9) else (if v1 = 4 then some v3_8 else (if v1 = 5 then b1 (f_X8_whoIn n t (13 : Int32)) (fun y_10 => some y_10) else (if v1 = 6 then some v2_3 else some (-1 : Int32))))))))))
set_option maxHeartbeats 4000000 in
theorem w_X8_count_e {F : FX} {G : GX} {Q : State → Prop} (C : Cx F G cX8_count 5 RX8) (hR : Rm F 3) (n : Nat) (s : MM) (t : SR)  (v1 : Int32) (res : Int32) (hf : f_X8_count n t v1 = some res) (hK : RetI F G Q cX8_count 5 .int res (s, t)) : At F G Q 5 0 [(0, .ref (G.2.1 39)), (1, .int v1)] [] (s, t) := by
  unfold f_X8_count at hf
  refine a_iconst C (v := (0 : Int32)) (q := 1) dX8_count_0 rfl (by decide) ?_
  refine a_istore_n C (i := 2) (q := 2) (lv' := [(2, .int (0 : Int32)), (0, .ref (G.2.1 39)), (1, .int v1)]) dX8_count_1 rfl (by decide) rfl rfl ?_
  refine a_iconst C (v := (0 : Int32)) (q := 3) dX8_count_2 rfl (by decide) ?_
  refine a_istore_n C (i := 3) (q := 4) (lv' := [(3, .int (0 : Int32)), (2, .int (0 : Int32)), (0, .ref (G.2.1 39)), (1, .int v1)]) dX8_count_3 rfl (by decide) rfl rfl ?_
  obtain ⟨v2_3, h1, hf⟩ := b1_some hf
  refine a_sub [2, 3, 1, 0] rfl (lp_X8_count_4 C hR n s t v1  (0 : Int32) (0 : Int32) _ h1 ?_)
  show At F G Q 5 25 [(0, .ref (G.2.1 39)), (1, .int v1), (2, .int v2_3)] [] (s, t)
  refine a_iconst C (v := (0 : Int32)) (q := 26) dX8_count_25 rfl (by decide) ?_
  refine a_istore_n C (i := 3) (q := 27) (lv' := [(3, .int (0 : Int32)), (0, .ref (G.2.1 39)), (1, .int v1), (2, .int v2_3)]) dX8_count_26 rfl (by decide) rfl rfl ?_
  refine a_iconst C (v := (0 : Int32)) (q := 28) dX8_count_27 rfl (by decide) ?_
  refine a_istore C (i := 4) (q := 30) (lv' := [(4, .int (0 : Int32)), (3, .int (0 : Int32)), (0, .ref (G.2.1 39)), (1, .int v1), (2, .int v2_3)]) dX8_count_28 (by decide) rfl rfl ?_
  obtain ⟨v3_8, h1, hf⟩ := b1_some hf
  refine a_sub [2, 3, 4, 1, 0] rfl (lp_X8_count_30 C hR n s t v1 v2_3  (0 : Int32) (0 : Int32) _ h1 ?_)
  show At F G Q 5 68 [(0, .ref (G.2.1 39)), (1, .int v1), (2, .int v2_3), (3, .int v3_8)] [] (s, t)
  refine a_iload_n C (i := 1) (q := 69) dX8_count_68 rfl 1 rfl rfl ?_
  rcases ite_cut hf with ⟨hc0, hf⟩ | ⟨hc0, hf⟩
  · refine a_tblIn C (tgt := 112) (q := 69) (v := 0) dX8_count_69 hc0 (by decide) (by decide) rfl (by decide) rfl ?_
    refine a_aload_n C (i := 0) (q := 113) dX8_count_112 rfl 0 rfl rfl ?_
    refine a_get8 C (q := 116) dX8_count_113 4 (by decide) k_772 (by decide) rfl rfl rfl ?_
    have hf := Option.some.inj hf; subst hf
    exact (show RetI F G Q cX8_count 5 .int (t.1 39 4) (s, t) from hK) rfl _ _ dX8_count_116
  · rcases ite_cut hf with ⟨hc1, hf⟩ | ⟨hc1, hf⟩
    · refine a_tblIn C (tgt := 117) (q := 69) (v := 1) dX8_count_69 hc1 (by decide) (by decide) rfl (by decide) rfl ?_
      refine a_aload_n C (i := 0) (q := 118) dX8_count_117 rfl 0 rfl rfl ?_
      refine a_get8 C (q := 121) dX8_count_118 7 (by decide) k_775 (by decide) rfl rfl rfl ?_
      have hf := Option.some.inj hf; subst hf
      exact (show RetI F G Q cX8_count 5 .int (t.1 39 7) (s, t) from hK) rfl _ _ dX8_count_121
    · rcases ite_cut hf with ⟨hc2, hf⟩ | ⟨hc2, hf⟩
      · refine a_tblIn C (tgt := 122) (q := 69) (v := 2) dX8_count_69 hc2 (by decide) (by decide) rfl (by decide) rfl ?_
        refine a_aload_n C (i := 0) (q := 123) dX8_count_122 rfl 0 rfl rfl ?_
        refine a_get8 C (q := 126) dX8_count_123 8 (by decide) k_776 (by decide) rfl rfl rfl ?_
        have hf := Option.some.inj hf; subst hf
        exact (show RetI F G Q cX8_count 5 .int (t.1 39 8) (s, t) from hK) rfl _ _ dX8_count_126
      · rcases ite_cut hf with ⟨hc3, hf⟩ | ⟨hc3, hf⟩
        · refine a_tblIn C (tgt := 127) (q := 69) (v := 3) dX8_count_69 hc3 (by decide) (by decide) rfl (by decide) rfl ?_
          refine a_aload_n C (i := 0) (q := 128) dX8_count_127 rfl 0 rfl rfl ?_
          refine a_bipush C (v := (12 : Int32)) (q := 130) dX8_count_128 rfl (by decide) ?_
          refine a_callVI C (q := 133) (As := [.int (12 : Int32)]) (st := []) dX8_count_130 hR (by decide) hf (fun b => b) (fun _ => (s, t)) (by decide) rfl rfl cw_X8_whoIn (fun b hb => c_X8_whoIn _ G n s t (12 : Int32) b hb) rfl rfl (Nat.le_of_ble_eq_true rfl) k_904 rfl (fun y_9 hf => ?_)
          have hf := Option.some.inj hf; subst hf
          exact (show RetI F G Q cX8_count 5 .int y_9 (s, t) from hK) rfl _ _ dX8_count_133
        · rcases ite_cut hf with ⟨hc4, hf⟩ | ⟨hc4, hf⟩
          · refine a_tblIn C (tgt := 134) (q := 69) (v := 4) dX8_count_69 hc4 (by decide) (by decide) rfl (by decide) rfl ?_
            refine a_iload_n C (i := 3) (q := 135) dX8_count_134 rfl 3 rfl rfl ?_
            have hf := Option.some.inj hf; subst hf
            exact (show RetI F G Q cX8_count 5 .int v3_8 (s, t) from hK) rfl _ _ dX8_count_135
          · rcases ite_cut hf with ⟨hc5, hf⟩ | ⟨hc5, hf⟩
            · refine a_tblIn C (tgt := 136) (q := 69) (v := 5) dX8_count_69 hc5 (by decide) (by decide) rfl (by decide) rfl ?_
              refine a_aload_n C (i := 0) (q := 137) dX8_count_136 rfl 0 rfl rfl ?_
              refine a_bipush C (v := (13 : Int32)) (q := 139) dX8_count_137 rfl (by decide) ?_
              refine a_callVI C (q := 142) (As := [.int (13 : Int32)]) (st := []) dX8_count_139 hR (by decide) hf (fun b => b) (fun _ => (s, t)) (by decide) rfl rfl cw_X8_whoIn (fun b hb => c_X8_whoIn _ G n s t (13 : Int32) b hb) rfl rfl (Nat.le_of_ble_eq_true rfl) k_904 rfl (fun y_10 hf => ?_)
              have hf := Option.some.inj hf; subst hf
              exact (show RetI F G Q cX8_count 5 .int y_10 (s, t) from hK) rfl _ _ dX8_count_142
            · rcases ite_cut hf with ⟨hc6, hf⟩ | ⟨hc6, hf⟩
              · refine a_tblIn C (tgt := 143) (q := 69) (v := 6) dX8_count_69 hc6 (by decide) (by decide) rfl (by decide) rfl ?_
                refine a_iload_n C (i := 2) (q := 144) dX8_count_143 rfl 2 rfl rfl ?_
                have hf := Option.some.inj hf; subst hf
                exact (show RetI F G Q cX8_count 5 .int v2_3 (s, t) from hK) rfl _ _ dX8_count_144
              · refine a_tblOut C (tgt := 145) (q := 69) dX8_count_69 (tO7 hc0 hc1 hc2 hc3 hc4 hc5 hc6) (by decide) rfl ?_
                refine a_iconst C (v := (-1 : Int32)) (q := 146) dX8_count_145 rfl (by decide) ?_
                have hf := Option.some.inj hf; subst hf
                exact (show RetI F G Q cX8_count 5 .int (-1 : Int32) (s, t) from hK) rfl _ _ dX8_count_146
theorem c_X8_count (l : Launch) (G : GX) (n : Nat) (s : MM) (t : SR) (v1 : Int32) (res : Int32) (hf : f_X8_count n t v1 = some res) : MetC l G yX8_count cX8_count 5 (some .int) 3 (s, t) [.ref (G.2.1 39), .int v1] (PostI G res (s, t)) :=
  m_I (by decide) (Nat.le_of_ble_eq_true rfl) (fun F Q C h1 h2 h3 hK => w_X8_count_e C (Rm.of h1 h3) n s t v1 res hf hK)
theorem cw_X8_type : CwV RX8 yX8_type cX8_type 5 2 (some .int) := ⟨k_961, k_959, k_960, k_9, by decide +kernel, by decide⟩
def P_X8_type_19 (F : FX) (G : GX) (Q : State → Prop) (s : MM) (t : SR) (v1 : Int64) (v3 : Int32) (v4 : Int32) : Prop := At F G Q 5 19 [(0, .ref (G.2.1 39)), (1, .long v1), (3, .int v3), (4, .int v4)] [] (s, t)
def E_X8_type_19 (F : FX) (G : GX) (Q : State → Prop) (s : MM) (t : SR) (v1 : Int64) (v3 : Int32) : (Int32 × SR) ⊕ (Unit) → Prop := fun q => match q with
  | .inl y => RetI F G Q cX8_type 5 .int y.1 (s, y.2)
  | .inr _ => At F G Q 5 55 [(0, .ref (G.2.1 39)), (1, .long v1), (3, .int v3)] [] (s, t)
def lb_X8_type_19 (n : Nat) (t : SR) (v1 : Int64) (v3 : Int32) (v4 : Int32) : Option (((Int32 × SR) ⊕ (Unit)) ⊕ (Int32)) :=
  (if v4 < 0 then some (.inl (.inr ())) else b1 (f_X8_in ((v1 >>> (((8 : Int32) * v4).toInt64 &&& 63)) &&& (255 : Int64)) (32 : Int64) (126 : Int64)) (fun y_3 => (if y_3 = 0 then some (.inl (.inl ((-1 : Int32), t))) else nm (v4 + (-1)) (fun v4_4 => some (.inr v4_4)))))
set_option maxHeartbeats 4000000 in
theorem w_X8_type_19 {F : FX} {G : GX} {Q : State → Prop} (C : Cx F G cX8_type 5 RX8) (hR : Rm F 3) (n : Nat) (s : MM) (t : SR) (v1 : Int64) (v3 : Int32)  (v4 : Int32) (res : ((Int32 × SR) ⊕ (Unit)) ⊕ (Int32)) (hf : lb_X8_type_19 n t v1 v3 v4 = some res) (hK : Sum.elim (E_X8_type_19 F G Q s t v1 v3) (fun q => match q with | v4 => P_X8_type_19 F G Q s t v1 v3 v4) res) : P_X8_type_19 F G Q s t v1 v3 v4 := by
  unfold lb_X8_type_19 at hf
  show At F G Q 5 19 [(0, .ref (G.2.1 39)), (1, .long v1), (3, .int v3), (4, .int v4)] [] (s, t)
  refine a_iload C (i := 4) (q := 21) dX8_type_19 rfl 3 rfl ?_
  refine a_if_lt C (tgt := 55) (q := 24) dX8_type_21 hf (by decide) rfl (fun hf => ?_) (fun hf => ?_)
  · have hf := Option.some.inj hf; subst hf
    exact a_sub [0, 1, 2] rfl (show At F G Q 5 55 [(0, .ref (G.2.1 39)), (1, .long v1), (3, .int v3)] [] (s, t) from hK)
  · refine a_lload_n C (i := 1) (q := 25) dX8_type_24 rfl 1 rfl rfl ?_
    refine a_bipush C (v := (8 : Int32)) (q := 27) dX8_type_25 rfl (by decide) ?_
    refine a_iload C (i := 4) (q := 29) dX8_type_27 rfl 3 rfl ?_
    refine a_imul C (q := 30) dX8_type_29 rfl ?_
    refine a_lshr C (q := 31) dX8_type_30 rfl ?_
    refine a_ldc2 C (v := (255 : Int64)) (q := 34) dX8_type_31 rfl k_963 ?_
    refine a_land C (q := 35) dX8_type_34 rfl ?_
    refine a_ldc2 C (v := (32 : Int64)) (q := 38) dX8_type_35 rfl k_964 ?_
    refine a_ldc2 C (v := (126 : Int64)) (q := 41) dX8_type_38 rfl k_965 ?_
    refine a_callSI C (q := 44) (As := [.long ((v1 >>> (((8 : Int32) * v4).toInt64 &&& 63)) &&& (255 : Int64)), .long (32 : Int64), .long (126 : Int64)]) (st := []) dX8_type_41 hR (by decide) hf (fun b => b) (fun _ => (s, t)) cw_X8_in (fun b hb => c_X8_in _ G s t ((v1 >>> (((8 : Int32) * v4).toInt64 &&& 63)) &&& (255 : Int64)) (32 : Int64) (126 : Int64) b hb) rfl rfl (Nat.le_of_ble_eq_true rfl) k_880 rfl (fun y_3 hf => ?_)
    refine a_if_ne C (tgt := 49) (q := 47) dX8_type_44 hf (by decide) rfl (fun hf => ?_) (fun hf => ?_)
    · refine a_iincN C (i := 4) (k := 3) (q := 52) (lv' := fun z => [(4, .int z), (0, .ref (G.2.1 39)), (1, .long v1), (3, .int v3)]) dX8_type_49 hf rfl rfl (by decide) (fun _ => rfl) rfl (fun v4_4 hf => ?_)
      refine a_goto C (q := 19) dX8_type_52 (by decide) ?_
      have hf := Option.some.inj hf; subst hf
      exact a_sub [1, 2, 3, 0] rfl (show At F G Q 5 19 [(0, .ref (G.2.1 39)), (1, .long v1), (3, .int v3), (4, .int v4_4)] [] (s, t) from hK)
    · refine a_iconst C (v := (-1 : Int32)) (q := 48) dX8_type_47 rfl (by decide) ?_
      have hf := Option.some.inj hf; subst hf
      exact (show RetI F G Q cX8_type 5 .int (-1 : Int32) (s, t) from hK) rfl _ _ dX8_type_48
theorem lp_X8_type_19 {F : FX} {G : GX} {Q : State → Prop} (C : Cx F G cX8_type 5 RX8) (hR : Rm F 3) (n : Nat) (s : MM) (t : SR) (v1 : Int64) (v3 : Int32)  (v4 : Int32) (x : (Int32 × SR) ⊕ (Unit)) (h : it1 (lb_X8_type_19 n t v1 v3) n v4 = some x) (hE : E_X8_type_19 F G Q s t v1 v3 x) : At F G Q 5 19 [(0, .ref (G.2.1 39)), (1, .long v1), (3, .int v3), (4, .int v4)] [] (s, t) :=
  it1_ind (b := (lb_X8_type_19 n t v1 v3)) (E := E_X8_type_19 F G Q s t v1 v3) (P := fun v4 => P_X8_type_19 F G Q s t v1 v3 v4) (fun v4 res hf hK => w_X8_type_19 C hR n s t v1 v3   v4 res hf hK) n v4 x h hE
def P_X8_type_74 (F : FX) (G : GX) (Q : State → Prop) (s : MM) (v1 : Int64) (v4 : Int32) (t : SR) : Prop := At F G Q 5 74 [(0, .ref (G.2.1 39)), (1, .long v1), (4, .int v4)] [] (s, t)
def E_X8_type_74 (F : FX) (G : GX) (Q : State → Prop) (s : MM) (v1 : Int64) : SR → Prop := fun q => match q with
  | t => At F G Q 5 116 [(0, .ref (G.2.1 39))] [] (s, t)
def lb_X8_type_74 (n : Nat) (v1 : Int64) (v4 : Int32) (t : SR) : Option ((SR) ⊕ (Int32 × SR)) :=
  (if v4 < 0 then some (.inl t) else ix (t.1 39 17) 120 (nm (sr1 t 46 ((t.1 39 17).toNatClampNeg) (((v1 >>> (((8 : Int32) * v4).toInt64 &&& 63)) &&& (255 : Int64)).toInt32)) (fun t_6 => nm (sr1 t_6 39 17 ((t_6.1 39 17) + (1 : Int32))) (fun t_7 => nm (v4 + (-1)) (fun v4_8 => some (.inr (v4_8, t_7)))))))
set_option maxHeartbeats 4000000 in
theorem w_X8_type_74 {F : FX} {G : GX} {Q : State → Prop} (C : Cx F G cX8_type 5 RX8) (hR : Rm F 3) (n : Nat) (s : MM) (v1 : Int64)  (v4 : Int32) (t : SR) (res : (SR) ⊕ (Int32 × SR)) (hf : lb_X8_type_74 n v1 v4 t = some res) (hK : Sum.elim (E_X8_type_74 F G Q s v1) (fun q => match q with | (v4, t) => P_X8_type_74 F G Q s v1 v4 t) res) : P_X8_type_74 F G Q s v1 v4 t := by
  unfold lb_X8_type_74 at hf
  show At F G Q 5 74 [(0, .ref (G.2.1 39)), (1, .long v1), (4, .int v4)] [] (s, t)
  refine a_iload C (i := 4) (q := 76) dX8_type_74 rfl 2 rfl ?_
  refine a_if_lt C (tgt := 116) (q := 79) dX8_type_76 hf (by decide) rfl (fun hf => ?_) (fun hf => ?_)
  · have hf := Option.some.inj hf; subst hf
    exact a_sub [0] rfl (show At F G Q 5 116 [(0, .ref (G.2.1 39))] [] (s, t) from hK)
  · refine a_aload_n C (i := 0) (q := 80) dX8_type_79 rfl 0 rfl rfl ?_
    refine a_get8 C (q := 83) dX8_type_80 16 (by decide) k_784 (by decide) rfl rfl rfl ?_
    refine a_aload_n C (i := 0) (q := 84) dX8_type_83 rfl 0 rfl rfl ?_
    refine a_get8 C (q := 87) dX8_type_84 17 (by decide) k_785 (by decide) rfl rfl rfl ?_
    refine a_lload_n C (i := 1) (q := 88) dX8_type_87 rfl 1 rfl rfl ?_
    refine a_bipush C (v := (8 : Int32)) (q := 90) dX8_type_88 rfl (by decide) ?_
    refine a_iload C (i := 4) (q := 92) dX8_type_90 rfl 2 rfl ?_
    refine a_imul C (q := 93) dX8_type_92 rfl ?_
    refine a_lshr C (q := 94) dX8_type_93 rfl ?_
    refine a_ldc2 C (v := (255 : Int64)) (q := 97) dX8_type_94 rfl k_963 ?_
    refine a_land C (q := 98) dX8_type_97 rfl ?_
    refine a_l2i C (q := 99) dX8_type_98 rfl ?_
    refine a_iastN C (q := 100) (mk := (fun z => (s, z))) dX8_type_99 hf (by decide) rfl rfl cellE_R1 rfl (fun t_6 hf => ?_)
    refine a_aload_n C (i := 0) (q := 101) dX8_type_100 rfl 0 rfl rfl ?_
    refine a_dup C (q := 102) dX8_type_101 rfl rfl ?_
    refine a_get8 C (q := 105) dX8_type_102 17 (by decide) k_785 (by decide) rfl rfl rfl ?_
    refine a_iconst C (v := (1 : Int32)) (q := 106) dX8_type_105 rfl (by decide) ?_
    refine a_iadd C (q := 107) dX8_type_106 rfl ?_
    refine a_put8N C (q := 110) (mk := (fun z => (s, z))) dX8_type_107 hf 17 (by decide) k_785 (by decide) rfl rfl cellE_R1 rfl rfl rfl (Nat.le_of_ble_eq_true rfl) rfl (fun t_7 hf => ?_)
    refine a_iincN C (i := 4) (k := 2) (q := 113) (lv' := fun z => [(4, .int z), (0, .ref (G.2.1 39)), (1, .long v1)]) dX8_type_110 hf rfl rfl (by decide) (fun _ => rfl) rfl (fun v4_8 hf => ?_)
    refine a_goto C (q := 74) dX8_type_113 (by decide) ?_
    have hf := Option.some.inj hf; subst hf
    exact a_sub [1, 2, 0] rfl (show At F G Q 5 74 [(0, .ref (G.2.1 39)), (1, .long v1), (4, .int v4_8)] [] (s, t_7) from hK)
theorem lp_X8_type_74 {F : FX} {G : GX} {Q : State → Prop} (C : Cx F G cX8_type 5 RX8) (hR : Rm F 3) (n : Nat) (s : MM) (v1 : Int64)  (v4 : Int32) (t : SR) (x : SR) (h : it2 (lb_X8_type_74 n v1) n v4 t = some x) (hE : E_X8_type_74 F G Q s v1 x) : At F G Q 5 74 [(0, .ref (G.2.1 39)), (1, .long v1), (4, .int v4)] [] (s, t) :=
  it2_ind (b := (lb_X8_type_74 n v1)) (E := E_X8_type_74 F G Q s v1) (P := fun v4 t => P_X8_type_74 F G Q s v1 v4 t) (fun v4 t res hf hK => w_X8_type_74 C hR n s v1   v4 t res hf hK) n v4 t x h hE
def f_X8_type (n : Nat) (t : SR) (v1 : Int64) (v3 : Int32) : Option (Int32 × SR) :=
  b1 (f_X8_in v3.toInt64 (1 : Int64) (8 : Int64)) (fun y_1 => (if y_1 = 0 then some ((-1 : Int32), t) else nm (v3 - (1 : Int32)) (fun v4_2 => bR (it1 (lb_X8_type_19 n t v1 v3) n v4_2) (fun y => some y) (fun _ => (if ((t.1 39 17) + v3) ≤ (120 : Int32) then nm (v3 - (1 : Int32)) (fun v4_5 => b1 (it2 (lb_X8_type_74 n v1) n v4_5 t) (fun t_9 => some (t_9.1 39 17, t_9))) else some ((-3 : Int32), t))))))
set_option maxHeartbeats 4000000 in
theorem w_X8_type_e {F : FX} {G : GX} {Q : State → Prop} (C : Cx F G cX8_type 5 RX8) (hR : Rm F 3) (n : Nat) (s : MM) (t : SR)  (v1 : Int64) (v3 : Int32) (res : Int32 × SR) (hf : f_X8_type n t v1 v3 = some res) (hK : RetI F G Q cX8_type 5 .int res.1 (s, res.2)) : At F G Q 5 0 [(0, .ref (G.2.1 39)), (1, .long v1), (3, .int v3)] [] (s, t) := by
  unfold f_X8_type at hf
  refine a_iload_n C (i := 3) (q := 1) dX8_type_0 rfl 2 rfl rfl ?_
  refine a_i2l C (q := 2) dX8_type_1 rfl ?_
  refine a_lconst C (v := (1 : Int64)) (q := 3) dX8_type_2 rfl (by decide) ?_
  refine a_ldc2 C (v := (8 : Int64)) (q := 6) dX8_type_3 rfl k_962 ?_
  refine a_callSI C (q := 9) (As := [.long v3.toInt64, .long (1 : Int64), .long (8 : Int64)]) (st := []) dX8_type_6 hR (by decide) hf (fun b => b) (fun _ => (s, t)) cw_X8_in (fun b hb => c_X8_in _ G s t v3.toInt64 (1 : Int64) (8 : Int64) b hb) rfl rfl (Nat.le_of_ble_eq_true rfl) k_880 rfl (fun y_1 hf => ?_)
  refine a_if_ne C (tgt := 14) (q := 12) dX8_type_9 hf (by decide) rfl (fun hf => ?_) (fun hf => ?_)
  · refine a_iload_n C (i := 3) (q := 15) dX8_type_14 rfl 2 rfl rfl ?_
    refine a_iconst C (v := (1 : Int32)) (q := 16) dX8_type_15 rfl (by decide) ?_
    refine a_isub C (q := 17) dX8_type_16 rfl ?_
    refine a_istoreN C (i := 4) (q := 19) (lv' := fun z => [(4, .int z), (0, .ref (G.2.1 39)), (1, .long v1), (3, .int v3)]) dX8_type_17 hf (by decide) (fun _ => rfl) rfl (fun v4_2 hf => ?_)
    rcases bR_some hf with ⟨y, h1, hf⟩ | ⟨u0, h1, hf⟩
    · refine a_sub [1, 2, 3, 0] rfl (lp_X8_type_19 C hR n s t v1 v3  v4_2 _ h1 ?_)
      have hf := Option.some.inj hf; subst hf
      exact hK
    · refine a_sub [1, 2, 3, 0] rfl (lp_X8_type_19 C hR n s t v1 v3  v4_2 _ h1 ?_)
      show At F G Q 5 55 [(0, .ref (G.2.1 39)), (1, .long v1), (3, .int v3)] [] (s, t)
      refine a_aload_n C (i := 0) (q := 56) dX8_type_55 rfl 0 rfl rfl ?_
      refine a_get8 C (q := 59) dX8_type_56 17 (by decide) k_785 (by decide) rfl rfl rfl ?_
      refine a_iload_n C (i := 3) (q := 60) dX8_type_59 rfl 2 rfl rfl ?_
      refine a_iadd C (q := 61) dX8_type_60 rfl ?_
      refine a_bipush C (v := (120 : Int32)) (q := 63) dX8_type_61 rfl (by decide) ?_
      refine a_icmp_le C (tgt := 69) (q := 66) dX8_type_63 hf (by decide) rfl (fun hf => ?_) (fun hf => ?_)
      · refine a_iload_n C (i := 3) (q := 70) dX8_type_69 rfl 2 rfl rfl ?_
        refine a_iconst C (v := (1 : Int32)) (q := 71) dX8_type_70 rfl (by decide) ?_
        refine a_isub C (q := 72) dX8_type_71 rfl ?_
        refine a_istoreN C (i := 4) (q := 74) (lv' := fun z => [(4, .int z), (0, .ref (G.2.1 39)), (1, .long v1), (3, .int v3)]) dX8_type_72 hf (by decide) (fun _ => rfl) rfl (fun v4_5 hf => ?_)
        obtain ⟨t_9, h1, hf⟩ := b1_some hf
        refine a_sub [1, 2, 0] rfl (lp_X8_type_74 C hR n s v1  v4_5 t _ h1 ?_)
        show At F G Q 5 116 [(0, .ref (G.2.1 39))] [] (s, t_9)
        refine a_aload_n C (i := 0) (q := 117) dX8_type_116 rfl 0 rfl rfl ?_
        refine a_get8 C (q := 120) dX8_type_117 17 (by decide) k_785 (by decide) rfl rfl rfl ?_
        have hf := Option.some.inj hf; subst hf
        exact (show RetI F G Q cX8_type 5 .int (t_9.1 39 17) (s, t_9) from hK) rfl _ _ dX8_type_120
      · refine a_bipush C (v := (-3 : Int32)) (q := 68) dX8_type_66 rfl (by decide) ?_
        have hf := Option.some.inj hf; subst hf
        exact (show RetI F G Q cX8_type 5 .int (-3 : Int32) (s, t) from hK) rfl _ _ dX8_type_68
  · refine a_iconst C (v := (-1 : Int32)) (q := 13) dX8_type_12 rfl (by decide) ?_
    have hf := Option.some.inj hf; subst hf
    exact (show RetI F G Q cX8_type 5 .int (-1 : Int32) (s, t) from hK) rfl _ _ dX8_type_13
theorem c_X8_type (l : Launch) (G : GX) (n : Nat) (s : MM) (t : SR) (v1 : Int64) (v3 : Int32) (res : Int32 × SR) (hf : f_X8_type n t v1 v3 = some res) : MetC l G yX8_type cX8_type 5 (some .int) 3 (s, t) [.ref (G.2.1 39), .long v1, .int v3] (PostI G res.1 (s, res.2)) :=
  m_I (by decide) (Nat.le_of_ble_eq_true rfl) (fun F Q C h1 h2 h3 hK => w_X8_type_e C (Rm.of h1 h3) n s t v1 v3 res hf hK)
theorem cw_X8_nextByte : CwV RX8 yX8_nextByte cX8_nextByte 1 0 (some .int) := ⟨k_981, k_980, kp_30, k_9, by decide +kernel, by decide⟩
def P_X8_nextByte_0 (F : FX) (G : GX) (Q : State → Prop) (s : MM) (t : SR) : Prop := At F G Q 1 0 [(0, .ref (G.2.1 39))] [] (s, t)
def E_X8_nextByte_0 (F : FX) (G : GX) (Q : State → Prop) (s : MM) : SR → Prop := fun q => match q with
  | t => At F G Q 1 38 [(0, .ref (G.2.1 39))] [] (s, t)
def lb_X8_nextByte_0 (n : Nat) (t : SR) : Option ((SR) ⊕ (SR)) :=
  (if (t.1 39 17) ≤ (t.1 39 18) then some (.inl t) else ix (t.1 39 18) 120 ((if (t.1 46 ((t.1 39 18).toNatClampNeg)) = (32 : Int32) then nm (sr1 t 39 18 ((t.1 39 18) + (1 : Int32))) (fun t_1 => some (.inr t_1)) else some (.inl t))))
set_option maxHeartbeats 4000000 in
theorem w_X8_nextByte_0 {F : FX} {G : GX} {Q : State → Prop} (C : Cx F G cX8_nextByte 1 RX8) (hR : Rm F 2) (n : Nat) (s : MM)  (t : SR) (res : (SR) ⊕ (SR)) (hf : lb_X8_nextByte_0 n t = some res) (hK : Sum.elim (E_X8_nextByte_0 F G Q s) (fun q => match q with | t => P_X8_nextByte_0 F G Q s t) res) : P_X8_nextByte_0 F G Q s t := by
  unfold lb_X8_nextByte_0 at hf
  show At F G Q 1 0 [(0, .ref (G.2.1 39))] [] (s, t)
  refine a_aload_n C (i := 0) (q := 1) dX8_nextByte_0 rfl 0 rfl rfl ?_
  refine a_get8 C (q := 4) dX8_nextByte_1 18 (by decide) k_786 (by decide) rfl rfl rfl ?_
  refine a_aload_n C (i := 0) (q := 5) dX8_nextByte_4 rfl 0 rfl rfl ?_
  refine a_get8 C (q := 8) dX8_nextByte_5 17 (by decide) k_785 (by decide) rfl rfl rfl ?_
  refine a_icmp_ge C (tgt := 38) (q := 11) dX8_nextByte_8 hf (by decide) rfl (fun hf => ?_) (fun hf => ?_)
  · have hf := Option.some.inj hf; subst hf
    exact a_sub [0] rfl (show At F G Q 1 38 [(0, .ref (G.2.1 39))] [] (s, t) from hK)
  · refine a_aload_n C (i := 0) (q := 12) dX8_nextByte_11 rfl 0 rfl rfl ?_
    refine a_get8 C (q := 15) dX8_nextByte_12 16 (by decide) k_784 (by decide) rfl rfl rfl ?_
    refine a_aload_n C (i := 0) (q := 16) dX8_nextByte_15 rfl 0 rfl rfl ?_
    refine a_get8 C (q := 19) dX8_nextByte_16 18 (by decide) k_786 (by decide) rfl rfl rfl ?_
    refine a_iald C (q := 20) (g := t.1 46) dX8_nextByte_19 hf (by decide) rfl rfl (fun hf => ?_)
    refine a_bipush C (v := (32 : Int32)) (q := 22) dX8_nextByte_20 rfl (by decide) ?_
    refine a_icmp_ne C (tgt := 38) (q := 25) dX8_nextByte_22 hf (by decide) rfl (fun hf => ?_) (fun hf => ?_)
    · have hf := Option.some.inj hf; subst hf
      exact a_sub [0] rfl (show At F G Q 1 38 [(0, .ref (G.2.1 39))] [] (s, t) from hK)
    · refine a_aload_n C (i := 0) (q := 26) dX8_nextByte_25 rfl 0 rfl rfl ?_
      refine a_dup C (q := 27) dX8_nextByte_26 rfl rfl ?_
      refine a_get8 C (q := 30) dX8_nextByte_27 18 (by decide) k_786 (by decide) rfl rfl rfl ?_
      refine a_iconst C (v := (1 : Int32)) (q := 31) dX8_nextByte_30 rfl (by decide) ?_
      refine a_iadd C (q := 32) dX8_nextByte_31 rfl ?_
      refine a_put8N C (q := 35) (mk := (fun z => (s, z))) dX8_nextByte_32 hf 18 (by decide) k_786 (by decide) rfl rfl cellE_R1 rfl rfl rfl (Nat.le_of_ble_eq_true rfl) rfl (fun t_1 hf => ?_)
      refine a_goto C (q := 0) dX8_nextByte_35 (by decide) ?_
      have hf := Option.some.inj hf; subst hf
      exact a_sub [0] rfl (show At F G Q 1 0 [(0, .ref (G.2.1 39))] [] (s, t_1) from hK)
theorem lp_X8_nextByte_0 {F : FX} {G : GX} {Q : State → Prop} (C : Cx F G cX8_nextByte 1 RX8) (hR : Rm F 2) (n : Nat) (s : MM)  (t : SR) (x : SR) (h : it1 (lb_X8_nextByte_0 n ) n t = some x) (hE : E_X8_nextByte_0 F G Q s x) : At F G Q 1 0 [(0, .ref (G.2.1 39))] [] (s, t) :=
  it1_ind (b := (lb_X8_nextByte_0 n )) (E := E_X8_nextByte_0 F G Q s) (P := fun t => P_X8_nextByte_0 F G Q s t) (fun t res hf hK => w_X8_nextByte_0 C hR n s   t res hf hK) n t x h hE
def f_X8_nextByte_38 (n : Nat) (t : SR) : Option (Int32 × SR) :=
  (if (t.1 39 17) ≤ (t.1 39 18) then some ((-1 : Int32), t) else ix (t.1 39 18) 120 (some (t.1 46 ((t.1 39 18).toNatClampNeg), t)))
set_option maxHeartbeats 4000000 in
theorem w_X8_nextByte_38 {F : FX} {G : GX} {Q : State → Prop} (C : Cx F G cX8_nextByte 1 RX8) (hR : Rm F 2) (n : Nat) (s : MM) (t : SR)   (res : Int32 × SR) (hf : f_X8_nextByte_38 n t = some res) (hK : RetI F G Q cX8_nextByte 1 .int res.1 (s, res.2)) : At F G Q 1 38 [(0, .ref (G.2.1 39))] [] (s, t) := by
  unfold f_X8_nextByte_38 at hf
  refine a_aload_n C (i := 0) (q := 39) dX8_nextByte_38 rfl 0 rfl rfl ?_
  refine a_get8 C (q := 42) dX8_nextByte_39 18 (by decide) k_786 (by decide) rfl rfl rfl ?_
  refine a_aload_n C (i := 0) (q := 43) dX8_nextByte_42 rfl 0 rfl rfl ?_
  refine a_get8 C (q := 46) dX8_nextByte_43 17 (by decide) k_785 (by decide) rfl rfl rfl ?_
  refine a_icmp_ge C (tgt := 61) (q := 49) dX8_nextByte_46 hf (by decide) rfl (fun hf => ?_) (fun hf => ?_)
  · refine a_iconst C (v := (-1 : Int32)) (q := 62) dX8_nextByte_61 rfl (by decide) ?_
    have hf := Option.some.inj hf; subst hf
    exact (show RetI F G Q cX8_nextByte 1 .int (-1 : Int32) (s, t) from hK) rfl _ _ dX8_nextByte_62
  · refine a_aload_n C (i := 0) (q := 50) dX8_nextByte_49 rfl 0 rfl rfl ?_
    refine a_get8 C (q := 53) dX8_nextByte_50 16 (by decide) k_784 (by decide) rfl rfl rfl ?_
    refine a_aload_n C (i := 0) (q := 54) dX8_nextByte_53 rfl 0 rfl rfl ?_
    refine a_get8 C (q := 57) dX8_nextByte_54 18 (by decide) k_786 (by decide) rfl rfl rfl ?_
    refine a_iald C (q := 58) (g := t.1 46) dX8_nextByte_57 hf (by decide) rfl rfl (fun hf => ?_)
    refine a_goto C (q := 62) dX8_nextByte_58 (by decide) ?_
    have hf := Option.some.inj hf; subst hf
    exact (show RetI F G Q cX8_nextByte 1 .int (t.1 46 ((t.1 39 18).toNatClampNeg)) (s, t) from hK) rfl _ _ dX8_nextByte_62
def f_X8_nextByte (n : Nat) (t : SR) : Option (Int32 × SR) :=
  b1 (it1 (lb_X8_nextByte_0 n ) n t) (fun t_2 => f_X8_nextByte_38 n t_2)
set_option maxHeartbeats 4000000 in
theorem w_X8_nextByte_e {F : FX} {G : GX} {Q : State → Prop} (C : Cx F G cX8_nextByte 1 RX8) (hR : Rm F 2) (n : Nat) (s : MM) (t : SR)   (res : Int32 × SR) (hf : f_X8_nextByte n t = some res) (hK : RetI F G Q cX8_nextByte 1 .int res.1 (s, res.2)) : At F G Q 1 0 [(0, .ref (G.2.1 39))] [] (s, t) := by
  unfold f_X8_nextByte at hf
  obtain ⟨t_2, h1, hf⟩ := b1_some hf
  refine a_sub [0] rfl (lp_X8_nextByte_0 C hR n s  t _ h1 ?_)
  show At F G Q 1 38 [(0, .ref (G.2.1 39))] [] (s, t_2)
  exact a_sub [0] rfl (w_X8_nextByte_38 C hR n s t_2 res hf hK)
theorem c_X8_nextByte (l : Launch) (G : GX) (n : Nat) (s : MM) (t : SR)  (res : Int32 × SR) (hf : f_X8_nextByte n t = some res) : MetC l G yX8_nextByte cX8_nextByte 1 (some .int) 2 (s, t) [.ref (G.2.1 39)] (PostI G res.1 (s, res.2)) :=
  m_I (by decide) (Nat.le_of_ble_eq_true rfl) (fun F Q C h1 h2 h3 hK => w_X8_nextByte_e C (Rm.of h1 h3) n s t res hf hK)
theorem cw_X8_readNumber : CwV RX8 yX8_readNumber cX8_readNumber 5 2 (some .int) := ⟨k_985, k_984, kp_31, k_9, by decide +kernel, by decide⟩
def P_X8_readNumber_13 (F : FX) (G : GX) (Q : State → Prop) (s : MM) (v1 : Int32) (v2 : Int32) (v3 : Int32) (v4 : Int32) (t : SR) : Prop := At F G Q 5 13 [(0, .ref (G.2.1 39)), (1, .int v1), (2, .int v2), (3, .int v3), (4, .int v4)] [] (s, t)
def E_X8_readNumber_13 (F : FX) (G : GX) (Q : State → Prop) (s : MM) (v1 : Int32) (v2 : Int32) (v3 : Int32) : Int32 × SR → Prop := fun q => match q with
  | (v4, t) => At F G Q 5 92 [(0, .ref (G.2.1 39)), (1, .int v1), (2, .int v2), (3, .int v3), (4, .int v4)] [] (s, t)
def lb_X8_readNumber_13 (n : Nat) (v1 : Int32) (v2 : Int32) (v3 : Int32) (v4 : Int32) (t : SR) : Option ((Int32 × SR) ⊕ (Int32 × SR)) :=
  (if (t.1 39 17) ≤ (t.1 39 18) then some (.inl (v4, t)) else ix (t.1 39 18) 120 (b1 (f_X8_in ((t.1 46 ((t.1 39 18).toNatClampNeg)).toInt64) (48 : Int64) (57 : Int64)) (fun y_3 => (if y_3 = 0 then some (.inl (v4, t)) else (if v4 ≤ (999 : Int32) then ix (t.1 39 18) 120 (nm ((((10 : Int32) * v4) + (t.1 46 ((t.1 39 18).toNatClampNeg))) - (48 : Int32)) (fun v4_4 => nm (sr1 t 39 18 ((t.1 39 18) + (1 : Int32))) (fun t_5 => some (.inr (v4_4, t_5))))) else nm (sr1 t 39 18 ((t.1 39 18) + (1 : Int32))) (fun t_6 => some (.inr (v4, t_6))))))))
set_option maxHeartbeats 4000000 in
theorem w_X8_readNumber_13 {F : FX} {G : GX} {Q : State → Prop} (C : Cx F G cX8_readNumber 5 RX8) (hR : Rm F 3) (n : Nat) (s : MM) (v1 : Int32) (v2 : Int32) (v3 : Int32)  (v4 : Int32) (t : SR) (res : (Int32 × SR) ⊕ (Int32 × SR)) (hf : lb_X8_readNumber_13 n v1 v2 v3 v4 t = some res) (hK : Sum.elim (E_X8_readNumber_13 F G Q s v1 v2 v3) (fun q => match q with | (v4, t) => P_X8_readNumber_13 F G Q s v1 v2 v3 v4 t) res) : P_X8_readNumber_13 F G Q s v1 v2 v3 v4 t := by
  unfold lb_X8_readNumber_13 at hf
  show At F G Q 5 13 [(0, .ref (G.2.1 39)), (1, .int v1), (2, .int v2), (3, .int v3), (4, .int v4)] [] (s, t)
  refine a_aload_n C (i := 0) (q := 14) dX8_readNumber_13 rfl 0 rfl rfl ?_
  refine a_get8 C (q := 17) dX8_readNumber_14 18 (by decide) k_786 (by decide) rfl rfl rfl ?_
  refine a_aload_n C (i := 0) (q := 18) dX8_readNumber_17 rfl 0 rfl rfl ?_
  refine a_get8 C (q := 21) dX8_readNumber_18 17 (by decide) k_785 (by decide) rfl rfl rfl ?_
  refine a_icmp_ge C (tgt := 92) (q := 24) dX8_readNumber_21 hf (by decide) rfl (fun hf => ?_) (fun hf => ?_)
  · have hf := Option.some.inj hf; subst hf
    exact a_sub [0, 1, 2, 3, 4] rfl (show At F G Q 5 92 [(0, .ref (G.2.1 39)), (1, .int v1), (2, .int v2), (3, .int v3), (4, .int v4)] [] (s, t) from hK)
  · refine a_aload_n C (i := 0) (q := 25) dX8_readNumber_24 rfl 0 rfl rfl ?_
    refine a_get8 C (q := 28) dX8_readNumber_25 16 (by decide) k_784 (by decide) rfl rfl rfl ?_
    refine a_aload_n C (i := 0) (q := 29) dX8_readNumber_28 rfl 0 rfl rfl ?_
    refine a_get8 C (q := 32) dX8_readNumber_29 18 (by decide) k_786 (by decide) rfl rfl rfl ?_
    refine a_iald C (q := 33) (g := t.1 46) dX8_readNumber_32 hf (by decide) rfl rfl (fun hf => ?_)
    refine a_i2l C (q := 34) dX8_readNumber_33 rfl ?_
    refine a_ldc2 C (v := (48 : Int64)) (q := 37) dX8_readNumber_34 rfl k_986 ?_
    refine a_ldc2 C (v := (57 : Int64)) (q := 40) dX8_readNumber_37 rfl k_987 ?_
    refine a_callSI C (q := 43) (As := [.long ((t.1 46 ((t.1 39 18).toNatClampNeg)).toInt64), .long (48 : Int64), .long (57 : Int64)]) (st := []) dX8_readNumber_40 hR (by decide) hf (fun b => b) (fun _ => (s, t)) cw_X8_in (fun b hb => c_X8_in _ G s t ((t.1 46 ((t.1 39 18).toNatClampNeg)).toInt64) (48 : Int64) (57 : Int64) b hb) rfl rfl (Nat.le_of_ble_eq_true rfl) k_880 rfl (fun y_3 hf => ?_)
    refine a_if_eq C (tgt := 92) (q := 46) dX8_readNumber_43 hf (by decide) rfl (fun hf => ?_) (fun hf => ?_)
    · have hf := Option.some.inj hf; subst hf
      exact a_sub [0, 1, 2, 3, 4] rfl (show At F G Q 5 92 [(0, .ref (G.2.1 39)), (1, .int v1), (2, .int v2), (3, .int v3), (4, .int v4)] [] (s, t) from hK)
    · refine a_iload C (i := 4) (q := 48) dX8_readNumber_46 rfl 4 rfl ?_
      refine a_sipush C (v := (999 : Int32)) (q := 51) dX8_readNumber_48 rfl (by decide) ?_
      refine a_icmp_le C (tgt := 59) (q := 54) dX8_readNumber_51 hf (by decide) rfl (fun hf => ?_) (fun hf => ?_)
      · refine a_bipush C (v := (10 : Int32)) (q := 61) dX8_readNumber_59 rfl (by decide) ?_
        refine a_iload C (i := 4) (q := 63) dX8_readNumber_61 rfl 4 rfl ?_
        refine a_imul C (q := 64) dX8_readNumber_63 rfl ?_
        refine a_aload_n C (i := 0) (q := 65) dX8_readNumber_64 rfl 0 rfl rfl ?_
        refine a_get8 C (q := 68) dX8_readNumber_65 16 (by decide) k_784 (by decide) rfl rfl rfl ?_
        refine a_aload_n C (i := 0) (q := 69) dX8_readNumber_68 rfl 0 rfl rfl ?_
        refine a_get8 C (q := 72) dX8_readNumber_69 18 (by decide) k_786 (by decide) rfl rfl rfl ?_
        refine a_iald C (q := 73) (g := t.1 46) dX8_readNumber_72 hf (by decide) rfl rfl (fun hf => ?_)
        refine a_iadd C (q := 74) dX8_readNumber_73 rfl ?_
        refine a_bipush C (v := (48 : Int32)) (q := 76) dX8_readNumber_74 rfl (by decide) ?_
        refine a_isub C (q := 77) dX8_readNumber_76 rfl ?_
        refine a_istoreN C (i := 4) (q := 79) (lv' := fun z => [(4, .int z), (0, .ref (G.2.1 39)), (1, .int v1), (2, .int v2), (3, .int v3)]) dX8_readNumber_77 hf (by decide) (fun _ => rfl) rfl (fun v4_4 hf => ?_)
        refine a_aload_n C (i := 0) (q := 80) dX8_readNumber_79 rfl 1 rfl rfl ?_
        refine a_dup C (q := 81) dX8_readNumber_80 rfl rfl ?_
        refine a_get8 C (q := 84) dX8_readNumber_81 18 (by decide) k_786 (by decide) rfl rfl rfl ?_
        refine a_iconst C (v := (1 : Int32)) (q := 85) dX8_readNumber_84 rfl (by decide) ?_
        refine a_iadd C (q := 86) dX8_readNumber_85 rfl ?_
        refine a_put8N C (q := 89) (mk := (fun z => (s, z))) dX8_readNumber_86 hf 18 (by decide) k_786 (by decide) rfl rfl cellE_R1 rfl rfl rfl (Nat.le_of_ble_eq_true rfl) rfl (fun t_5 hf => ?_)
        refine a_goto C (q := 13) dX8_readNumber_89 (by decide) ?_
        have hf := Option.some.inj hf; subst hf
        exact a_sub [1, 2, 3, 4, 0] rfl (show At F G Q 5 13 [(0, .ref (G.2.1 39)), (1, .int v1), (2, .int v2), (3, .int v3), (4, .int v4_4)] [] (s, t_5) from hK)
      · refine a_iload C (i := 4) (q := 56) dX8_readNumber_54 rfl 4 rfl ?_
        refine a_goto C (q := 77) dX8_readNumber_56 (by decide) ?_
        refine a_istore C (i := 4) (q := 79) (lv' := [(4, .int v4), (0, .ref (G.2.1 39)), (1, .int v1), (2, .int v2), (3, .int v3)]) dX8_readNumber_77 (by decide) rfl rfl ?_
        refine a_aload_n C (i := 0) (q := 80) dX8_readNumber_79 rfl 1 rfl rfl ?_
        refine a_dup C (q := 81) dX8_readNumber_80 rfl rfl ?_
        refine a_get8 C (q := 84) dX8_readNumber_81 18 (by decide) k_786 (by decide) rfl rfl rfl ?_
        refine a_iconst C (v := (1 : Int32)) (q := 85) dX8_readNumber_84 rfl (by decide) ?_
        refine a_iadd C (q := 86) dX8_readNumber_85 rfl ?_
        refine a_put8N C (q := 89) (mk := (fun z => (s, z))) dX8_readNumber_86 hf 18 (by decide) k_786 (by decide) rfl rfl cellE_R1 rfl rfl rfl (Nat.le_of_ble_eq_true rfl) rfl (fun t_6 hf => ?_)
        refine a_goto C (q := 13) dX8_readNumber_89 (by decide) ?_
        have hf := Option.some.inj hf; subst hf
        exact a_sub [1, 2, 3, 4, 0] rfl (show At F G Q 5 13 [(0, .ref (G.2.1 39)), (1, .int v1), (2, .int v2), (3, .int v3), (4, .int v4)] [] (s, t_6) from hK)
theorem lp_X8_readNumber_13 {F : FX} {G : GX} {Q : State → Prop} (C : Cx F G cX8_readNumber 5 RX8) (hR : Rm F 3) (n : Nat) (s : MM) (v1 : Int32) (v2 : Int32) (v3 : Int32)  (v4 : Int32) (t : SR) (x : Int32 × SR) (h : it2 (lb_X8_readNumber_13 n v1 v2 v3) n v4 t = some x) (hE : E_X8_readNumber_13 F G Q s v1 v2 v3 x) : At F G Q 5 13 [(0, .ref (G.2.1 39)), (1, .int v1), (2, .int v2), (3, .int v3), (4, .int v4)] [] (s, t) :=
  it2_ind (b := (lb_X8_readNumber_13 n v1 v2 v3)) (E := E_X8_readNumber_13 F G Q s v1 v2 v3) (P := fun v4 t => P_X8_readNumber_13 F G Q s v1 v2 v3 v4 t) (fun v4 t res hf hK => w_X8_readNumber_13 C hR n s v1 v2 v3   v4 t res hf hK) n v4 t x h hE
def f_X8_readNumber_92 (n : Nat) (t : SR) (v1 : Int32) (v2 : Int32) (v3 : Int32) (v4 : Int32) : Option (Int32 × SR) :=
  (if (t.1 39 18) = v3 then some ((-1 : Int32), t) else b1 (f_X8_in v4.toInt64 v1.toInt64 v2.toInt64) (fun y_9 => (if y_9 = 0 then nm (sr1 t 39 18 v3) (fun t_10 => some ((-1 : Int32), t_10)) else some (v4, t))))
set_option maxHeartbeats 4000000 in
theorem w_X8_readNumber_92 {F : FX} {G : GX} {Q : State → Prop} (C : Cx F G cX8_readNumber 5 RX8) (hR : Rm F 3) (n : Nat) (s : MM) (t : SR)  (v1 : Int32) (v2 : Int32) (v3 : Int32) (v4 : Int32) (res : Int32 × SR) (hf : f_X8_readNumber_92 n t v1 v2 v3 v4 = some res) (hK : RetI F G Q cX8_readNumber 5 .int res.1 (s, res.2)) : At F G Q 5 92 [(0, .ref (G.2.1 39)), (1, .int v1), (2, .int v2), (3, .int v3), (4, .int v4)] [] (s, t) := by
  unfold f_X8_readNumber_92 at hf
  refine a_aload_n C (i := 0) (q := 93) dX8_readNumber_92 rfl 0 rfl rfl ?_
  refine a_get8 C (q := 96) dX8_readNumber_93 18 (by decide) k_786 (by decide) rfl rfl rfl ?_
  refine a_iload_n C (i := 3) (q := 97) dX8_readNumber_96 rfl 3 rfl rfl ?_
  refine a_icmp_ne C (tgt := 102) (q := 100) dX8_readNumber_97 hf (by decide) rfl (fun hf => ?_) (fun hf => ?_)
  · refine a_iload C (i := 4) (q := 104) dX8_readNumber_102 rfl 4 rfl ?_
    refine a_i2l C (q := 105) dX8_readNumber_104 rfl ?_
    refine a_iload_n C (i := 1) (q := 106) dX8_readNumber_105 rfl 1 rfl rfl ?_
    refine a_i2l C (q := 107) dX8_readNumber_106 rfl ?_
    refine a_iload_n C (i := 2) (q := 108) dX8_readNumber_107 rfl 2 rfl rfl ?_
    refine a_i2l C (q := 109) dX8_readNumber_108 rfl ?_
    refine a_callSI C (q := 112) (As := [.long v4.toInt64, .long v1.toInt64, .long v2.toInt64]) (st := []) dX8_readNumber_109 hR (by decide) hf (fun b => b) (fun _ => (s, t)) cw_X8_in (fun b hb => c_X8_in _ G s t v4.toInt64 v1.toInt64 v2.toInt64 b hb) rfl rfl (Nat.le_of_ble_eq_true rfl) k_880 rfl (fun y_9 hf => ?_)
    refine a_if_ne C (tgt := 122) (q := 115) dX8_readNumber_112 hf (by decide) rfl (fun hf => ?_) (fun hf => ?_)
    · refine a_iload C (i := 4) (q := 124) dX8_readNumber_122 rfl 4 rfl ?_
      have hf := Option.some.inj hf; subst hf
      exact (show RetI F G Q cX8_readNumber 5 .int v4 (s, t) from hK) rfl _ _ dX8_readNumber_124
    · refine a_aload_n C (i := 0) (q := 116) dX8_readNumber_115 rfl 0 rfl rfl ?_
      refine a_iload_n C (i := 3) (q := 117) dX8_readNumber_116 rfl 3 rfl rfl ?_
      refine a_put8N C (q := 120) (mk := (fun z => (s, z))) dX8_readNumber_117 hf 18 (by decide) k_786 (by decide) rfl rfl cellE_R1 rfl rfl rfl (Nat.le_of_ble_eq_true rfl) rfl (fun t_10 hf => ?_)
      refine a_iconst C (v := (-1 : Int32)) (q := 121) dX8_readNumber_120 rfl (by decide) ?_
      have hf := Option.some.inj hf; subst hf
      exact (show RetI F G Q cX8_readNumber 5 .int (-1 : Int32) (s, t_10) from hK) rfl _ _ dX8_readNumber_121
  · refine a_iconst C (v := (-1 : Int32)) (q := 101) dX8_readNumber_100 rfl (by decide) ?_
    have hf := Option.some.inj hf; subst hf
    exact (show RetI F G Q cX8_readNumber 5 .int (-1 : Int32) (s, t) from hK) rfl _ _ dX8_readNumber_101
def f_X8_readNumber (n : Nat) (t : SR) (v1 : Int32) (v2 : Int32) : Option (Int32 × SR) :=
  b1 (f_X8_nextByte n t) (fun y_1 => nm (y_1.2.1 39 18) (fun v3_2 => b2 (it2 (lb_X8_readNumber_13 n v1 v2 v3_2) n (0 : Int32) y_1.2) (fun v4_7 t_8 => f_X8_readNumber_92 n t_8 v1 v2 v3_2 v4_7)))
set_option maxHeartbeats 4000000 in
theorem w_X8_readNumber_e {F : FX} {G : GX} {Q : State → Prop} (C : Cx F G cX8_readNumber 5 RX8) (hR : Rm F 3) (n : Nat) (s : MM) (t : SR)  (v1 : Int32) (v2 : Int32) (res : Int32 × SR) (hf : f_X8_readNumber n t v1 v2 = some res) (hK : RetI F G Q cX8_readNumber 5 .int res.1 (s, res.2)) : At F G Q 5 0 [(0, .ref (G.2.1 39)), (1, .int v1), (2, .int v2)] [] (s, t) := by
  unfold f_X8_readNumber at hf
  refine a_aload_n C (i := 0) (q := 1) dX8_readNumber_0 rfl 0 rfl rfl ?_
  refine a_callVI C (q := 4) (As := []) (st := []) dX8_readNumber_1 hR (by decide) hf (fun b => b.1) (fun b => (s, b.2)) (by decide) rfl rfl cw_X8_nextByte (fun b hb => c_X8_nextByte _ G n s t b hb) rfl rfl (Nat.le_of_ble_eq_true rfl) k_978 rfl (fun y_1 hf => ?_)
  refine a_pop C (q := 5) dX8_readNumber_4 rfl rfl ?_
  refine a_aload_n C (i := 0) (q := 6) dX8_readNumber_5 rfl 0 rfl rfl ?_
  refine a_get8 C (q := 9) dX8_readNumber_6 18 (by decide) k_786 (by decide) rfl rfl rfl ?_
  refine a_istore_nN C (i := 3) (q := 10) (lv' := fun z => [(3, .int z), (0, .ref (G.2.1 39)), (1, .int v1), (2, .int v2)]) dX8_readNumber_9 hf rfl (by decide) (fun _ => rfl) rfl (fun v3_2 hf => ?_)
  refine a_iconst C (v := (0 : Int32)) (q := 11) dX8_readNumber_10 rfl (by decide) ?_
  refine a_istore C (i := 4) (q := 13) (lv' := [(4, .int (0 : Int32)), (3, .int v3_2), (0, .ref (G.2.1 39)), (1, .int v1), (2, .int v2)]) dX8_readNumber_11 (by decide) rfl rfl ?_
  obtain ⟨v4_7, t_8, h1, hf⟩ := b2_some hf
  refine a_sub [2, 3, 4, 1, 0] rfl (lp_X8_readNumber_13 C hR n s v1 v2 v3_2  (0 : Int32) y_1.2 _ h1 ?_)
  show At F G Q 5 92 [(0, .ref (G.2.1 39)), (1, .int v1), (2, .int v2), (3, .int v3_2), (4, .int v4_7)] [] (s, t_8)
  exact a_sub [0, 1, 2, 3, 4] rfl (w_X8_readNumber_92 C hR n s t_8 v1 v2 v3_2 v4_7 res hf hK)
theorem c_X8_readNumber (l : Launch) (G : GX) (n : Nat) (s : MM) (t : SR) (v1 : Int32) (v2 : Int32) (res : Int32 × SR) (hf : f_X8_readNumber n t v1 v2 = some res) : MetC l G yX8_readNumber cX8_readNumber 5 (some .int) 3 (s, t) [.ref (G.2.1 39), .int v1, .int v2] (PostI G res.1 (s, res.2)) :=
  m_I (by decide) (Nat.le_of_ble_eq_true rfl) (fun F Q C h1 h2 h3 hK => w_X8_readNumber_e C (Rm.of h1 h3) n s t v1 v2 res hf hK)
theorem cw_X8_readOne : CwV RX8 yX8_readOne cX8_readOne 3 1 (some .boolean) := ⟨k_977, k_976, kp_29, k_9, by decide +kernel, by decide⟩
def f_X8_readOne_51 (n : Nat) (t : SR) (v1 : Int32) (w0 : Int32) (w1 : Int32) : Option (Int32 × SR) :=
  ix w1 240 (nm (sr1 t 47 w1.toNatClampNeg w0) (fun t_2 => ix v1 240 ((if 0 ≤ (t_2.1 47 v1.toNatClampNeg) then nm (sr1 t_2 39 18 ((t_2.1 39 18) + (1 : Int32))) (fun t_3 => b1 (f_X8_readNumber n t_3 (1 : Int32) (99 : Int32)) (fun y_4 => ix (v1 + (1 : Int32)) 240 (nm (sr1 y_4.2 47 ((v1 + (1 : Int32)).toNatClampNeg) y_4.1) (fun t_5 => ix (v1 + (1 : Int32)) 240 ((if (t_5.1 47 ((v1 + (1 : Int32)).toNatClampNeg)) ≤ 0 then some ((0 : Int32), t_5) else some ((1 : Int32), t_5))))))) else some ((0 : Int32), t_2)))))
set_option maxHeartbeats 4000000 in
theorem w_X8_readOne_51 {F : FX} {G : GX} {Q : State → Prop} (C : Cx F G cX8_readOne 3 RX8) (hR : Rm F 4) (n : Nat) (s : MM) (t : SR)  (v1 : Int32) (w0 : Int32) (w1 : Int32) (res : Int32 × SR) (hf : f_X8_readOne_51 n t v1 w0 w1 = some res) (hK : RetI F G Q cX8_readOne 3 .boolean res.1 (s, res.2)) : At F G Q 3 51 [(0, .ref (G.2.1 39)), (1, .int v1)] [.int w0, .int w1, .ref (G.2.1 47)] (s, t) := by
  unfold f_X8_readOne_51 at hf
  refine a_iastN C (q := 52) (mk := (fun z => (s, z))) dX8_readOne_51 hf (by decide) rfl rfl cellE_R1 rfl (fun t_2 hf => ?_)
  refine a_aload_n C (i := 0) (q := 53) dX8_readOne_52 rfl 0 rfl rfl ?_
  refine a_get8 C (q := 56) dX8_readOne_53 20 (by decide) k_788 (by decide) rfl rfl rfl ?_
  refine a_iload_n C (i := 1) (q := 57) dX8_readOne_56 rfl 1 rfl rfl ?_
  refine a_iald C (q := 58) (g := t_2.1 47) dX8_readOne_57 hf (by decide) rfl rfl (fun hf => ?_)
  refine a_if_ge C (tgt := 63) (q := 61) dX8_readOne_58 hf (by decide) rfl (fun hf => ?_) (fun hf => ?_)
  · refine a_aload_n C (i := 0) (q := 64) dX8_readOne_63 rfl 0 rfl rfl ?_
    refine a_dup C (q := 65) dX8_readOne_64 rfl rfl ?_
    refine a_get8 C (q := 68) dX8_readOne_65 18 (by decide) k_786 (by decide) rfl rfl rfl ?_
    refine a_iconst C (v := (1 : Int32)) (q := 69) dX8_readOne_68 rfl (by decide) ?_
    refine a_iadd C (q := 70) dX8_readOne_69 rfl ?_
    refine a_put8N C (q := 73) (mk := (fun z => (s, z))) dX8_readOne_70 hf 18 (by decide) k_786 (by decide) rfl rfl cellE_R1 rfl rfl rfl (Nat.le_of_ble_eq_true rfl) rfl (fun t_3 hf => ?_)
    refine a_aload_n C (i := 0) (q := 74) dX8_readOne_73 rfl 0 rfl rfl ?_
    refine a_get8 C (q := 77) dX8_readOne_74 20 (by decide) k_788 (by decide) rfl rfl rfl ?_
    refine a_iload_n C (i := 1) (q := 78) dX8_readOne_77 rfl 1 rfl rfl ?_
    refine a_iconst C (v := (1 : Int32)) (q := 79) dX8_readOne_78 rfl (by decide) ?_
    refine a_iadd C (q := 80) dX8_readOne_79 rfl ?_
    refine a_aload_n C (i := 0) (q := 81) dX8_readOne_80 rfl 0 rfl rfl ?_
    refine a_iconst C (v := (1 : Int32)) (q := 82) dX8_readOne_81 rfl (by decide) ?_
    refine a_bipush C (v := (99 : Int32)) (q := 84) dX8_readOne_82 rfl (by decide) ?_
    refine a_callVI C (q := 87) (As := [.int (1 : Int32), .int (99 : Int32)]) (st := [.int (v1 + (1 : Int32)), .ref (G.2.1 47)]) dX8_readOne_84 hR (by decide) hf (fun b => b.1) (fun b => (s, b.2)) (by decide) rfl rfl cw_X8_readNumber (fun b hb => c_X8_readNumber _ G n s t_3 (1 : Int32) (99 : Int32) b hb) rfl rfl (Nat.le_of_ble_eq_true rfl) k_982 rfl (fun y_4 hf => ?_)
    refine a_iastN C (q := 88) (mk := (fun z => (s, z))) dX8_readOne_87 hf (by decide) rfl rfl cellE_R1 rfl (fun t_5 hf => ?_)
    refine a_aload_n C (i := 0) (q := 89) dX8_readOne_88 rfl 0 rfl rfl ?_
    refine a_get8 C (q := 92) dX8_readOne_89 20 (by decide) k_788 (by decide) rfl rfl rfl ?_
    refine a_iload_n C (i := 1) (q := 93) dX8_readOne_92 rfl 1 rfl rfl ?_
    refine a_iconst C (v := (1 : Int32)) (q := 94) dX8_readOne_93 rfl (by decide) ?_
    refine a_iadd C (q := 95) dX8_readOne_94 rfl ?_
    refine a_iald C (q := 96) (g := t_5.1 47) dX8_readOne_95 hf (by decide) rfl rfl (fun hf => ?_)
    refine a_if_le C (tgt := 103) (q := 99) dX8_readOne_96 hf (by decide) rfl (fun hf => ?_) (fun hf => ?_)
    · refine a_iconst C (v := (0 : Int32)) (q := 104) dX8_readOne_103 rfl (by decide) ?_
      have hf := Option.some.inj hf; subst hf
      exact (show RetI F G Q cX8_readOne 3 .boolean (0 : Int32) (s, t_5) from hK) rfl _ _ dX8_readOne_104
    · refine a_iconst C (v := (1 : Int32)) (q := 100) dX8_readOne_99 rfl (by decide) ?_
      refine a_goto C (q := 104) dX8_readOne_100 (by decide) ?_
      have hf := Option.some.inj hf; subst hf
      exact (show RetI F G Q cX8_readOne 3 .boolean (1 : Int32) (s, t_5) from hK) rfl _ _ dX8_readOne_104
  · refine a_iconst C (v := (0 : Int32)) (q := 62) dX8_readOne_61 rfl (by decide) ?_
    have hf := Option.some.inj hf; subst hf
    exact (show RetI F G Q cX8_readOne 3 .boolean (0 : Int32) (s, t_2) from hK) rfl _ _ dX8_readOne_62
def f_X8_readOne (n : Nat) (t : SR) (v1 : Int32) : Option (Int32 × SR) :=
  b1 (f_X8_nextByte n t) (fun y_1 => (if y_1.1 = (103 : Int32) then f_X8_readOne_51 n y_1.2 v1 (0 : Int32) v1 else (if y_1.1 = (99 : Int32) then f_X8_readOne_51 n y_1.2 v1 (1 : Int32) v1 else (if y_1.1 = (115 : Int32) then f_X8_readOne_51 n y_1.2 v1 (2 : Int32) v1 else (if y_1.1 = (98 : Int32) then f_X8_readOne_51 n y_1.2 v1 (3 : Int32) v1 else f_X8_readOne_51 n y_1.2 v1 (-1 : Int32) v1)))))
set_option maxHeartbeats 4000000 in
theorem w_X8_readOne_e {F : FX} {G : GX} {Q : State → Prop} (C : Cx F G cX8_readOne 3 RX8) (hR : Rm F 4) (n : Nat) (s : MM) (t : SR)  (v1 : Int32) (res : Int32 × SR) (hf : f_X8_readOne n t v1 = some res) (hK : RetI F G Q cX8_readOne 3 .boolean res.1 (s, res.2)) : At F G Q 3 0 [(0, .ref (G.2.1 39)), (1, .int v1)] [] (s, t) := by
  unfold f_X8_readOne at hf
  refine a_aload_n C (i := 0) (q := 1) dX8_readOne_0 rfl 0 rfl rfl ?_
  refine a_callVI C (q := 4) (As := []) (st := []) dX8_readOne_1 hR (by decide) hf (fun b => b.1) (fun b => (s, b.2)) (by decide) rfl rfl cw_X8_nextByte (fun b hb => c_X8_nextByte _ G n s t b hb) rfl rfl (Nat.le_of_ble_eq_true rfl) k_978 rfl (fun y_1 hf => ?_)
  refine a_istore_n C (i := 2) (q := 5) (lv' := [(2, .int y_1.1), (0, .ref (G.2.1 39)), (1, .int v1)]) dX8_readOne_4 rfl (by decide) rfl rfl ?_
  refine a_aload_n C (i := 0) (q := 6) dX8_readOne_5 rfl 1 rfl rfl ?_
  refine a_get8 C (q := 9) dX8_readOne_6 20 (by decide) k_788 (by decide) rfl rfl rfl ?_
  refine a_iload_n C (i := 1) (q := 10) dX8_readOne_9 rfl 2 rfl rfl ?_
  refine a_iload_n C (i := 2) (q := 11) dX8_readOne_10 rfl 0 rfl rfl ?_
  refine a_bipush C (v := (103 : Int32)) (q := 13) dX8_readOne_11 rfl (by decide) ?_
  refine a_icmp_ne C (tgt := 20) (q := 16) dX8_readOne_13 hf (by decide) rfl (fun hf => ?_) (fun hf => ?_)
  · refine a_iload_n C (i := 2) (q := 21) dX8_readOne_20 rfl 0 rfl rfl ?_
    refine a_bipush C (v := (99 : Int32)) (q := 23) dX8_readOne_21 rfl (by decide) ?_
    refine a_icmp_ne C (tgt := 30) (q := 26) dX8_readOne_23 hf (by decide) rfl (fun hf => ?_) (fun hf => ?_)
    · refine a_iload_n C (i := 2) (q := 31) dX8_readOne_30 rfl 0 rfl rfl ?_
      refine a_bipush C (v := (115 : Int32)) (q := 33) dX8_readOne_31 rfl (by decide) ?_
      refine a_icmp_ne C (tgt := 40) (q := 36) dX8_readOne_33 hf (by decide) rfl (fun hf => ?_) (fun hf => ?_)
      · refine a_iload_n C (i := 2) (q := 41) dX8_readOne_40 rfl 0 rfl rfl ?_
        refine a_bipush C (v := (98 : Int32)) (q := 43) dX8_readOne_41 rfl (by decide) ?_
        refine a_icmp_ne C (tgt := 50) (q := 46) dX8_readOne_43 hf (by decide) rfl (fun hf => ?_) (fun hf => ?_)
        · refine a_iconst C (v := (-1 : Int32)) (q := 51) dX8_readOne_50 rfl (by decide) ?_
          exact a_sub [1, 2] rfl (w_X8_readOne_51 C hR n s y_1.2 v1 (-1 : Int32) v1 res hf hK)
        · refine a_iconst C (v := (3 : Int32)) (q := 47) dX8_readOne_46 rfl (by decide) ?_
          refine a_goto C (q := 51) dX8_readOne_47 (by decide) ?_
          exact a_sub [1, 2] rfl (w_X8_readOne_51 C hR n s y_1.2 v1 (3 : Int32) v1 res hf hK)
      · refine a_iconst C (v := (2 : Int32)) (q := 37) dX8_readOne_36 rfl (by decide) ?_
        refine a_goto C (q := 51) dX8_readOne_37 (by decide) ?_
        exact a_sub [1, 2] rfl (w_X8_readOne_51 C hR n s y_1.2 v1 (2 : Int32) v1 res hf hK)
    · refine a_iconst C (v := (1 : Int32)) (q := 27) dX8_readOne_26 rfl (by decide) ?_
      refine a_goto C (q := 51) dX8_readOne_27 (by decide) ?_
      exact a_sub [1, 2] rfl (w_X8_readOne_51 C hR n s y_1.2 v1 (1 : Int32) v1 res hf hK)
  · refine a_iconst C (v := (0 : Int32)) (q := 17) dX8_readOne_16 rfl (by decide) ?_
    refine a_goto C (q := 51) dX8_readOne_17 (by decide) ?_
    exact a_sub [1, 2] rfl (w_X8_readOne_51 C hR n s y_1.2 v1 (0 : Int32) v1 res hf hK)
theorem c_X8_readOne (l : Launch) (G : GX) (n : Nat) (s : MM) (t : SR) (v1 : Int32) (res : Int32 × SR) (hf : f_X8_readOne n t v1 = some res) : MetC l G yX8_readOne cX8_readOne 3 (some .boolean) 4 (s, t) [.ref (G.2.1 39), .int v1] (PostI G res.1 (s, res.2)) :=
  m_I (by decide) (Nat.le_of_ble_eq_true rfl) (fun F Q C h1 h2 h3 hK => w_X8_readOne_e C (Rm.of h1 h3) n s t v1 res hf hK)
theorem cw_X8_readPeople : CwV RX8 yX8_readPeople cX8_readPeople 3 0 (some .boolean) := ⟨k_973, k_972, kp_28, k_9, by decide +kernel, by decide⟩
def P_X8_readPeople_7 (F : FX) (G : GX) (Q : State → Prop) (s : MM) (v1 : Int32) (t : SR) : Prop := At F G Q 3 7 [(0, .ref (G.2.1 39)), (1, .int v1)] [] (s, t)
def E_X8_readPeople_7 (F : FX) (G : GX) (Q : State → Prop) (s : MM) : (Int32 × SR) ⊕ (SR) → Prop := fun q => match q with
  | .inl y => RetI F G Q cX8_readPeople 3 .boolean y.1 (s, y.2)
  | .inr t => At F G Q 3 73 [] [] (s, t)
def lb_X8_readPeople_7 (n : Nat) (v1 : Int32) (t : SR) : Option (((Int32 × SR) ⊕ (SR)) ⊕ (Int32 × SR)) :=
  (if (10 : Int32) ≤ v1 then some (.inl (.inr t)) else b1 (f_X8_readOne n t ((2 : Int32) * v1)) (fun y_2 => (if y_2.1 = 0 then some (.inl (.inl ((0 : Int32), y_2.2))) else nm (sr1 y_2.2 39 19 (v1 + (1 : Int32))) (fun t_3 => b1 (f_X8_nextByte n t_3) (fun y_4 => (if 0 ≤ y_4.1 then (if y_4.1 = (44 : Int32) then (if v1 = (9 : Int32) then some (.inl (.inl ((0 : Int32), y_4.2))) else nm (sr1 y_4.2 39 18 ((y_4.2.1 39 18) + (1 : Int32))) (fun t_5 => nm (v1 + 1) (fun v1_6 => some (.inr (v1_6, t_5))))) else some (.inl (.inl ((0 : Int32), y_4.2)))) else some (.inl (.inl ((1 : Int32), y_4.2)))))))))
set_option maxHeartbeats 4000000 in
theorem w_X8_readPeople_7 {F : FX} {G : GX} {Q : State → Prop} (C : Cx F G cX8_readPeople 3 RX8) (hR : Rm F 5) (n : Nat) (s : MM)  (v1 : Int32) (t : SR) (res : ((Int32 × SR) ⊕ (SR)) ⊕ (Int32 × SR)) (hf : lb_X8_readPeople_7 n v1 t = some res) (hK : Sum.elim (E_X8_readPeople_7 F G Q s) (fun q => match q with | (v1, t) => P_X8_readPeople_7 F G Q s v1 t) res) : P_X8_readPeople_7 F G Q s v1 t := by
  unfold lb_X8_readPeople_7 at hf
  show At F G Q 3 7 [(0, .ref (G.2.1 39)), (1, .int v1)] [] (s, t)
  refine a_iload_n C (i := 1) (q := 8) dX8_readPeople_7 rfl 1 rfl rfl ?_
  refine a_bipush C (v := (10 : Int32)) (q := 10) dX8_readPeople_8 rfl (by decide) ?_
  refine a_icmp_ge C (tgt := 73) (q := 13) dX8_readPeople_10 hf (by decide) rfl (fun hf => ?_) (fun hf => ?_)
  · have hf := Option.some.inj hf; subst hf
    exact a_sub [] rfl (show At F G Q 3 73 [] [] (s, t) from hK)
  · refine a_aload_n C (i := 0) (q := 14) dX8_readPeople_13 rfl 0 rfl rfl ?_
    refine a_iconst C (v := (2 : Int32)) (q := 15) dX8_readPeople_14 rfl (by decide) ?_
    refine a_iload_n C (i := 1) (q := 16) dX8_readPeople_15 rfl 1 rfl rfl ?_
    refine a_imul C (q := 17) dX8_readPeople_16 rfl ?_
    refine a_callVI C (q := 20) (As := [.int ((2 : Int32) * v1)]) (st := []) dX8_readPeople_17 hR (by decide) hf (fun b => b.1) (fun b => (s, b.2)) (by decide) rfl rfl cw_X8_readOne (fun b hb => c_X8_readOne _ G n s t ((2 : Int32) * v1) b hb) rfl rfl (Nat.le_of_ble_eq_true rfl) k_974 rfl (fun y_2 hf => ?_)
    refine a_if_ne C (tgt := 25) (q := 23) dX8_readPeople_20 hf (by decide) rfl (fun hf => ?_) (fun hf => ?_)
    · refine a_aload_n C (i := 0) (q := 26) dX8_readPeople_25 rfl 0 rfl rfl ?_
      refine a_iload_n C (i := 1) (q := 27) dX8_readPeople_26 rfl 1 rfl rfl ?_
      refine a_iconst C (v := (1 : Int32)) (q := 28) dX8_readPeople_27 rfl (by decide) ?_
      refine a_iadd C (q := 29) dX8_readPeople_28 rfl ?_
      refine a_put8N C (q := 32) (mk := (fun z => (s, z))) dX8_readPeople_29 hf 19 (by decide) k_787 (by decide) rfl rfl cellE_R1 rfl rfl rfl (Nat.le_of_ble_eq_true rfl) rfl (fun t_3 hf => ?_)
      refine a_aload_n C (i := 0) (q := 33) dX8_readPeople_32 rfl 0 rfl rfl ?_
      refine a_callVI C (q := 36) (As := []) (st := []) dX8_readPeople_33 hR (by decide) hf (fun b => b.1) (fun b => (s, b.2)) (by decide) rfl rfl cw_X8_nextByte (fun b hb => c_X8_nextByte _ G n s t_3 b hb) rfl rfl (Nat.le_of_ble_eq_true rfl) k_978 rfl (fun y_4 hf => ?_)
      refine a_istore_n C (i := 2) (q := 37) (lv' := [(2, .int y_4.1), (0, .ref (G.2.1 39)), (1, .int v1)]) dX8_readPeople_36 rfl (by decide) rfl rfl ?_
      refine a_iload_n C (i := 2) (q := 38) dX8_readPeople_37 rfl 0 rfl rfl ?_
      refine a_if_ge C (tgt := 43) (q := 41) dX8_readPeople_38 hf (by decide) rfl (fun hf => ?_) (fun hf => ?_)
      · refine a_iload_n C (i := 2) (q := 44) dX8_readPeople_43 rfl 0 rfl rfl ?_
        refine a_bipush C (v := (44 : Int32)) (q := 46) dX8_readPeople_44 rfl (by decide) ?_
        refine a_icmp_ne C (tgt := 55) (q := 49) dX8_readPeople_46 hf (by decide) rfl (fun hf => ?_) (fun hf => ?_)
        · refine a_iconst C (v := (0 : Int32)) (q := 56) dX8_readPeople_55 rfl (by decide) ?_
          have hf := Option.some.inj hf; subst hf
          exact (show RetI F G Q cX8_readPeople 3 .boolean (0 : Int32) (s, y_4.2) from hK) rfl _ _ dX8_readPeople_56
        · refine a_iload_n C (i := 1) (q := 50) dX8_readPeople_49 rfl 2 rfl rfl ?_
          refine a_bipush C (v := (9 : Int32)) (q := 52) dX8_readPeople_50 rfl (by decide) ?_
          refine a_icmp_ne C (tgt := 57) (q := 55) dX8_readPeople_52 hf (by decide) rfl (fun hf => ?_) (fun hf => ?_)
          · refine a_aload_n C (i := 0) (q := 58) dX8_readPeople_57 rfl 1 rfl rfl ?_
            refine a_dup C (q := 59) dX8_readPeople_58 rfl rfl ?_
            refine a_get8 C (q := 62) dX8_readPeople_59 18 (by decide) k_786 (by decide) rfl rfl rfl ?_
            refine a_iconst C (v := (1 : Int32)) (q := 63) dX8_readPeople_62 rfl (by decide) ?_
            refine a_iadd C (q := 64) dX8_readPeople_63 rfl ?_
            refine a_put8N C (q := 67) (mk := (fun z => (s, z))) dX8_readPeople_64 hf 18 (by decide) k_786 (by decide) rfl rfl cellE_R1 rfl rfl rfl (Nat.le_of_ble_eq_true rfl) rfl (fun t_5 hf => ?_)
            refine a_iincN C (i := 1) (k := 2) (q := 70) (lv' := fun z => [(1, .int z), (2, .int y_4.1), (0, .ref (G.2.1 39))]) dX8_readPeople_67 hf rfl rfl (by decide) (fun _ => rfl) rfl (fun v1_6 hf => ?_)
            refine a_goto C (q := 7) dX8_readPeople_70 (by decide) ?_
            have hf := Option.some.inj hf; subst hf
            exact a_sub [2, 0] rfl (show At F G Q 3 7 [(0, .ref (G.2.1 39)), (1, .int v1_6)] [] (s, t_5) from hK)
          · refine a_iconst C (v := (0 : Int32)) (q := 56) dX8_readPeople_55 rfl (by decide) ?_
            have hf := Option.some.inj hf; subst hf
            exact (show RetI F G Q cX8_readPeople 3 .boolean (0 : Int32) (s, y_4.2) from hK) rfl _ _ dX8_readPeople_56
      · refine a_iconst C (v := (1 : Int32)) (q := 42) dX8_readPeople_41 rfl (by decide) ?_
        have hf := Option.some.inj hf; subst hf
        exact (show RetI F G Q cX8_readPeople 3 .boolean (1 : Int32) (s, y_4.2) from hK) rfl _ _ dX8_readPeople_42
    · refine a_iconst C (v := (0 : Int32)) (q := 24) dX8_readPeople_23 rfl (by decide) ?_
      have hf := Option.some.inj hf; subst hf
      exact (show RetI F G Q cX8_readPeople 3 .boolean (0 : Int32) (s, y_2.2) from hK) rfl _ _ dX8_readPeople_24
theorem lp_X8_readPeople_7 {F : FX} {G : GX} {Q : State → Prop} (C : Cx F G cX8_readPeople 3 RX8) (hR : Rm F 5) (n : Nat) (s : MM)  (v1 : Int32) (t : SR) (x : (Int32 × SR) ⊕ (SR)) (h : it2 (lb_X8_readPeople_7 n ) n v1 t = some x) (hE : E_X8_readPeople_7 F G Q s x) : At F G Q 3 7 [(0, .ref (G.2.1 39)), (1, .int v1)] [] (s, t) :=
  it2_ind (b := (lb_X8_readPeople_7 n )) (E := E_X8_readPeople_7 F G Q s) (P := fun v1 t => P_X8_readPeople_7 F G Q s v1 t) (fun v1 t res hf hK => w_X8_readPeople_7 C hR n s   v1 t res hf hK) n v1 t x h hE
def f_X8_readPeople (n : Nat) (t : SR) : Option (Int32 × SR) :=
  nm (sr1 t 39 18 (0 : Int32)) (fun t_1 => bR (it2 (lb_X8_readPeople_7 n ) n (0 : Int32) t_1) (fun y => some y) (fun t_7 => some ((0 : Int32), t_7)))
set_option maxHeartbeats 4000000 in
theorem w_X8_readPeople_e {F : FX} {G : GX} {Q : State → Prop} (C : Cx F G cX8_readPeople 3 RX8) (hR : Rm F 5) (n : Nat) (s : MM) (t : SR)   (res : Int32 × SR) (hf : f_X8_readPeople n t = some res) (hK : RetI F G Q cX8_readPeople 3 .boolean res.1 (s, res.2)) : At F G Q 3 0 [(0, .ref (G.2.1 39))] [] (s, t) := by
  unfold f_X8_readPeople at hf
  refine a_aload_n C (i := 0) (q := 1) dX8_readPeople_0 rfl 0 rfl rfl ?_
  refine a_iconst C (v := (0 : Int32)) (q := 2) dX8_readPeople_1 rfl (by decide) ?_
  refine a_put8N C (q := 5) (mk := (fun z => (s, z))) dX8_readPeople_2 hf 18 (by decide) k_786 (by decide) rfl rfl cellE_R1 rfl rfl rfl (Nat.le_of_ble_eq_true rfl) rfl (fun t_1 hf => ?_)
  refine a_iconst C (v := (0 : Int32)) (q := 6) dX8_readPeople_5 rfl (by decide) ?_
  refine a_istore_n C (i := 1) (q := 7) (lv' := [(1, .int (0 : Int32)), (0, .ref (G.2.1 39))]) dX8_readPeople_6 rfl (by decide) rfl rfl ?_
  rcases bR_some hf with ⟨y, h1, hf⟩ | ⟨t_7, h1, hf⟩
  · refine a_sub [1, 0] rfl (lp_X8_readPeople_7 C hR n s  (0 : Int32) t_1 _ h1 ?_)
    have hf := Option.some.inj hf; subst hf
    exact hK
  · refine a_sub [1, 0] rfl (lp_X8_readPeople_7 C hR n s  (0 : Int32) t_1 _ h1 ?_)
    show At F G Q 3 73 [] [] (s, t_7)
    refine a_iconst C (v := (0 : Int32)) (q := 74) dX8_readPeople_73 rfl (by decide) ?_
    have hf := Option.some.inj hf; subst hf
    exact (show RetI F G Q cX8_readPeople 3 .boolean (0 : Int32) (s, t_7) from hK) rfl _ _ dX8_readPeople_74
theorem c_X8_readPeople (l : Launch) (G : GX) (n : Nat) (s : MM) (t : SR)  (res : Int32 × SR) (hf : f_X8_readPeople n t = some res) : MetC l G yX8_readPeople cX8_readPeople 3 (some .boolean) 5 (s, t) [.ref (G.2.1 39)] (PostI G res.1 (s, res.2)) :=
  m_I (by decide) (Nat.le_of_ble_eq_true rfl) (fun F Q C h1 h2 h3 hK => w_X8_readPeople_e C (Rm.of h1 h3) n s t res hf hK)
theorem cw_X8_people : CwV RX8 yX8_people cX8_people 3 0 (some .int) := ⟨k_969, k_967, k_968, k_9, by decide +kernel, by decide⟩
def P_X8_people_33 (F : FX) (G : GX) (Q : State → Prop) (s : MM) (v2 : Int32) (t : SR) : Prop := At F G Q 3 33 [(0, .ref (G.2.1 39)), (2, .int v2)] [] (s, t)
def E_X8_people_33 (F : FX) (G : GX) (Q : State → Prop) (s : MM) : SR → Prop := fun q => match q with
  | t => At F G Q 3 57 [(0, .ref (G.2.1 39))] [] (s, t)
def lb_X8_people_33 (n : Nat) (v2 : Int32) (t : SR) : Option ((SR) ⊕ (Int32 × SR)) :=
  (if (12 : Int32) ≤ v2 then some (.inl t) else ix v2 12 (ix v2 12 (nm (sr1 t 45 v2.toNatClampNeg (t.1 44 v2.toNatClampNeg)) (fun t_3 => nm (v2 + 1) (fun v2_4 => some (.inr (v2_4, t_3)))))))
set_option maxHeartbeats 4000000 in
theorem w_X8_people_33 {F : FX} {G : GX} {Q : State → Prop} (C : Cx F G cX8_people 3 RX8) (hR : Rm F 6) (n : Nat) (s : MM)  (v2 : Int32) (t : SR) (res : (SR) ⊕ (Int32 × SR)) (hf : lb_X8_people_33 n v2 t = some res) (hK : Sum.elim (E_X8_people_33 F G Q s) (fun q => match q with | (v2, t) => P_X8_people_33 F G Q s v2 t) res) : P_X8_people_33 F G Q s v2 t := by
  unfold lb_X8_people_33 at hf
  show At F G Q 3 33 [(0, .ref (G.2.1 39)), (2, .int v2)] [] (s, t)
  refine a_iload_n C (i := 2) (q := 34) dX8_people_33 rfl 1 rfl rfl ?_
  refine a_bipush C (v := (12 : Int32)) (q := 36) dX8_people_34 rfl (by decide) ?_
  refine a_icmp_ge C (tgt := 57) (q := 39) dX8_people_36 hf (by decide) rfl (fun hf => ?_) (fun hf => ?_)
  · have hf := Option.some.inj hf; subst hf
    exact a_sub [0] rfl (show At F G Q 3 57 [(0, .ref (G.2.1 39))] [] (s, t) from hK)
  · refine a_aload_n C (i := 0) (q := 40) dX8_people_39 rfl 0 rfl rfl ?_
    refine a_get8 C (q := 43) dX8_people_40 9 (by decide) k_777 (by decide) rfl rfl rfl ?_
    refine a_iload_n C (i := 2) (q := 44) dX8_people_43 rfl 1 rfl rfl ?_
    refine a_aload_n C (i := 0) (q := 45) dX8_people_44 rfl 0 rfl rfl ?_
    refine a_get8 C (q := 48) dX8_people_45 5 (by decide) k_773 (by decide) rfl rfl rfl ?_
    refine a_iload_n C (i := 2) (q := 49) dX8_people_48 rfl 1 rfl rfl ?_
    refine a_iald C (q := 50) (g := t.1 44) dX8_people_49 hf (by decide) rfl rfl (fun hf => ?_)
    refine a_iastN C (q := 51) (mk := (fun z => (s, z))) dX8_people_50 hf (by decide) rfl rfl cellE_R1 rfl (fun t_3 hf => ?_)
    refine a_iincN C (i := 2) (k := 1) (q := 54) (lv' := fun z => [(2, .int z), (0, .ref (G.2.1 39))]) dX8_people_51 hf rfl rfl (by decide) (fun _ => rfl) rfl (fun v2_4 hf => ?_)
    refine a_goto C (q := 33) dX8_people_54 (by decide) ?_
    have hf := Option.some.inj hf; subst hf
    exact a_sub [1, 0] rfl (show At F G Q 3 33 [(0, .ref (G.2.1 39)), (2, .int v2_4)] [] (s, t_3) from hK)
theorem lp_X8_people_33 {F : FX} {G : GX} {Q : State → Prop} (C : Cx F G cX8_people 3 RX8) (hR : Rm F 6) (n : Nat) (s : MM)  (v2 : Int32) (t : SR) (x : SR) (h : it2 (lb_X8_people_33 n ) n v2 t = some x) (hE : E_X8_people_33 F G Q s x) : At F G Q 3 33 [(0, .ref (G.2.1 39)), (2, .int v2)] [] (s, t) :=
  it2_ind (b := (lb_X8_people_33 n )) (E := E_X8_people_33 F G Q s) (P := fun v2 t => P_X8_people_33 F G Q s v2 t) (fun v2 t res hf hK => w_X8_people_33 C hR n s   v2 t res hf hK) n v2 t x h hE
def P_X8_people_74 (F : FX) (G : GX) (Q : State → Prop) (s : MM) (v2 : Int32) (t : SR) : Prop := At F G Q 3 74 [(0, .ref (G.2.1 39)), (2, .int v2)] [] (s, t)
def E_X8_people_74 (F : FX) (G : GX) (Q : State → Prop) (s : MM) : SR → Prop := fun q => match q with
  | t => At F G Q 3 110 [(0, .ref (G.2.1 39))] [] (s, t)
def lb_X8_people_74 (n : Nat) (v2 : Int32) (t : SR) : Option ((SR) ⊕ (Int32 × SR)) :=
  (if (t.1 39 19) ≤ v2 then some (.inl t) else ix ((2 : Int32) * v2) 240 (ix (((2 : Int32) * v2) + (1 : Int32)) 240 (b1 (f_X8_add t (t.1 47 (((2 : Int32) * v2).toNatClampNeg)) (t.1 47 ((((2 : Int32) * v2) + (1 : Int32)).toNatClampNeg))) (fun y_8 => nm (v2 + 1) (fun v2_9 => some (.inr (v2_9, y_8)))))))
set_option maxHeartbeats 4000000 in
theorem w_X8_people_74 {F : FX} {G : GX} {Q : State → Prop} (C : Cx F G cX8_people 3 RX8) (hR : Rm F 6) (n : Nat) (s : MM)  (v2 : Int32) (t : SR) (res : (SR) ⊕ (Int32 × SR)) (hf : lb_X8_people_74 n v2 t = some res) (hK : Sum.elim (E_X8_people_74 F G Q s) (fun q => match q with | (v2, t) => P_X8_people_74 F G Q s v2 t) res) : P_X8_people_74 F G Q s v2 t := by
  unfold lb_X8_people_74 at hf
  show At F G Q 3 74 [(0, .ref (G.2.1 39)), (2, .int v2)] [] (s, t)
  refine a_iload_n C (i := 2) (q := 75) dX8_people_74 rfl 1 rfl rfl ?_
  refine a_aload_n C (i := 0) (q := 76) dX8_people_75 rfl 0 rfl rfl ?_
  refine a_get8 C (q := 79) dX8_people_76 19 (by decide) k_787 (by decide) rfl rfl rfl ?_
  refine a_icmp_ge C (tgt := 110) (q := 82) dX8_people_79 hf (by decide) rfl (fun hf => ?_) (fun hf => ?_)
  · have hf := Option.some.inj hf; subst hf
    exact a_sub [0] rfl (show At F G Q 3 110 [(0, .ref (G.2.1 39))] [] (s, t) from hK)
  · refine a_aload_n C (i := 0) (q := 83) dX8_people_82 rfl 0 rfl rfl ?_
    refine a_aload_n C (i := 0) (q := 84) dX8_people_83 rfl 0 rfl rfl ?_
    refine a_get8 C (q := 87) dX8_people_84 20 (by decide) k_788 (by decide) rfl rfl rfl ?_
    refine a_iconst C (v := (2 : Int32)) (q := 88) dX8_people_87 rfl (by decide) ?_
    refine a_iload_n C (i := 2) (q := 89) dX8_people_88 rfl 1 rfl rfl ?_
    refine a_imul C (q := 90) dX8_people_89 rfl ?_
    refine a_iald C (q := 91) (g := t.1 47) dX8_people_90 hf (by decide) rfl rfl (fun hf => ?_)
    refine a_aload_n C (i := 0) (q := 92) dX8_people_91 rfl 0 rfl rfl ?_
    refine a_get8 C (q := 95) dX8_people_92 20 (by decide) k_788 (by decide) rfl rfl rfl ?_
    refine a_iconst C (v := (2 : Int32)) (q := 96) dX8_people_95 rfl (by decide) ?_
    refine a_iload_n C (i := 2) (q := 97) dX8_people_96 rfl 1 rfl rfl ?_
    refine a_imul C (q := 98) dX8_people_97 rfl ?_
    refine a_iconst C (v := (1 : Int32)) (q := 99) dX8_people_98 rfl (by decide) ?_
    refine a_iadd C (q := 100) dX8_people_99 rfl ?_
    refine a_iald C (q := 101) (g := t.1 47) dX8_people_100 hf (by decide) rfl rfl (fun hf => ?_)
    refine a_callVV C (q := 104) (As := [.int (t.1 47 (((2 : Int32) * v2).toNatClampNeg)), .int (t.1 47 ((((2 : Int32) * v2) + (1 : Int32)).toNatClampNeg))]) (st := []) dX8_people_101 hR (by decide) hf (fun b => (s, b)) (by decide) rfl rfl cw_X8_add (fun b hb => c_X8_add _ G s t (t.1 47 (((2 : Int32) * v2).toNatClampNeg)) (t.1 47 ((((2 : Int32) * v2) + (1 : Int32)).toNatClampNeg)) b hb) rfl rfl (Nat.le_of_ble_eq_true rfl) k_884 rfl (fun y_8 hf => ?_)
    refine a_iincN C (i := 2) (k := 1) (q := 107) (lv' := fun z => [(2, .int z), (0, .ref (G.2.1 39))]) dX8_people_104 hf rfl rfl (by decide) (fun _ => rfl) rfl (fun v2_9 hf => ?_)
    refine a_goto C (q := 74) dX8_people_107 (by decide) ?_
    have hf := Option.some.inj hf; subst hf
    exact a_sub [1, 0] rfl (show At F G Q 3 74 [(0, .ref (G.2.1 39)), (2, .int v2_9)] [] (s, y_8) from hK)
theorem lp_X8_people_74 {F : FX} {G : GX} {Q : State → Prop} (C : Cx F G cX8_people 3 RX8) (hR : Rm F 6) (n : Nat) (s : MM)  (v2 : Int32) (t : SR) (x : SR) (h : it2 (lb_X8_people_74 n ) n v2 t = some x) (hE : E_X8_people_74 F G Q s x) : At F G Q 3 74 [(0, .ref (G.2.1 39)), (2, .int v2)] [] (s, t) :=
  it2_ind (b := (lb_X8_people_74 n )) (E := E_X8_people_74 F G Q s) (P := fun v2 t => P_X8_people_74 F G Q s v2 t) (fun v2 t res hf hK => w_X8_people_74 C hR n s   v2 t res hf hK) n v2 t x h hE
def f_X8_people_14 (n : Nat) (t : SR) (v1 : Int32) : Option (Int32 × SR) :=
  nm (sr1 t 39 17 (0 : Int32)) (fun t_2 => (if v1 = 0 then some ((-20 : Int32) - (t_2.1 39 18), t_2) else b1 (it2 (lb_X8_people_33 n ) n (0 : Int32) t_2) (fun t_5 => b1 (f_X8_isEvenNow n t_5) (fun y_6 => (if y_6.1 = 0 then some ((-2 : Int32), y_6.2) else nm (sr1 y_6.2 39 4 (0 : Int32)) (fun t_7 => b1 (it2 (lb_X8_people_74 n ) n (0 : Int32) t_7) (fun t_10 => some (t_10.1 39 4, t_10))))))))
set_option maxHeartbeats 4000000 in
theorem w_X8_people_14 {F : FX} {G : GX} {Q : State → Prop} (C : Cx F G cX8_people 3 RX8) (hR : Rm F 6) (n : Nat) (s : MM) (t : SR)  (v1 : Int32) (res : Int32 × SR) (hf : f_X8_people_14 n t v1 = some res) (hK : RetI F G Q cX8_people 3 .int res.1 (s, res.2)) : At F G Q 3 14 [(0, .ref (G.2.1 39)), (1, .int v1)] [] (s, t) := by
  unfold f_X8_people_14 at hf
  refine a_aload_n C (i := 0) (q := 15) dX8_people_14 rfl 0 rfl rfl ?_
  refine a_iconst C (v := (0 : Int32)) (q := 16) dX8_people_15 rfl (by decide) ?_
  refine a_put8N C (q := 19) (mk := (fun z => (s, z))) dX8_people_16 hf 17 (by decide) k_785 (by decide) rfl rfl cellE_R1 rfl rfl rfl (Nat.le_of_ble_eq_true rfl) rfl (fun t_2 hf => ?_)
  refine a_iload_n C (i := 1) (q := 20) dX8_people_19 rfl 1 rfl rfl ?_
  refine a_if_ne C (tgt := 31) (q := 23) dX8_people_20 hf (by decide) rfl (fun hf => ?_) (fun hf => ?_)
  · refine a_iconst C (v := (0 : Int32)) (q := 32) dX8_people_31 rfl (by decide) ?_
    refine a_istore_n C (i := 2) (q := 33) (lv' := [(2, .int (0 : Int32)), (0, .ref (G.2.1 39)), (1, .int v1)]) dX8_people_32 rfl (by decide) rfl rfl ?_
    obtain ⟨t_5, h1, hf⟩ := b1_some hf
    refine a_sub [1, 0] rfl (lp_X8_people_33 C hR n s  (0 : Int32) t_2 _ h1 ?_)
    show At F G Q 3 57 [(0, .ref (G.2.1 39))] [] (s, t_5)
    refine a_aload_n C (i := 0) (q := 58) dX8_people_57 rfl 0 rfl rfl ?_
    refine a_callVI C (q := 61) (As := []) (st := []) dX8_people_58 hR (by decide) hf (fun b => b.1) (fun b => (s, b.2)) (by decide) rfl rfl cw_X8_isEvenNow (fun b hb => c_X8_isEvenNow _ G n s t_5 b hb) rfl rfl (Nat.le_of_ble_eq_true rfl) k_932 rfl (fun y_6 hf => ?_)
    refine a_if_ne C (tgt := 67) (q := 64) dX8_people_61 hf (by decide) rfl (fun hf => ?_) (fun hf => ?_)
    · refine a_aload_n C (i := 0) (q := 68) dX8_people_67 rfl 0 rfl rfl ?_
      refine a_iconst C (v := (0 : Int32)) (q := 69) dX8_people_68 rfl (by decide) ?_
      refine a_put8N C (q := 72) (mk := (fun z => (s, z))) dX8_people_69 hf 4 (by decide) k_772 (by decide) rfl rfl cellE_R1 rfl rfl rfl (Nat.le_of_ble_eq_true rfl) rfl (fun t_7 hf => ?_)
      refine a_iconst C (v := (0 : Int32)) (q := 73) dX8_people_72 rfl (by decide) ?_
      refine a_istore_n C (i := 2) (q := 74) (lv' := [(2, .int (0 : Int32)), (0, .ref (G.2.1 39))]) dX8_people_73 rfl (by decide) rfl rfl ?_
      obtain ⟨t_10, h1, hf⟩ := b1_some hf
      refine a_sub [1, 0] rfl (lp_X8_people_74 C hR n s  (0 : Int32) t_7 _ h1 ?_)
      show At F G Q 3 110 [(0, .ref (G.2.1 39))] [] (s, t_10)
      refine a_aload_n C (i := 0) (q := 111) dX8_people_110 rfl 0 rfl rfl ?_
      refine a_get8 C (q := 114) dX8_people_111 4 (by decide) k_772 (by decide) rfl rfl rfl ?_
      have hf := Option.some.inj hf; subst hf
      exact (show RetI F G Q cX8_people 3 .int (t_10.1 39 4) (s, t_10) from hK) rfl _ _ dX8_people_114
    · refine a_bipush C (v := (-2 : Int32)) (q := 66) dX8_people_64 rfl (by decide) ?_
      have hf := Option.some.inj hf; subst hf
      exact (show RetI F G Q cX8_people 3 .int (-2 : Int32) (s, y_6.2) from hK) rfl _ _ dX8_people_66
  · refine a_bipush C (v := (-20 : Int32)) (q := 25) dX8_people_23 rfl (by decide) ?_
    refine a_aload_n C (i := 0) (q := 26) dX8_people_25 rfl 0 rfl rfl ?_
    refine a_get8 C (q := 29) dX8_people_26 18 (by decide) k_786 (by decide) rfl rfl rfl ?_
    refine a_isub C (q := 30) dX8_people_29 rfl ?_
    have hf := Option.some.inj hf; subst hf
    exact (show RetI F G Q cX8_people 3 .int ((-20 : Int32) - (t_2.1 39 18)) (s, t_2) from hK) rfl _ _ dX8_people_30
def f_X8_people (n : Nat) (t : SR) : Option (Int32 × SR) :=
  b1 (f_X8_readPeople n t) (fun y_1 => (if y_1.1 = 0 then b1 (f_X8_nextByte n y_1.2) (fun y_11 => f_X8_people_14 n y_11.2 y_1.1) else f_X8_people_14 n y_1.2 y_1.1))
set_option maxHeartbeats 4000000 in
theorem w_X8_people_e {F : FX} {G : GX} {Q : State → Prop} (C : Cx F G cX8_people 3 RX8) (hR : Rm F 6) (n : Nat) (s : MM) (t : SR)   (res : Int32 × SR) (hf : f_X8_people n t = some res) (hK : RetI F G Q cX8_people 3 .int res.1 (s, res.2)) : At F G Q 3 0 [(0, .ref (G.2.1 39))] [] (s, t) := by
  unfold f_X8_people at hf
  refine a_aload_n C (i := 0) (q := 1) dX8_people_0 rfl 0 rfl rfl ?_
  refine a_callVI C (q := 4) (As := []) (st := []) dX8_people_1 hR (by decide) hf (fun b => b.1) (fun b => (s, b.2)) (by decide) rfl rfl cw_X8_readPeople (fun b hb => c_X8_readPeople _ G n s t b hb) rfl rfl (Nat.le_of_ble_eq_true rfl) k_970 rfl (fun y_1 hf => ?_)
  refine a_istore_n C (i := 1) (q := 5) (lv' := [(1, .int y_1.1), (0, .ref (G.2.1 39))]) dX8_people_4 rfl (by decide) rfl rfl ?_
  refine a_iload_n C (i := 1) (q := 6) dX8_people_5 rfl 0 rfl rfl ?_
  refine a_if_ne C (tgt := 14) (q := 9) dX8_people_6 hf (by decide) rfl (fun hf => ?_) (fun hf => ?_)
  · exact a_sub [1, 0] rfl (w_X8_people_14 C hR n s y_1.2 y_1.1 res hf hK)
  · refine a_aload_n C (i := 0) (q := 10) dX8_people_9 rfl 1 rfl rfl ?_
    refine a_callVI C (q := 13) (As := []) (st := []) dX8_people_10 hR (by decide) hf (fun b => b.1) (fun b => (s, b.2)) (by decide) rfl rfl cw_X8_nextByte (fun b hb => c_X8_nextByte _ G n s y_1.2 b hb) rfl rfl (Nat.le_of_ble_eq_true rfl) k_978 rfl (fun y_11 hf => ?_)
    refine a_pop C (q := 14) dX8_people_13 rfl rfl ?_
    exact a_sub [1, 0] rfl (w_X8_people_14 C hR n s y_11.2 y_1.1 res hf hK)
theorem c_X8_people (l : Launch) (G : GX) (n : Nat) (s : MM) (t : SR)  (res : Int32 × SR) (hf : f_X8_people n t = some res) : MetC l G yX8_people cX8_people 3 (some .int) 6 (s, t) [.ref (G.2.1 39)] (PostI G res.1 (s, res.2)) :=
  m_I (by decide) (Nat.le_of_ble_eq_true rfl) (fun F Q C h1 h2 h3 hK => w_X8_people_e C (Rm.of h1 h3) n s t res hf hK)
theorem cw_X8_readAct : CwV RX8 yX8_readAct cX8_readAct 3 1 (some .boolean) := ⟨k_999, k_998, kp_33, k_9, by decide +kernel, by decide⟩
def f_X8_readAct_31 (n : Nat) (t : SR) (v1 : Int32) (v2 : Int32) : Option (Int32 × SR) :=
  ix v1 240 (nm (sr1 t 47 v1.toNatClampNeg v2) (fun t_2 => nm (sr1 t_2 39 18 ((t_2.1 39 18) + (1 : Int32))) (fun t_3 => (if v2 = (115 : Int32) then b1 (f_X8_readNumber n t_3 (0 : Int32) (99 : Int32)) (fun y_8 => ix (v1 + (1 : Int32)) 240 (nm (sr1 y_8.2 47 ((v1 + (1 : Int32)).toNatClampNeg) y_8.1) (fun t_9 => ix (v1 + (1 : Int32)) 240 ((if (t_9.1 47 ((v1 + (1 : Int32)).toNatClampNeg)) < 0 then some ((0 : Int32), t_9) else some ((1 : Int32), t_9)))))) else (if v2 = (116 : Int32) then some ((1 : Int32), t_3) else b1 (f_X8_nextByte n t_3) (fun y_4 => ix (v1 + (1 : Int32)) 240 (nm (sr1 y_4.2 47 ((v1 + (1 : Int32)).toNatClampNeg) (y_4.1 - (48 : Int32))) (fun t_5 => ix (v1 + (1 : Int32)) 240 (b1 (f_X8_in ((t_5.1 47 ((v1 + (1 : Int32)).toNatClampNeg)).toInt64) (0 : Int64) (9 : Int64)) (fun y_6 => (if y_6 = 0 then some ((0 : Int32), t_5) else nm (sr1 t_5 39 18 ((t_5.1 39 18) + (1 : Int32))) (fun t_7 => some ((1 : Int32), t_7)))))))))))))
set_option maxHeartbeats 4000000 in
theorem w_X8_readAct_31 {F : FX} {G : GX} {Q : State → Prop} (C : Cx F G cX8_readAct 3 RX8) (hR : Rm F 4) (n : Nat) (s : MM) (t : SR)  (v1 : Int32) (v2 : Int32) (res : Int32 × SR) (hf : f_X8_readAct_31 n t v1 v2 = some res) (hK : RetI F G Q cX8_readAct 3 .boolean res.1 (s, res.2)) : At F G Q 3 31 [(0, .ref (G.2.1 39)), (1, .int v1), (2, .int v2)] [] (s, t) := by
  unfold f_X8_readAct_31 at hf
  refine a_aload_n C (i := 0) (q := 32) dX8_readAct_31 rfl 0 rfl rfl ?_
  refine a_get8 C (q := 35) dX8_readAct_32 20 (by decide) k_788 (by decide) rfl rfl rfl ?_
  refine a_iload_n C (i := 1) (q := 36) dX8_readAct_35 rfl 1 rfl rfl ?_
  refine a_iload_n C (i := 2) (q := 37) dX8_readAct_36 rfl 2 rfl rfl ?_
  refine a_iastN C (q := 38) (mk := (fun z => (s, z))) dX8_readAct_37 hf (by decide) rfl rfl cellE_R1 rfl (fun t_2 hf => ?_)
  refine a_aload_n C (i := 0) (q := 39) dX8_readAct_38 rfl 0 rfl rfl ?_
  refine a_dup C (q := 40) dX8_readAct_39 rfl rfl ?_
  refine a_get8 C (q := 43) dX8_readAct_40 18 (by decide) k_786 (by decide) rfl rfl rfl ?_
  refine a_iconst C (v := (1 : Int32)) (q := 44) dX8_readAct_43 rfl (by decide) ?_
  refine a_iadd C (q := 45) dX8_readAct_44 rfl ?_
  refine a_put8N C (q := 48) (mk := (fun z => (s, z))) dX8_readAct_45 hf 18 (by decide) k_786 (by decide) rfl rfl cellE_R1 rfl rfl rfl (Nat.le_of_ble_eq_true rfl) rfl (fun t_3 hf => ?_)
  refine a_iload_n C (i := 2) (q := 49) dX8_readAct_48 rfl 2 rfl rfl ?_
  refine a_bipush C (v := (115 : Int32)) (q := 51) dX8_readAct_49 rfl (by decide) ?_
  refine a_icmp_ne C (tgt := 86) (q := 54) dX8_readAct_51 hf (by decide) rfl (fun hf => ?_) (fun hf => ?_)
  · refine a_iload_n C (i := 2) (q := 87) dX8_readAct_86 rfl 2 rfl rfl ?_
    refine a_bipush C (v := (116 : Int32)) (q := 89) dX8_readAct_87 rfl (by decide) ?_
    refine a_icmp_eq C (tgt := 138) (q := 92) dX8_readAct_89 hf (by decide) rfl (fun hf => ?_) (fun hf => ?_)
    · refine a_iconst C (v := (1 : Int32)) (q := 139) dX8_readAct_138 rfl (by decide) ?_
      have hf := Option.some.inj hf; subst hf
      exact (show RetI F G Q cX8_readAct 3 .boolean (1 : Int32) (s, t_3) from hK) rfl _ _ dX8_readAct_139
    · refine a_aload_n C (i := 0) (q := 93) dX8_readAct_92 rfl 0 rfl rfl ?_
      refine a_get8 C (q := 96) dX8_readAct_93 20 (by decide) k_788 (by decide) rfl rfl rfl ?_
      refine a_iload_n C (i := 1) (q := 97) dX8_readAct_96 rfl 1 rfl rfl ?_
      refine a_iconst C (v := (1 : Int32)) (q := 98) dX8_readAct_97 rfl (by decide) ?_
      refine a_iadd C (q := 99) dX8_readAct_98 rfl ?_
      refine a_aload_n C (i := 0) (q := 100) dX8_readAct_99 rfl 0 rfl rfl ?_
      refine a_callVI C (q := 103) (As := []) (st := [.int (v1 + (1 : Int32)), .ref (G.2.1 47)]) dX8_readAct_100 hR (by decide) hf (fun b => b.1) (fun b => (s, b.2)) (by decide) rfl rfl cw_X8_nextByte (fun b hb => c_X8_nextByte _ G n s t_3 b hb) rfl rfl (Nat.le_of_ble_eq_true rfl) k_978 rfl (fun y_4 hf => ?_)
      refine a_bipush C (v := (48 : Int32)) (q := 105) dX8_readAct_103 rfl (by decide) ?_
      refine a_isub C (q := 106) dX8_readAct_105 rfl ?_
      refine a_iastN C (q := 107) (mk := (fun z => (s, z))) dX8_readAct_106 hf (by decide) rfl rfl cellE_R1 rfl (fun t_5 hf => ?_)
      refine a_aload_n C (i := 0) (q := 108) dX8_readAct_107 rfl 0 rfl rfl ?_
      refine a_get8 C (q := 111) dX8_readAct_108 20 (by decide) k_788 (by decide) rfl rfl rfl ?_
      refine a_iload_n C (i := 1) (q := 112) dX8_readAct_111 rfl 1 rfl rfl ?_
      refine a_iconst C (v := (1 : Int32)) (q := 113) dX8_readAct_112 rfl (by decide) ?_
      refine a_iadd C (q := 114) dX8_readAct_113 rfl ?_
      refine a_iald C (q := 115) (g := t_5.1 47) dX8_readAct_114 hf (by decide) rfl rfl (fun hf => ?_)
      refine a_i2l C (q := 116) dX8_readAct_115 rfl ?_
      refine a_lconst C (v := (0 : Int64)) (q := 117) dX8_readAct_116 rfl (by decide) ?_
      refine a_ldc2 C (v := (9 : Int64)) (q := 120) dX8_readAct_117 rfl k_1000 ?_
      refine a_callSI C (q := 123) (As := [.long ((t_5.1 47 ((v1 + (1 : Int32)).toNatClampNeg)).toInt64), .long (0 : Int64), .long (9 : Int64)]) (st := []) dX8_readAct_120 hR (by decide) hf (fun b => b) (fun _ => (s, t_5)) cw_X8_in (fun b hb => c_X8_in _ G s t_5 ((t_5.1 47 ((v1 + (1 : Int32)).toNatClampNeg)).toInt64) (0 : Int64) (9 : Int64) b hb) rfl rfl (Nat.le_of_ble_eq_true rfl) k_880 rfl (fun y_6 hf => ?_)
      refine a_if_ne C (tgt := 128) (q := 126) dX8_readAct_123 hf (by decide) rfl (fun hf => ?_) (fun hf => ?_)
      · refine a_aload_n C (i := 0) (q := 129) dX8_readAct_128 rfl 0 rfl rfl ?_
        refine a_dup C (q := 130) dX8_readAct_129 rfl rfl ?_
        refine a_get8 C (q := 133) dX8_readAct_130 18 (by decide) k_786 (by decide) rfl rfl rfl ?_
        refine a_iconst C (v := (1 : Int32)) (q := 134) dX8_readAct_133 rfl (by decide) ?_
        refine a_iadd C (q := 135) dX8_readAct_134 rfl ?_
        refine a_put8N C (q := 138) (mk := (fun z => (s, z))) dX8_readAct_135 hf 18 (by decide) k_786 (by decide) rfl rfl cellE_R1 rfl rfl rfl (Nat.le_of_ble_eq_true rfl) rfl (fun t_7 hf => ?_)
        refine a_iconst C (v := (1 : Int32)) (q := 139) dX8_readAct_138 rfl (by decide) ?_
        have hf := Option.some.inj hf; subst hf
        exact (show RetI F G Q cX8_readAct 3 .boolean (1 : Int32) (s, t_7) from hK) rfl _ _ dX8_readAct_139
      · refine a_iconst C (v := (0 : Int32)) (q := 127) dX8_readAct_126 rfl (by decide) ?_
        have hf := Option.some.inj hf; subst hf
        exact (show RetI F G Q cX8_readAct 3 .boolean (0 : Int32) (s, t_5) from hK) rfl _ _ dX8_readAct_127
  · refine a_aload_n C (i := 0) (q := 55) dX8_readAct_54 rfl 0 rfl rfl ?_
    refine a_get8 C (q := 58) dX8_readAct_55 20 (by decide) k_788 (by decide) rfl rfl rfl ?_
    refine a_iload_n C (i := 1) (q := 59) dX8_readAct_58 rfl 1 rfl rfl ?_
    refine a_iconst C (v := (1 : Int32)) (q := 60) dX8_readAct_59 rfl (by decide) ?_
    refine a_iadd C (q := 61) dX8_readAct_60 rfl ?_
    refine a_aload_n C (i := 0) (q := 62) dX8_readAct_61 rfl 0 rfl rfl ?_
    refine a_iconst C (v := (0 : Int32)) (q := 63) dX8_readAct_62 rfl (by decide) ?_
    refine a_bipush C (v := (99 : Int32)) (q := 65) dX8_readAct_63 rfl (by decide) ?_
    refine a_callVI C (q := 68) (As := [.int (0 : Int32), .int (99 : Int32)]) (st := [.int (v1 + (1 : Int32)), .ref (G.2.1 47)]) dX8_readAct_65 hR (by decide) hf (fun b => b.1) (fun b => (s, b.2)) (by decide) rfl rfl cw_X8_readNumber (fun b hb => c_X8_readNumber _ G n s t_3 (0 : Int32) (99 : Int32) b hb) rfl rfl (Nat.le_of_ble_eq_true rfl) k_982 rfl (fun y_8 hf => ?_)
    refine a_iastN C (q := 69) (mk := (fun z => (s, z))) dX8_readAct_68 hf (by decide) rfl rfl cellE_R1 rfl (fun t_9 hf => ?_)
    refine a_aload_n C (i := 0) (q := 70) dX8_readAct_69 rfl 0 rfl rfl ?_
    refine a_get8 C (q := 73) dX8_readAct_70 20 (by decide) k_788 (by decide) rfl rfl rfl ?_
    refine a_iload_n C (i := 1) (q := 74) dX8_readAct_73 rfl 1 rfl rfl ?_
    refine a_iconst C (v := (1 : Int32)) (q := 75) dX8_readAct_74 rfl (by decide) ?_
    refine a_iadd C (q := 76) dX8_readAct_75 rfl ?_
    refine a_iald C (q := 77) (g := t_9.1 47) dX8_readAct_76 hf (by decide) rfl rfl (fun hf => ?_)
    refine a_if_lt C (tgt := 84) (q := 80) dX8_readAct_77 hf (by decide) rfl (fun hf => ?_) (fun hf => ?_)
    · refine a_iconst C (v := (0 : Int32)) (q := 85) dX8_readAct_84 rfl (by decide) ?_
      have hf := Option.some.inj hf; subst hf
      exact (show RetI F G Q cX8_readAct 3 .boolean (0 : Int32) (s, t_9) from hK) rfl _ _ dX8_readAct_85
    · refine a_iconst C (v := (1 : Int32)) (q := 81) dX8_readAct_80 rfl (by decide) ?_
      refine a_goto C (q := 85) dX8_readAct_81 (by decide) ?_
      have hf := Option.some.inj hf; subst hf
      exact (show RetI F G Q cX8_readAct 3 .boolean (1 : Int32) (s, t_9) from hK) rfl _ _ dX8_readAct_85
def f_X8_readAct (n : Nat) (t : SR) (v1 : Int32) : Option (Int32 × SR) :=
  b1 (f_X8_nextByte n t) (fun y_1 => (if y_1.1 = (105 : Int32) then f_X8_readAct_31 n y_1.2 v1 y_1.1 else (if y_1.1 = (111 : Int32) then f_X8_readAct_31 n y_1.2 v1 y_1.1 else (if y_1.1 = (115 : Int32) then f_X8_readAct_31 n y_1.2 v1 y_1.1 else (if y_1.1 = (116 : Int32) then f_X8_readAct_31 n y_1.2 v1 y_1.1 else some ((0 : Int32), y_1.2))))))
set_option maxHeartbeats 4000000 in
theorem w_X8_readAct_e {F : FX} {G : GX} {Q : State → Prop} (C : Cx F G cX8_readAct 3 RX8) (hR : Rm F 4) (n : Nat) (s : MM) (t : SR)  (v1 : Int32) (res : Int32 × SR) (hf : f_X8_readAct n t v1 = some res) (hK : RetI F G Q cX8_readAct 3 .boolean res.1 (s, res.2)) : At F G Q 3 0 [(0, .ref (G.2.1 39)), (1, .int v1)] [] (s, t) := by
  unfold f_X8_readAct at hf
  refine a_aload_n C (i := 0) (q := 1) dX8_readAct_0 rfl 0 rfl rfl ?_
  refine a_callVI C (q := 4) (As := []) (st := []) dX8_readAct_1 hR (by decide) hf (fun b => b.1) (fun b => (s, b.2)) (by decide) rfl rfl cw_X8_nextByte (fun b hb => c_X8_nextByte _ G n s t b hb) rfl rfl (Nat.le_of_ble_eq_true rfl) k_978 rfl (fun y_1 hf => ?_)
  refine a_istore_n C (i := 2) (q := 5) (lv' := [(2, .int y_1.1), (0, .ref (G.2.1 39)), (1, .int v1)]) dX8_readAct_4 rfl (by decide) rfl rfl ?_
  refine a_iload_n C (i := 2) (q := 6) dX8_readAct_5 rfl 0 rfl rfl ?_
  refine a_bipush C (v := (105 : Int32)) (q := 8) dX8_readAct_6 rfl (by decide) ?_
  refine a_icmp_eq C (tgt := 31) (q := 11) dX8_readAct_8 hf (by decide) rfl (fun hf => ?_) (fun hf => ?_)
  · exact a_sub [1, 2, 0] rfl (w_X8_readAct_31 C hR n s y_1.2 v1 y_1.1 res hf hK)
  · refine a_iload_n C (i := 2) (q := 12) dX8_readAct_11 rfl 0 rfl rfl ?_
    refine a_bipush C (v := (111 : Int32)) (q := 14) dX8_readAct_12 rfl (by decide) ?_
    refine a_icmp_eq C (tgt := 31) (q := 17) dX8_readAct_14 hf (by decide) rfl (fun hf => ?_) (fun hf => ?_)
    · exact a_sub [1, 2, 0] rfl (w_X8_readAct_31 C hR n s y_1.2 v1 y_1.1 res hf hK)
    · refine a_iload_n C (i := 2) (q := 18) dX8_readAct_17 rfl 0 rfl rfl ?_
      refine a_bipush C (v := (115 : Int32)) (q := 20) dX8_readAct_18 rfl (by decide) ?_
      refine a_icmp_eq C (tgt := 31) (q := 23) dX8_readAct_20 hf (by decide) rfl (fun hf => ?_) (fun hf => ?_)
      · exact a_sub [1, 2, 0] rfl (w_X8_readAct_31 C hR n s y_1.2 v1 y_1.1 res hf hK)
      · refine a_iload_n C (i := 2) (q := 24) dX8_readAct_23 rfl 0 rfl rfl ?_
        refine a_bipush C (v := (116 : Int32)) (q := 26) dX8_readAct_24 rfl (by decide) ?_
        refine a_icmp_eq C (tgt := 31) (q := 29) dX8_readAct_26 hf (by decide) rfl (fun hf => ?_) (fun hf => ?_)
        · exact a_sub [1, 2, 0] rfl (w_X8_readAct_31 C hR n s y_1.2 v1 y_1.1 res hf hK)
        · refine a_iconst C (v := (0 : Int32)) (q := 30) dX8_readAct_29 rfl (by decide) ?_
          have hf := Option.some.inj hf; subst hf
          exact (show RetI F G Q cX8_readAct 3 .boolean (0 : Int32) (s, y_1.2) from hK) rfl _ _ dX8_readAct_30
theorem c_X8_readAct (l : Launch) (G : GX) (n : Nat) (s : MM) (t : SR) (v1 : Int32) (res : Int32 × SR) (hf : f_X8_readAct n t v1 = some res) : MetC l G yX8_readAct cX8_readAct 3 (some .boolean) 4 (s, t) [.ref (G.2.1 39), .int v1] (PostI G res.1 (s, res.2)) :=
  m_I (by decide) (Nat.le_of_ble_eq_true rfl) (fun F Q C h1 h2 h3 hK => w_X8_readAct_e C (Rm.of h1 h3) n s t v1 res hf hK)
theorem cw_X8_readEvening : CwV RX8 yX8_readEvening cX8_readEvening 2 0 (some .boolean) := ⟨k_995, k_994, kp_32, k_9, by decide +kernel, by decide⟩
def P_X8_readEvening_12 (F : FX) (G : GX) (Q : State → Prop) (s : MM) (v1 : Int32) (t : SR) : Prop := At F G Q 2 12 [(0, .ref (G.2.1 39)), (1, .int v1)] [] (s, t)
def E_X8_readEvening_12 (F : FX) (G : GX) (Q : State → Prop) (s : MM) : (Int32 × SR) ⊕ (SR) → Prop := fun q => match q with
  | .inl y => RetI F G Q cX8_readEvening 2 .boolean y.1 (s, y.2)
  | .inr t => At F G Q 2 77 [(0, .ref (G.2.1 39))] [] (s, t)
def f_X8_readEvening_55_in12 (n : Nat) (t : SR) (w0 : Int32) : Option (((Int32 × SR) ⊕ (SR)) ⊕ (Int32 × SR)) :=
  (if w0 = 0 then nm (sr1 t 39 18 ((t.1 39 18) + (0 : Int32))) (fun t_6 => some (.inr (w0, t_6))) else nm (sr1 t 39 18 ((t.1 39 18) + (1 : Int32))) (fun t_7 => some (.inr (w0, t_7))))
set_option maxHeartbeats 4000000 in
theorem w_X8_readEvening_55_in12 {F : FX} {G : GX} {Q : State → Prop} (C : Cx F G cX8_readEvening 2 RX8) (hR : Rm F 5) (n : Nat) (s : MM) (t : SR)  (w0 : Int32) (res : ((Int32 × SR) ⊕ (SR)) ⊕ (Int32 × SR)) (hf : f_X8_readEvening_55_in12 n t w0 = some res) (hK : Sum.elim (E_X8_readEvening_12 F G Q s) (fun q => match q with | (v1, t) => P_X8_readEvening_12 F G Q s v1 t) res) : At F G Q 2 55 [(0, .ref (G.2.1 39))] [.int w0] (s, t) := by
  unfold f_X8_readEvening_55_in12 at hf
  refine a_istore_n C (i := 1) (q := 56) (lv' := [(1, .int w0), (0, .ref (G.2.1 39))]) dX8_readEvening_55 rfl (by decide) rfl rfl ?_
  refine a_aload_n C (i := 0) (q := 57) dX8_readEvening_56 rfl 1 rfl rfl ?_
  refine a_dup C (q := 58) dX8_readEvening_57 rfl rfl ?_
  refine a_get8 C (q := 61) dX8_readEvening_58 18 (by decide) k_786 (by decide) rfl rfl rfl ?_
  refine a_iload_n C (i := 1) (q := 62) dX8_readEvening_61 rfl 0 rfl rfl ?_
  refine a_if_eq C (tgt := 69) (q := 65) dX8_readEvening_62 hf (by decide) rfl (fun hf => ?_) (fun hf => ?_)
  · refine a_iconst C (v := (0 : Int32)) (q := 70) dX8_readEvening_69 rfl (by decide) ?_
    refine a_iadd C (q := 71) dX8_readEvening_70 rfl ?_
    refine a_put8N C (q := 74) (mk := (fun z => (s, z))) dX8_readEvening_71 hf 18 (by decide) k_786 (by decide) rfl rfl cellE_R1 rfl rfl rfl (Nat.le_of_ble_eq_true rfl) rfl (fun t_6 hf => ?_)
    refine a_goto C (q := 12) dX8_readEvening_74 (by decide) ?_
    have hf := Option.some.inj hf; subst hf
    exact a_sub [1, 0] rfl (show At F G Q 2 12 [(0, .ref (G.2.1 39)), (1, .int w0)] [] (s, t_6) from hK)
  · refine a_iconst C (v := (1 : Int32)) (q := 66) dX8_readEvening_65 rfl (by decide) ?_
    refine a_goto C (q := 70) dX8_readEvening_66 (by decide) ?_
    refine a_iadd C (q := 71) dX8_readEvening_70 rfl ?_
    refine a_put8N C (q := 74) (mk := (fun z => (s, z))) dX8_readEvening_71 hf 18 (by decide) k_786 (by decide) rfl rfl cellE_R1 rfl rfl rfl (Nat.le_of_ble_eq_true rfl) rfl (fun t_7 hf => ?_)
    refine a_goto C (q := 12) dX8_readEvening_74 (by decide) ?_
    have hf := Option.some.inj hf; subst hf
    exact a_sub [1, 0] rfl (show At F G Q 2 12 [(0, .ref (G.2.1 39)), (1, .int w0)] [] (s, t_7) from hK)
def lb_X8_readEvening_12 (n : Nat) (v1 : Int32) (t : SR) : Option (((Int32 × SR) ⊕ (SR)) ⊕ (Int32 × SR)) :=
  (if v1 = 0 then some (.inl (.inr t)) else b1 (f_X8_readAct n t ((2 : Int32) * (t.1 39 19))) (fun y_3 => (if y_3.1 = 0 then some (.inl (.inl ((0 : Int32), y_3.2))) else nm (sr1 y_3.2 39 19 ((y_3.2.1 39 19) + (1 : Int32))) (fun t_4 => b1 (f_X8_nextByte n t_4) (fun y_5 => (if y_5.1 = (59 : Int32) then f_X8_readEvening_55_in12 n y_5.2 (1 : Int32) else f_X8_readEvening_55_in12 n y_5.2 (0 : Int32)))))))
set_option maxHeartbeats 4000000 in
theorem w_X8_readEvening_12 {F : FX} {G : GX} {Q : State → Prop} (C : Cx F G cX8_readEvening 2 RX8) (hR : Rm F 5) (n : Nat) (s : MM)  (v1 : Int32) (t : SR) (res : ((Int32 × SR) ⊕ (SR)) ⊕ (Int32 × SR)) (hf : lb_X8_readEvening_12 n v1 t = some res) (hK : Sum.elim (E_X8_readEvening_12 F G Q s) (fun q => match q with | (v1, t) => P_X8_readEvening_12 F G Q s v1 t) res) : P_X8_readEvening_12 F G Q s v1 t := by
  unfold lb_X8_readEvening_12 at hf
  show At F G Q 2 12 [(0, .ref (G.2.1 39)), (1, .int v1)] [] (s, t)
  refine a_iload_n C (i := 1) (q := 13) dX8_readEvening_12 rfl 1 rfl rfl ?_
  refine a_if_eq C (tgt := 77) (q := 16) dX8_readEvening_13 hf (by decide) rfl (fun hf => ?_) (fun hf => ?_)
  · have hf := Option.some.inj hf; subst hf
    exact a_sub [0] rfl (show At F G Q 2 77 [(0, .ref (G.2.1 39))] [] (s, t) from hK)
  · refine a_aload_n C (i := 0) (q := 17) dX8_readEvening_16 rfl 0 rfl rfl ?_
    refine a_iconst C (v := (2 : Int32)) (q := 18) dX8_readEvening_17 rfl (by decide) ?_
    refine a_aload_n C (i := 0) (q := 19) dX8_readEvening_18 rfl 0 rfl rfl ?_
    refine a_get8 C (q := 22) dX8_readEvening_19 19 (by decide) k_787 (by decide) rfl rfl rfl ?_
    refine a_imul C (q := 23) dX8_readEvening_22 rfl ?_
    refine a_callVI C (q := 26) (As := [.int ((2 : Int32) * (t.1 39 19))]) (st := []) dX8_readEvening_23 hR (by decide) hf (fun b => b.1) (fun b => (s, b.2)) (by decide) rfl rfl cw_X8_readAct (fun b hb => c_X8_readAct _ G n s t ((2 : Int32) * (t.1 39 19)) b hb) rfl rfl (Nat.le_of_ble_eq_true rfl) k_996 rfl (fun y_3 hf => ?_)
    refine a_if_ne C (tgt := 31) (q := 29) dX8_readEvening_26 hf (by decide) rfl (fun hf => ?_) (fun hf => ?_)
    · refine a_aload_n C (i := 0) (q := 32) dX8_readEvening_31 rfl 0 rfl rfl ?_
      refine a_dup C (q := 33) dX8_readEvening_32 rfl rfl ?_
      refine a_get8 C (q := 36) dX8_readEvening_33 19 (by decide) k_787 (by decide) rfl rfl rfl ?_
      refine a_iconst C (v := (1 : Int32)) (q := 37) dX8_readEvening_36 rfl (by decide) ?_
      refine a_iadd C (q := 38) dX8_readEvening_37 rfl ?_
      refine a_put8N C (q := 41) (mk := (fun z => (s, z))) dX8_readEvening_38 hf 19 (by decide) k_787 (by decide) rfl rfl cellE_R1 rfl rfl rfl (Nat.le_of_ble_eq_true rfl) rfl (fun t_4 hf => ?_)
      refine a_aload_n C (i := 0) (q := 42) dX8_readEvening_41 rfl 0 rfl rfl ?_
      refine a_callVI C (q := 45) (As := []) (st := []) dX8_readEvening_42 hR (by decide) hf (fun b => b.1) (fun b => (s, b.2)) (by decide) rfl rfl cw_X8_nextByte (fun b hb => c_X8_nextByte _ G n s t_4 b hb) rfl rfl (Nat.le_of_ble_eq_true rfl) k_978 rfl (fun y_5 hf => ?_)
      refine a_bipush C (v := (59 : Int32)) (q := 47) dX8_readEvening_45 rfl (by decide) ?_
      refine a_icmp_ne C (tgt := 54) (q := 50) dX8_readEvening_47 hf (by decide) rfl (fun hf => ?_) (fun hf => ?_)
      · refine a_iconst C (v := (0 : Int32)) (q := 55) dX8_readEvening_54 rfl (by decide) ?_
        exact a_sub [0] rfl (w_X8_readEvening_55_in12 C hR n s y_5.2 (0 : Int32) res hf hK)
      · refine a_iconst C (v := (1 : Int32)) (q := 51) dX8_readEvening_50 rfl (by decide) ?_
        refine a_goto C (q := 55) dX8_readEvening_51 (by decide) ?_
        exact a_sub [0] rfl (w_X8_readEvening_55_in12 C hR n s y_5.2 (1 : Int32) res hf hK)
    · refine a_iconst C (v := (0 : Int32)) (q := 30) dX8_readEvening_29 rfl (by decide) ?_
      have hf := Option.some.inj hf; subst hf
      exact (show RetI F G Q cX8_readEvening 2 .boolean (0 : Int32) (s, y_3.2) from hK) rfl _ _ dX8_readEvening_30
theorem lp_X8_readEvening_12 {F : FX} {G : GX} {Q : State → Prop} (C : Cx F G cX8_readEvening 2 RX8) (hR : Rm F 5) (n : Nat) (s : MM)  (v1 : Int32) (t : SR) (x : (Int32 × SR) ⊕ (SR)) (h : it2 (lb_X8_readEvening_12 n ) n v1 t = some x) (hE : E_X8_readEvening_12 F G Q s x) : At F G Q 2 12 [(0, .ref (G.2.1 39)), (1, .int v1)] [] (s, t) :=
  it2_ind (b := (lb_X8_readEvening_12 n )) (E := E_X8_readEvening_12 F G Q s) (P := fun v1 t => P_X8_readEvening_12 F G Q s v1 t) (fun v1 t res hf hK => w_X8_readEvening_12 C hR n s   v1 t res hf hK) n v1 t x h hE
def f_X8_readEvening (n : Nat) (t : SR) : Option (Int32 × SR) :=
  nm (sr1 t 39 18 (0 : Int32)) (fun t_1 => nm (sr1 t_1 39 19 (0 : Int32)) (fun t_2 => bR (it2 (lb_X8_readEvening_12 n ) n (1 : Int32) t_2) (fun y => some y) (fun t_8 => b1 (f_X8_nextByte n t_8) (fun y_9 => (if 0 ≤ y_9.1 then some ((0 : Int32), y_9.2) else some ((1 : Int32), y_9.2))))))
set_option maxHeartbeats 4000000 in
theorem w_X8_readEvening_e {F : FX} {G : GX} {Q : State → Prop} (C : Cx F G cX8_readEvening 2 RX8) (hR : Rm F 5) (n : Nat) (s : MM) (t : SR)   (res : Int32 × SR) (hf : f_X8_readEvening n t = some res) (hK : RetI F G Q cX8_readEvening 2 .boolean res.1 (s, res.2)) : At F G Q 2 0 [(0, .ref (G.2.1 39))] [] (s, t) := by
  unfold f_X8_readEvening at hf
  refine a_aload_n C (i := 0) (q := 1) dX8_readEvening_0 rfl 0 rfl rfl ?_
  refine a_iconst C (v := (0 : Int32)) (q := 2) dX8_readEvening_1 rfl (by decide) ?_
  refine a_put8N C (q := 5) (mk := (fun z => (s, z))) dX8_readEvening_2 hf 18 (by decide) k_786 (by decide) rfl rfl cellE_R1 rfl rfl rfl (Nat.le_of_ble_eq_true rfl) rfl (fun t_1 hf => ?_)
  refine a_aload_n C (i := 0) (q := 6) dX8_readEvening_5 rfl 0 rfl rfl ?_
  refine a_iconst C (v := (0 : Int32)) (q := 7) dX8_readEvening_6 rfl (by decide) ?_
  refine a_put8N C (q := 10) (mk := (fun z => (s, z))) dX8_readEvening_7 hf 19 (by decide) k_787 (by decide) rfl rfl cellE_R1 rfl rfl rfl (Nat.le_of_ble_eq_true rfl) rfl (fun t_2 hf => ?_)
  refine a_iconst C (v := (1 : Int32)) (q := 11) dX8_readEvening_10 rfl (by decide) ?_
  refine a_istore_n C (i := 1) (q := 12) (lv' := [(1, .int (1 : Int32)), (0, .ref (G.2.1 39))]) dX8_readEvening_11 rfl (by decide) rfl rfl ?_
  rcases bR_some hf with ⟨y, h1, hf⟩ | ⟨t_8, h1, hf⟩
  · refine a_sub [1, 0] rfl (lp_X8_readEvening_12 C hR n s  (1 : Int32) t_2 _ h1 ?_)
    have hf := Option.some.inj hf; subst hf
    exact hK
  · refine a_sub [1, 0] rfl (lp_X8_readEvening_12 C hR n s  (1 : Int32) t_2 _ h1 ?_)
    show At F G Q 2 77 [(0, .ref (G.2.1 39))] [] (s, t_8)
    refine a_aload_n C (i := 0) (q := 78) dX8_readEvening_77 rfl 0 rfl rfl ?_
    refine a_callVI C (q := 81) (As := []) (st := []) dX8_readEvening_78 hR (by decide) hf (fun b => b.1) (fun b => (s, b.2)) (by decide) rfl rfl cw_X8_nextByte (fun b hb => c_X8_nextByte _ G n s t_8 b hb) rfl rfl (Nat.le_of_ble_eq_true rfl) k_978 rfl (fun y_9 hf => ?_)
    refine a_if_ge C (tgt := 88) (q := 84) dX8_readEvening_81 hf (by decide) rfl (fun hf => ?_) (fun hf => ?_)
    · refine a_iconst C (v := (0 : Int32)) (q := 89) dX8_readEvening_88 rfl (by decide) ?_
      have hf := Option.some.inj hf; subst hf
      exact (show RetI F G Q cX8_readEvening 2 .boolean (0 : Int32) (s, y_9.2) from hK) rfl _ _ dX8_readEvening_89
    · refine a_iconst C (v := (1 : Int32)) (q := 85) dX8_readEvening_84 rfl (by decide) ?_
      refine a_goto C (q := 89) dX8_readEvening_85 (by decide) ?_
      have hf := Option.some.inj hf; subst hf
      exact (show RetI F G Q cX8_readEvening 2 .boolean (1 : Int32) (s, y_9.2) from hK) rfl _ _ dX8_readEvening_89
theorem c_X8_readEvening (l : Launch) (G : GX) (n : Nat) (s : MM) (t : SR)  (res : Int32 × SR) (hf : f_X8_readEvening n t = some res) : MetC l G yX8_readEvening cX8_readEvening 2 (some .boolean) 5 (s, t) [.ref (G.2.1 39)] (PostI G res.1 (s, res.2)) :=
  m_I (by decide) (Nat.le_of_ble_eq_true rfl) (fun F Q C h1 h2 h3 hK => w_X8_readEvening_e C (Rm.of h1 h3) n s t res hf hK)
theorem cw_X8_mayBoard : CwV RX8 yX8_mayBoard cX8_mayBoard 4 1 (some .boolean) := ⟨k_1012, k_1011, kp_35, k_9, by decide +kernel, by decide⟩
def f_X8_mayBoard (n : Nat) (t : SR) (v1 : Int32) : Option (Int32 × SR) :=
  ix v1 10 (nm (t.1 42 v1.toNatClampNeg) (fun v2_1 => ix v1 10 (nm (sr1 t 42 v1.toNatClampNeg (t.1 39 8)) (fun t_2 => b1 (f_X8_whoIn n t_2 (t_2.1 39 8)) (fun y_3 => b1 (f_X8_fits n t_2 y_3) (fun y_4 => (if y_4 = 0 then ix v1 10 (nm (sr1 t_2 42 v1.toNatClampNeg v2_1) (fun t_5 => some ((0 : Int32), t_5))) else b1 (f_X8_isEven n t_2) (fun y_6 => (if y_6.1 = 0 then ix v1 10 (nm (sr1 y_6.2 42 v1.toNatClampNeg v2_1) (fun t_7 => some ((0 : Int32), t_7))) else ix v1 10 (nm (sr1 y_6.2 42 v1.toNatClampNeg v2_1) (fun t_8 => some ((1 : Int32), t_8))))))))))))
set_option maxHeartbeats 4000000 in
theorem w_X8_mayBoard_e {F : FX} {G : GX} {Q : State → Prop} (C : Cx F G cX8_mayBoard 4 RX8) (hR : Rm F 6) (n : Nat) (s : MM) (t : SR)  (v1 : Int32) (res : Int32 × SR) (hf : f_X8_mayBoard n t v1 = some res) (hK : RetI F G Q cX8_mayBoard 4 .boolean res.1 (s, res.2)) : At F G Q 4 0 [(0, .ref (G.2.1 39)), (1, .int v1)] [] (s, t) := by
  unfold f_X8_mayBoard at hf
  refine a_aload_n C (i := 0) (q := 1) dX8_mayBoard_0 rfl 0 rfl rfl ?_
  refine a_get8 C (q := 4) dX8_mayBoard_1 2 (by decide) k_770 (by decide) rfl rfl rfl ?_
  refine a_iload_n C (i := 1) (q := 5) dX8_mayBoard_4 rfl 1 rfl rfl ?_
  refine a_iald C (q := 6) (g := t.1 42) dX8_mayBoard_5 hf (by decide) rfl rfl (fun hf => ?_)
  refine a_istore_nN C (i := 2) (q := 7) (lv' := fun z => [(2, .int z), (0, .ref (G.2.1 39)), (1, .int v1)]) dX8_mayBoard_6 hf rfl (by decide) (fun _ => rfl) rfl (fun v2_1 hf => ?_)
  refine a_aload_n C (i := 0) (q := 8) dX8_mayBoard_7 rfl 1 rfl rfl ?_
  refine a_get8 C (q := 11) dX8_mayBoard_8 2 (by decide) k_770 (by decide) rfl rfl rfl ?_
  refine a_iload_n C (i := 1) (q := 12) dX8_mayBoard_11 rfl 2 rfl rfl ?_
  refine a_aload_n C (i := 0) (q := 13) dX8_mayBoard_12 rfl 1 rfl rfl ?_
  refine a_get8 C (q := 16) dX8_mayBoard_13 8 (by decide) k_776 (by decide) rfl rfl rfl ?_
  refine a_iastN C (q := 17) (mk := (fun z => (s, z))) dX8_mayBoard_16 hf (by decide) rfl rfl cellE_R1 rfl (fun t_2 hf => ?_)
  refine a_aload_n C (i := 0) (q := 18) dX8_mayBoard_17 rfl 1 rfl rfl ?_
  refine a_aload_n C (i := 0) (q := 19) dX8_mayBoard_18 rfl 1 rfl rfl ?_
  refine a_aload_n C (i := 0) (q := 20) dX8_mayBoard_19 rfl 1 rfl rfl ?_
  refine a_get8 C (q := 23) dX8_mayBoard_20 8 (by decide) k_776 (by decide) rfl rfl rfl ?_
  refine a_callVI C (q := 26) (As := [.int (t_2.1 39 8)]) (st := [.ref (G.2.1 39)]) dX8_mayBoard_23 hR (by decide) hf (fun b => b) (fun _ => (s, t_2)) (by decide) rfl rfl cw_X8_whoIn (fun b hb => c_X8_whoIn _ G n s t_2 (t_2.1 39 8) b hb) rfl rfl (Nat.le_of_ble_eq_true rfl) k_904 rfl (fun y_3 hf => ?_)
  refine a_callVI C (q := 29) (As := [.int y_3]) (st := []) dX8_mayBoard_26 hR (by decide) hf (fun b => b) (fun _ => (s, t_2)) (by decide) rfl rfl cw_X8_fits (fun b hb => c_X8_fits _ G n s t_2 y_3 b hb) rfl rfl (Nat.le_of_ble_eq_true rfl) k_1013 rfl (fun y_4 hf => ?_)
  refine a_if_eq C (tgt := 43) (q := 32) dX8_mayBoard_29 hf (by decide) rfl (fun hf => ?_) (fun hf => ?_)
  · refine a_iconst C (v := (0 : Int32)) (q := 44) dX8_mayBoard_43 rfl (by decide) ?_
    refine a_istore_n C (i := 3) (q := 45) (lv' := [(3, .int (0 : Int32)), (2, .int v2_1), (0, .ref (G.2.1 39)), (1, .int v1)]) dX8_mayBoard_44 rfl (by decide) rfl rfl ?_
    refine a_aload_n C (i := 0) (q := 46) dX8_mayBoard_45 rfl 2 rfl rfl ?_
    refine a_get8 C (q := 49) dX8_mayBoard_46 2 (by decide) k_770 (by decide) rfl rfl rfl ?_
    refine a_iload_n C (i := 1) (q := 50) dX8_mayBoard_49 rfl 3 rfl rfl ?_
    refine a_iload_n C (i := 2) (q := 51) dX8_mayBoard_50 rfl 1 rfl rfl ?_
    refine a_iastN C (q := 52) (mk := (fun z => (s, z))) dX8_mayBoard_51 hf (by decide) rfl rfl cellE_R1 rfl (fun t_5 hf => ?_)
    refine a_iload_n C (i := 3) (q := 53) dX8_mayBoard_52 rfl 0 rfl rfl ?_
    have hf := Option.some.inj hf; subst hf
    exact (show RetI F G Q cX8_mayBoard 4 .boolean (0 : Int32) (s, t_5) from hK) rfl _ _ dX8_mayBoard_53
  · refine a_aload_n C (i := 0) (q := 33) dX8_mayBoard_32 rfl 1 rfl rfl ?_
    refine a_callVI C (q := 36) (As := []) (st := []) dX8_mayBoard_33 hR (by decide) hf (fun b => b.1) (fun b => (s, b.2)) (by decide) rfl rfl cw_X8_isEven (fun b hb => c_X8_isEven _ G n s t_2 b hb) rfl rfl (Nat.le_of_ble_eq_true rfl) k_924 rfl (fun y_6 hf => ?_)
    refine a_if_eq C (tgt := 43) (q := 39) dX8_mayBoard_36 hf (by decide) rfl (fun hf => ?_) (fun hf => ?_)
    · refine a_iconst C (v := (0 : Int32)) (q := 44) dX8_mayBoard_43 rfl (by decide) ?_
      refine a_istore_n C (i := 3) (q := 45) (lv' := [(3, .int (0 : Int32)), (2, .int v2_1), (0, .ref (G.2.1 39)), (1, .int v1)]) dX8_mayBoard_44 rfl (by decide) rfl rfl ?_
      refine a_aload_n C (i := 0) (q := 46) dX8_mayBoard_45 rfl 2 rfl rfl ?_
      refine a_get8 C (q := 49) dX8_mayBoard_46 2 (by decide) k_770 (by decide) rfl rfl rfl ?_
      refine a_iload_n C (i := 1) (q := 50) dX8_mayBoard_49 rfl 3 rfl rfl ?_
      refine a_iload_n C (i := 2) (q := 51) dX8_mayBoard_50 rfl 1 rfl rfl ?_
      refine a_iastN C (q := 52) (mk := (fun z => (s, z))) dX8_mayBoard_51 hf (by decide) rfl rfl cellE_R1 rfl (fun t_7 hf => ?_)
      refine a_iload_n C (i := 3) (q := 53) dX8_mayBoard_52 rfl 0 rfl rfl ?_
      have hf := Option.some.inj hf; subst hf
      exact (show RetI F G Q cX8_mayBoard 4 .boolean (0 : Int32) (s, t_7) from hK) rfl _ _ dX8_mayBoard_53
    · refine a_iconst C (v := (1 : Int32)) (q := 40) dX8_mayBoard_39 rfl (by decide) ?_
      refine a_goto C (q := 44) dX8_mayBoard_40 (by decide) ?_
      refine a_istore_n C (i := 3) (q := 45) (lv' := [(3, .int (1 : Int32)), (2, .int v2_1), (0, .ref (G.2.1 39)), (1, .int v1)]) dX8_mayBoard_44 rfl (by decide) rfl rfl ?_
      refine a_aload_n C (i := 0) (q := 46) dX8_mayBoard_45 rfl 2 rfl rfl ?_
      refine a_get8 C (q := 49) dX8_mayBoard_46 2 (by decide) k_770 (by decide) rfl rfl rfl ?_
      refine a_iload_n C (i := 1) (q := 50) dX8_mayBoard_49 rfl 3 rfl rfl ?_
      refine a_iload_n C (i := 2) (q := 51) dX8_mayBoard_50 rfl 1 rfl rfl ?_
      refine a_iastN C (q := 52) (mk := (fun z => (s, z))) dX8_mayBoard_51 hf (by decide) rfl rfl cellE_R1 rfl (fun t_8 hf => ?_)
      refine a_iload_n C (i := 3) (q := 53) dX8_mayBoard_52 rfl 0 rfl rfl ?_
      have hf := Option.some.inj hf; subst hf
      exact (show RetI F G Q cX8_mayBoard 4 .boolean (1 : Int32) (s, t_8) from hK) rfl _ _ dX8_mayBoard_53
theorem c_X8_mayBoard (l : Launch) (G : GX) (n : Nat) (s : MM) (t : SR) (v1 : Int32) (res : Int32 × SR) (hf : f_X8_mayBoard n t v1 = some res) : MetC l G yX8_mayBoard cX8_mayBoard 4 (some .boolean) 6 (s, t) [.ref (G.2.1 39), .int v1] (PostI G res.1 (s, res.2)) :=
  m_I (by decide) (Nat.le_of_ble_eq_true rfl) (fun F Q C h1 h2 h3 hK => w_X8_mayBoard_e C (Rm.of h1 h3) n s t v1 res hf hK)
theorem cw_X8_board : CwV RX8 yX8_board cX8_board 2 1 (some .int) := ⟨k_1008, k_1006, k_1007, k_9, by decide +kernel, by decide⟩
def f_X8_board (n : Nat) (t : SR) (v1 : Int32) : Option (Int32 × SR) :=
  b1 (f_X8_isOne t v1) (fun y_1 => (if y_1 = 0 then some ((-1 : Int32), t) else ix v1 10 ((if (t.1 42 v1.toNatClampNeg) = (12 : Int32) then b1 (f_X8_mayBoard n t v1) (fun y_2 => (if y_2.1 = 0 then some ((-2 : Int32), y_2.2) else ix v1 10 (nm (sr1 y_2.2 42 v1.toNatClampNeg (y_2.2.1 39 8)) (fun t_3 => ix v1 10 (nm (sr1 t_3 43 v1.toNatClampNeg (t_3.1 39 7)) (fun t_4 => b1 (f_X8_whoIn n t_4 (t_4.1 39 8)) (fun y_5 => b1 (f_X8_seatsOf n t_4 y_5) (fun y_6 => some (y_6, t_4))))))))) else some ((-1 : Int32), t)))))
set_option maxHeartbeats 4000000 in
theorem w_X8_board_e {F : FX} {G : GX} {Q : State → Prop} (C : Cx F G cX8_board 2 RX8) (hR : Rm F 7) (n : Nat) (s : MM) (t : SR)  (v1 : Int32) (res : Int32 × SR) (hf : f_X8_board n t v1 = some res) (hK : RetI F G Q cX8_board 2 .int res.1 (s, res.2)) : At F G Q 2 0 [(0, .ref (G.2.1 39)), (1, .int v1)] [] (s, t) := by
  unfold f_X8_board at hf
  refine a_aload_n C (i := 0) (q := 1) dX8_board_0 rfl 0 rfl rfl ?_
  refine a_iload_n C (i := 1) (q := 2) dX8_board_1 rfl 1 rfl rfl ?_
  refine a_callVI C (q := 5) (As := [.int v1]) (st := []) dX8_board_2 hR (by decide) hf (fun b => b) (fun _ => (s, t)) (by decide) rfl rfl cw_X8_isOne (fun b hb => c_X8_isOne _ G s t v1 b hb) rfl rfl (Nat.le_of_ble_eq_true rfl) k_892 rfl (fun y_1 hf => ?_)
  refine a_if_eq C (tgt := 19) (q := 8) dX8_board_5 hf (by decide) rfl (fun hf => ?_) (fun hf => ?_)
  · refine a_iconst C (v := (-1 : Int32)) (q := 20) dX8_board_19 rfl (by decide) ?_
    have hf := Option.some.inj hf; subst hf
    exact (show RetI F G Q cX8_board 2 .int (-1 : Int32) (s, t) from hK) rfl _ _ dX8_board_20
  · refine a_aload_n C (i := 0) (q := 9) dX8_board_8 rfl 0 rfl rfl ?_
    refine a_get8 C (q := 12) dX8_board_9 2 (by decide) k_770 (by decide) rfl rfl rfl ?_
    refine a_iload_n C (i := 1) (q := 13) dX8_board_12 rfl 1 rfl rfl ?_
    refine a_iald C (q := 14) (g := t.1 42) dX8_board_13 hf (by decide) rfl rfl (fun hf => ?_)
    refine a_bipush C (v := (12 : Int32)) (q := 16) dX8_board_14 rfl (by decide) ?_
    refine a_icmp_eq C (tgt := 21) (q := 19) dX8_board_16 hf (by decide) rfl (fun hf => ?_) (fun hf => ?_)
    · refine a_aload_n C (i := 0) (q := 22) dX8_board_21 rfl 0 rfl rfl ?_
      refine a_iload_n C (i := 1) (q := 23) dX8_board_22 rfl 1 rfl rfl ?_
      refine a_callVI C (q := 26) (As := [.int v1]) (st := []) dX8_board_23 hR (by decide) hf (fun b => b.1) (fun b => (s, b.2)) (by decide) rfl rfl cw_X8_mayBoard (fun b hb => c_X8_mayBoard _ G n s t v1 b hb) rfl rfl (Nat.le_of_ble_eq_true rfl) k_1009 rfl (fun y_2 hf => ?_)
      refine a_if_ne C (tgt := 32) (q := 29) dX8_board_26 hf (by decide) rfl (fun hf => ?_) (fun hf => ?_)
      · refine a_aload_n C (i := 0) (q := 33) dX8_board_32 rfl 0 rfl rfl ?_
        refine a_get8 C (q := 36) dX8_board_33 2 (by decide) k_770 (by decide) rfl rfl rfl ?_
        refine a_iload_n C (i := 1) (q := 37) dX8_board_36 rfl 1 rfl rfl ?_
        refine a_aload_n C (i := 0) (q := 38) dX8_board_37 rfl 0 rfl rfl ?_
        refine a_get8 C (q := 41) dX8_board_38 8 (by decide) k_776 (by decide) rfl rfl rfl ?_
        refine a_iastN C (q := 42) (mk := (fun z => (s, z))) dX8_board_41 hf (by decide) rfl rfl cellE_R1 rfl (fun t_3 hf => ?_)
        refine a_aload_n C (i := 0) (q := 43) dX8_board_42 rfl 0 rfl rfl ?_
        refine a_get8 C (q := 46) dX8_board_43 3 (by decide) k_771 (by decide) rfl rfl rfl ?_
        refine a_iload_n C (i := 1) (q := 47) dX8_board_46 rfl 1 rfl rfl ?_
        refine a_aload_n C (i := 0) (q := 48) dX8_board_47 rfl 0 rfl rfl ?_
        refine a_get8 C (q := 51) dX8_board_48 7 (by decide) k_775 (by decide) rfl rfl rfl ?_
        refine a_iastN C (q := 52) (mk := (fun z => (s, z))) dX8_board_51 hf (by decide) rfl rfl cellE_R1 rfl (fun t_4 hf => ?_)
        refine a_aload_n C (i := 0) (q := 53) dX8_board_52 rfl 0 rfl rfl ?_
        refine a_aload_n C (i := 0) (q := 54) dX8_board_53 rfl 0 rfl rfl ?_
        refine a_aload_n C (i := 0) (q := 55) dX8_board_54 rfl 0 rfl rfl ?_
        refine a_get8 C (q := 58) dX8_board_55 8 (by decide) k_776 (by decide) rfl rfl rfl ?_
        refine a_callVI C (q := 61) (As := [.int (t_4.1 39 8)]) (st := [.ref (G.2.1 39)]) dX8_board_58 hR (by decide) hf (fun b => b) (fun _ => (s, t_4)) (by decide) rfl rfl cw_X8_whoIn (fun b hb => c_X8_whoIn _ G n s t_4 (t_4.1 39 8) b hb) rfl rfl (Nat.le_of_ble_eq_true rfl) k_904 rfl (fun y_5 hf => ?_)
        refine a_callVI C (q := 64) (As := [.int y_5]) (st := []) dX8_board_61 hR (by decide) hf (fun b => b) (fun _ => (s, t_4)) (by decide) rfl rfl cw_X8_seatsOf (fun b hb => c_X8_seatsOf _ G n s t_4 y_5 b hb) rfl rfl (Nat.le_of_ble_eq_true rfl) k_915 rfl (fun y_6 hf => ?_)
        have hf := Option.some.inj hf; subst hf
        exact (show RetI F G Q cX8_board 2 .int y_6 (s, t_4) from hK) rfl _ _ dX8_board_64
      · refine a_bipush C (v := (-2 : Int32)) (q := 31) dX8_board_29 rfl (by decide) ?_
        have hf := Option.some.inj hf; subst hf
        exact (show RetI F G Q cX8_board 2 .int (-2 : Int32) (s, y_2.2) from hK) rfl _ _ dX8_board_31
    · refine a_iconst C (v := (-1 : Int32)) (q := 20) dX8_board_19 rfl (by decide) ?_
      have hf := Option.some.inj hf; subst hf
      exact (show RetI F G Q cX8_board 2 .int (-1 : Int32) (s, t) from hK) rfl _ _ dX8_board_20
theorem c_X8_board (l : Launch) (G : GX) (n : Nat) (s : MM) (t : SR) (v1 : Int32) (res : Int32 × SR) (hf : f_X8_board n t v1 = some res) : MetC l G yX8_board cX8_board 2 (some .int) 7 (s, t) [.ref (G.2.1 39), .int v1] (PostI G res.1 (s, res.2)) :=
  m_I (by decide) (Nat.le_of_ble_eq_true rfl) (fun F Q C h1 h2 h3 hK => w_X8_board_e C (Rm.of h1 h3) n s t v1 res hf hK)
theorem cw_X8_mayLeave : CwV RX8 yX8_mayLeave cX8_mayLeave 3 1 (some .boolean) := ⟨k_1024, k_1023, kp_37, k_9, by decide +kernel, by decide⟩
def f_X8_mayLeave (n : Nat) (t : SR) (v1 : Int32) : Option (Int32 × SR) :=
  ix v1 10 (nm (sr1 t 42 v1.toNatClampNeg (13 : Int32)) (fun t_1 => b1 (f_X8_whoIn n t_1 (t_1.1 39 8)) (fun y_2 => b1 (f_X8_fits n t_1 y_2) (fun y_3 => (if y_3 = 0 then ix v1 10 (nm (sr1 t_1 42 v1.toNatClampNeg (t_1.1 39 8)) (fun t_4 => some ((0 : Int32), t_4))) else b1 (f_X8_isEven n t_1) (fun y_5 => (if y_5.1 = 0 then ix v1 10 (nm (sr1 y_5.2 42 v1.toNatClampNeg (y_5.2.1 39 8)) (fun t_6 => some ((0 : Int32), t_6))) else ix v1 10 (nm (sr1 y_5.2 42 v1.toNatClampNeg (y_5.2.1 39 8)) (fun t_7 => some ((1 : Int32), t_7))))))))))
set_option maxHeartbeats 4000000 in
theorem w_X8_mayLeave_e {F : FX} {G : GX} {Q : State → Prop} (C : Cx F G cX8_mayLeave 3 RX8) (hR : Rm F 6) (n : Nat) (s : MM) (t : SR)  (v1 : Int32) (res : Int32 × SR) (hf : f_X8_mayLeave n t v1 = some res) (hK : RetI F G Q cX8_mayLeave 3 .boolean res.1 (s, res.2)) : At F G Q 3 0 [(0, .ref (G.2.1 39)), (1, .int v1)] [] (s, t) := by
  unfold f_X8_mayLeave at hf
  refine a_aload_n C (i := 0) (q := 1) dX8_mayLeave_0 rfl 0 rfl rfl ?_
  refine a_get8 C (q := 4) dX8_mayLeave_1 2 (by decide) k_770 (by decide) rfl rfl rfl ?_
  refine a_iload_n C (i := 1) (q := 5) dX8_mayLeave_4 rfl 1 rfl rfl ?_
  refine a_bipush C (v := (13 : Int32)) (q := 7) dX8_mayLeave_5 rfl (by decide) ?_
  refine a_iastN C (q := 8) (mk := (fun z => (s, z))) dX8_mayLeave_7 hf (by decide) rfl rfl cellE_R1 rfl (fun t_1 hf => ?_)
  refine a_aload_n C (i := 0) (q := 9) dX8_mayLeave_8 rfl 0 rfl rfl ?_
  refine a_aload_n C (i := 0) (q := 10) dX8_mayLeave_9 rfl 0 rfl rfl ?_
  refine a_aload_n C (i := 0) (q := 11) dX8_mayLeave_10 rfl 0 rfl rfl ?_
  refine a_get8 C (q := 14) dX8_mayLeave_11 8 (by decide) k_776 (by decide) rfl rfl rfl ?_
  refine a_callVI C (q := 17) (As := [.int (t_1.1 39 8)]) (st := [.ref (G.2.1 39)]) dX8_mayLeave_14 hR (by decide) hf (fun b => b) (fun _ => (s, t_1)) (by decide) rfl rfl cw_X8_whoIn (fun b hb => c_X8_whoIn _ G n s t_1 (t_1.1 39 8) b hb) rfl rfl (Nat.le_of_ble_eq_true rfl) k_904 rfl (fun y_2 hf => ?_)
  refine a_callVI C (q := 20) (As := [.int y_2]) (st := []) dX8_mayLeave_17 hR (by decide) hf (fun b => b) (fun _ => (s, t_1)) (by decide) rfl rfl cw_X8_fits (fun b hb => c_X8_fits _ G n s t_1 y_2 b hb) rfl rfl (Nat.le_of_ble_eq_true rfl) k_1013 rfl (fun y_3 hf => ?_)
  refine a_if_eq C (tgt := 34) (q := 23) dX8_mayLeave_20 hf (by decide) rfl (fun hf => ?_) (fun hf => ?_)
  · refine a_iconst C (v := (0 : Int32)) (q := 35) dX8_mayLeave_34 rfl (by decide) ?_
    refine a_istore_n C (i := 2) (q := 36) (lv' := [(2, .int (0 : Int32)), (0, .ref (G.2.1 39)), (1, .int v1)]) dX8_mayLeave_35 rfl (by decide) rfl rfl ?_
    refine a_aload_n C (i := 0) (q := 37) dX8_mayLeave_36 rfl 1 rfl rfl ?_
    refine a_get8 C (q := 40) dX8_mayLeave_37 2 (by decide) k_770 (by decide) rfl rfl rfl ?_
    refine a_iload_n C (i := 1) (q := 41) dX8_mayLeave_40 rfl 2 rfl rfl ?_
    refine a_aload_n C (i := 0) (q := 42) dX8_mayLeave_41 rfl 1 rfl rfl ?_
    refine a_get8 C (q := 45) dX8_mayLeave_42 8 (by decide) k_776 (by decide) rfl rfl rfl ?_
    refine a_iastN C (q := 46) (mk := (fun z => (s, z))) dX8_mayLeave_45 hf (by decide) rfl rfl cellE_R1 rfl (fun t_4 hf => ?_)
    refine a_iload_n C (i := 2) (q := 47) dX8_mayLeave_46 rfl 0 rfl rfl ?_
    have hf := Option.some.inj hf; subst hf
    exact (show RetI F G Q cX8_mayLeave 3 .boolean (0 : Int32) (s, t_4) from hK) rfl _ _ dX8_mayLeave_47
  · refine a_aload_n C (i := 0) (q := 24) dX8_mayLeave_23 rfl 0 rfl rfl ?_
    refine a_callVI C (q := 27) (As := []) (st := []) dX8_mayLeave_24 hR (by decide) hf (fun b => b.1) (fun b => (s, b.2)) (by decide) rfl rfl cw_X8_isEven (fun b hb => c_X8_isEven _ G n s t_1 b hb) rfl rfl (Nat.le_of_ble_eq_true rfl) k_924 rfl (fun y_5 hf => ?_)
    refine a_if_eq C (tgt := 34) (q := 30) dX8_mayLeave_27 hf (by decide) rfl (fun hf => ?_) (fun hf => ?_)
    · refine a_iconst C (v := (0 : Int32)) (q := 35) dX8_mayLeave_34 rfl (by decide) ?_
      refine a_istore_n C (i := 2) (q := 36) (lv' := [(2, .int (0 : Int32)), (0, .ref (G.2.1 39)), (1, .int v1)]) dX8_mayLeave_35 rfl (by decide) rfl rfl ?_
      refine a_aload_n C (i := 0) (q := 37) dX8_mayLeave_36 rfl 1 rfl rfl ?_
      refine a_get8 C (q := 40) dX8_mayLeave_37 2 (by decide) k_770 (by decide) rfl rfl rfl ?_
      refine a_iload_n C (i := 1) (q := 41) dX8_mayLeave_40 rfl 2 rfl rfl ?_
      refine a_aload_n C (i := 0) (q := 42) dX8_mayLeave_41 rfl 1 rfl rfl ?_
      refine a_get8 C (q := 45) dX8_mayLeave_42 8 (by decide) k_776 (by decide) rfl rfl rfl ?_
      refine a_iastN C (q := 46) (mk := (fun z => (s, z))) dX8_mayLeave_45 hf (by decide) rfl rfl cellE_R1 rfl (fun t_6 hf => ?_)
      refine a_iload_n C (i := 2) (q := 47) dX8_mayLeave_46 rfl 0 rfl rfl ?_
      have hf := Option.some.inj hf; subst hf
      exact (show RetI F G Q cX8_mayLeave 3 .boolean (0 : Int32) (s, t_6) from hK) rfl _ _ dX8_mayLeave_47
    · refine a_iconst C (v := (1 : Int32)) (q := 31) dX8_mayLeave_30 rfl (by decide) ?_
      refine a_goto C (q := 35) dX8_mayLeave_31 (by decide) ?_
      refine a_istore_n C (i := 2) (q := 36) (lv' := [(2, .int (1 : Int32)), (0, .ref (G.2.1 39)), (1, .int v1)]) dX8_mayLeave_35 rfl (by decide) rfl rfl ?_
      refine a_aload_n C (i := 0) (q := 37) dX8_mayLeave_36 rfl 1 rfl rfl ?_
      refine a_get8 C (q := 40) dX8_mayLeave_37 2 (by decide) k_770 (by decide) rfl rfl rfl ?_
      refine a_iload_n C (i := 1) (q := 41) dX8_mayLeave_40 rfl 2 rfl rfl ?_
      refine a_aload_n C (i := 0) (q := 42) dX8_mayLeave_41 rfl 1 rfl rfl ?_
      refine a_get8 C (q := 45) dX8_mayLeave_42 8 (by decide) k_776 (by decide) rfl rfl rfl ?_
      refine a_iastN C (q := 46) (mk := (fun z => (s, z))) dX8_mayLeave_45 hf (by decide) rfl rfl cellE_R1 rfl (fun t_7 hf => ?_)
      refine a_iload_n C (i := 2) (q := 47) dX8_mayLeave_46 rfl 0 rfl rfl ?_
      have hf := Option.some.inj hf; subst hf
      exact (show RetI F G Q cX8_mayLeave 3 .boolean (1 : Int32) (s, t_7) from hK) rfl _ _ dX8_mayLeave_47
theorem c_X8_mayLeave (l : Launch) (G : GX) (n : Nat) (s : MM) (t : SR) (v1 : Int32) (res : Int32 × SR) (hf : f_X8_mayLeave n t v1 = some res) : MetC l G yX8_mayLeave cX8_mayLeave 3 (some .boolean) 6 (s, t) [.ref (G.2.1 39), .int v1] (PostI G res.1 (s, res.2)) :=
  m_I (by decide) (Nat.le_of_ble_eq_true rfl) (fun F Q C h1 h2 h3 hK => w_X8_mayLeave_e C (Rm.of h1 h3) n s t v1 res hf hK)
theorem cw_X8_leave : CwV RX8 yX8_leave cX8_leave 2 1 (some .int) := ⟨k_1020, k_1018, k_1019, k_9, by decide +kernel, by decide⟩
def f_X8_leave (n : Nat) (t : SR) (v1 : Int32) : Option (Int32 × SR) :=
  b1 (f_X8_isOne t v1) (fun y_1 => (if y_1 = 0 then some ((-1 : Int32), t) else ix v1 10 ((if (t.1 42 v1.toNatClampNeg) = (t.1 39 8) then b1 (f_X8_mayLeave n t v1) (fun y_2 => (if y_2.1 = 0 then some ((-2 : Int32), y_2.2) else ix v1 10 (nm (sr1 y_2.2 42 v1.toNatClampNeg (13 : Int32)) (fun t_3 => ix v1 10 (some ((t_3.1 39 7) - (t_3.1 43 v1.toNatClampNeg), t_3)))))) else some ((-1 : Int32), t)))))
set_option maxHeartbeats 4000000 in
theorem w_X8_leave_e {F : FX} {G : GX} {Q : State → Prop} (C : Cx F G cX8_leave 2 RX8) (hR : Rm F 7) (n : Nat) (s : MM) (t : SR)  (v1 : Int32) (res : Int32 × SR) (hf : f_X8_leave n t v1 = some res) (hK : RetI F G Q cX8_leave 2 .int res.1 (s, res.2)) : At F G Q 2 0 [(0, .ref (G.2.1 39)), (1, .int v1)] [] (s, t) := by
  unfold f_X8_leave at hf
  refine a_aload_n C (i := 0) (q := 1) dX8_leave_0 rfl 0 rfl rfl ?_
  refine a_iload_n C (i := 1) (q := 2) dX8_leave_1 rfl 1 rfl rfl ?_
  refine a_callVI C (q := 5) (As := [.int v1]) (st := []) dX8_leave_2 hR (by decide) hf (fun b => b) (fun _ => (s, t)) (by decide) rfl rfl cw_X8_isOne (fun b hb => c_X8_isOne _ G s t v1 b hb) rfl rfl (Nat.le_of_ble_eq_true rfl) k_892 rfl (fun y_1 hf => ?_)
  refine a_if_eq C (tgt := 21) (q := 8) dX8_leave_5 hf (by decide) rfl (fun hf => ?_) (fun hf => ?_)
  · refine a_iconst C (v := (-1 : Int32)) (q := 22) dX8_leave_21 rfl (by decide) ?_
    have hf := Option.some.inj hf; subst hf
    exact (show RetI F G Q cX8_leave 2 .int (-1 : Int32) (s, t) from hK) rfl _ _ dX8_leave_22
  · refine a_aload_n C (i := 0) (q := 9) dX8_leave_8 rfl 0 rfl rfl ?_
    refine a_get8 C (q := 12) dX8_leave_9 2 (by decide) k_770 (by decide) rfl rfl rfl ?_
    refine a_iload_n C (i := 1) (q := 13) dX8_leave_12 rfl 1 rfl rfl ?_
    refine a_iald C (q := 14) (g := t.1 42) dX8_leave_13 hf (by decide) rfl rfl (fun hf => ?_)
    refine a_aload_n C (i := 0) (q := 15) dX8_leave_14 rfl 0 rfl rfl ?_
    refine a_get8 C (q := 18) dX8_leave_15 8 (by decide) k_776 (by decide) rfl rfl rfl ?_
    refine a_icmp_eq C (tgt := 23) (q := 21) dX8_leave_18 hf (by decide) rfl (fun hf => ?_) (fun hf => ?_)
    · refine a_aload_n C (i := 0) (q := 24) dX8_leave_23 rfl 0 rfl rfl ?_
      refine a_iload_n C (i := 1) (q := 25) dX8_leave_24 rfl 1 rfl rfl ?_
      refine a_callVI C (q := 28) (As := [.int v1]) (st := []) dX8_leave_25 hR (by decide) hf (fun b => b.1) (fun b => (s, b.2)) (by decide) rfl rfl cw_X8_mayLeave (fun b hb => c_X8_mayLeave _ G n s t v1 b hb) rfl rfl (Nat.le_of_ble_eq_true rfl) k_1021 rfl (fun y_2 hf => ?_)
      refine a_if_ne C (tgt := 34) (q := 31) dX8_leave_28 hf (by decide) rfl (fun hf => ?_) (fun hf => ?_)
      · refine a_aload_n C (i := 0) (q := 35) dX8_leave_34 rfl 0 rfl rfl ?_
        refine a_get8 C (q := 38) dX8_leave_35 2 (by decide) k_770 (by decide) rfl rfl rfl ?_
        refine a_iload_n C (i := 1) (q := 39) dX8_leave_38 rfl 1 rfl rfl ?_
        refine a_bipush C (v := (13 : Int32)) (q := 41) dX8_leave_39 rfl (by decide) ?_
        refine a_iastN C (q := 42) (mk := (fun z => (s, z))) dX8_leave_41 hf (by decide) rfl rfl cellE_R1 rfl (fun t_3 hf => ?_)
        refine a_aload_n C (i := 0) (q := 43) dX8_leave_42 rfl 0 rfl rfl ?_
        refine a_get8 C (q := 46) dX8_leave_43 7 (by decide) k_775 (by decide) rfl rfl rfl ?_
        refine a_aload_n C (i := 0) (q := 47) dX8_leave_46 rfl 0 rfl rfl ?_
        refine a_get8 C (q := 50) dX8_leave_47 3 (by decide) k_771 (by decide) rfl rfl rfl ?_
        refine a_iload_n C (i := 1) (q := 51) dX8_leave_50 rfl 1 rfl rfl ?_
        refine a_iald C (q := 52) (g := t_3.1 43) dX8_leave_51 hf (by decide) rfl rfl (fun hf => ?_)
        refine a_isub C (q := 53) dX8_leave_52 rfl ?_
        have hf := Option.some.inj hf; subst hf
        exact (show RetI F G Q cX8_leave 2 .int ((t_3.1 39 7) - (t_3.1 43 v1.toNatClampNeg)) (s, t_3) from hK) rfl _ _ dX8_leave_53
      · refine a_bipush C (v := (-2 : Int32)) (q := 33) dX8_leave_31 rfl (by decide) ?_
        have hf := Option.some.inj hf; subst hf
        exact (show RetI F G Q cX8_leave 2 .int (-2 : Int32) (s, y_2.2) from hK) rfl _ _ dX8_leave_33
    · refine a_iconst C (v := (-1 : Int32)) (q := 22) dX8_leave_21 rfl (by decide) ?_
      have hf := Option.some.inj hf; subst hf
      exact (show RetI F G Q cX8_leave 2 .int (-1 : Int32) (s, t) from hK) rfl _ _ dX8_leave_22
theorem c_X8_leave (l : Launch) (G : GX) (n : Nat) (s : MM) (t : SR) (v1 : Int32) (res : Int32 × SR) (hf : f_X8_leave n t v1 = some res) : MetC l G yX8_leave cX8_leave 2 (some .int) 7 (s, t) [.ref (G.2.1 39), .int v1] (PostI G res.1 (s, res.2)) :=
  m_I (by decide) (Nat.le_of_ble_eq_true rfl) (fun F Q C h1 h2 h3 hK => w_X8_leave_e C (Rm.of h1 h3) n s t v1 res hf hK)
theorem cw_X8_sand : CwV RX8 yX8_sand cX8_sand 3 1 (some .int) := ⟨k_1028, k_1026, k_1027, k_9, by decide +kernel, by decide⟩
def f_X8_sand (n : Nat) (t : SR) (v1 : Int32) : Option (Int32 × SR) :=
  b1 (f_X8_in v1.toInt64 (0 : Int64) (99 : Int64)) (fun y_1 => (if y_1 = 0 then some ((-1 : Int32), t) else ix (t.1 39 8) 12 (nm (t.1 44 ((t.1 39 8).toNatClampNeg)) (fun v2_2 => ix (t.1 39 8) 12 (nm (sr1 t 44 ((t.1 39 8).toNatClampNeg) v1) (fun t_3 => b1 (f_X8_isEven n t_3) (fun y_4 => (if y_4.1 = 0 then ix (y_4.2.1 39 8) 12 (nm (sr1 y_4.2 44 ((y_4.2.1 39 8).toNatClampNeg) v2_2) (fun t_5 => some ((-2 : Int32), t_5))) else some (v2_2, y_4.2)))))))))
set_option maxHeartbeats 4000000 in
theorem w_X8_sand_e {F : FX} {G : GX} {Q : State → Prop} (C : Cx F G cX8_sand 3 RX8) (hR : Rm F 6) (n : Nat) (s : MM) (t : SR)  (v1 : Int32) (res : Int32 × SR) (hf : f_X8_sand n t v1 = some res) (hK : RetI F G Q cX8_sand 3 .int res.1 (s, res.2)) : At F G Q 3 0 [(0, .ref (G.2.1 39)), (1, .int v1)] [] (s, t) := by
  unfold f_X8_sand at hf
  refine a_iload_n C (i := 1) (q := 1) dX8_sand_0 rfl 1 rfl rfl ?_
  refine a_i2l C (q := 2) dX8_sand_1 rfl ?_
  refine a_lconst C (v := (0 : Int64)) (q := 3) dX8_sand_2 rfl (by decide) ?_
  refine a_ldc2 C (v := (99 : Int64)) (q := 6) dX8_sand_3 rfl k_883 ?_
  refine a_callSI C (q := 9) (As := [.long v1.toInt64, .long (0 : Int64), .long (99 : Int64)]) (st := []) dX8_sand_6 hR (by decide) hf (fun b => b) (fun _ => (s, t)) cw_X8_in (fun b hb => c_X8_in _ G s t v1.toInt64 (0 : Int64) (99 : Int64) b hb) rfl rfl (Nat.le_of_ble_eq_true rfl) k_880 rfl (fun y_1 hf => ?_)
  refine a_if_ne C (tgt := 14) (q := 12) dX8_sand_9 hf (by decide) rfl (fun hf => ?_) (fun hf => ?_)
  · refine a_aload_n C (i := 0) (q := 15) dX8_sand_14 rfl 0 rfl rfl ?_
    refine a_get8 C (q := 18) dX8_sand_15 5 (by decide) k_773 (by decide) rfl rfl rfl ?_
    refine a_aload_n C (i := 0) (q := 19) dX8_sand_18 rfl 0 rfl rfl ?_
    refine a_get8 C (q := 22) dX8_sand_19 8 (by decide) k_776 (by decide) rfl rfl rfl ?_
    refine a_iald C (q := 23) (g := t.1 44) dX8_sand_22 hf (by decide) rfl rfl (fun hf => ?_)
    refine a_istore_nN C (i := 2) (q := 24) (lv' := fun z => [(2, .int z), (0, .ref (G.2.1 39)), (1, .int v1)]) dX8_sand_23 hf rfl (by decide) (fun _ => rfl) rfl (fun v2_2 hf => ?_)
    refine a_aload_n C (i := 0) (q := 25) dX8_sand_24 rfl 1 rfl rfl ?_
    refine a_get8 C (q := 28) dX8_sand_25 5 (by decide) k_773 (by decide) rfl rfl rfl ?_
    refine a_aload_n C (i := 0) (q := 29) dX8_sand_28 rfl 1 rfl rfl ?_
    refine a_get8 C (q := 32) dX8_sand_29 8 (by decide) k_776 (by decide) rfl rfl rfl ?_
    refine a_iload_n C (i := 1) (q := 33) dX8_sand_32 rfl 2 rfl rfl ?_
    refine a_iastN C (q := 34) (mk := (fun z => (s, z))) dX8_sand_33 hf (by decide) rfl rfl cellE_R1 rfl (fun t_3 hf => ?_)
    refine a_aload_n C (i := 0) (q := 35) dX8_sand_34 rfl 1 rfl rfl ?_
    refine a_callVI C (q := 38) (As := []) (st := []) dX8_sand_35 hR (by decide) hf (fun b => b.1) (fun b => (s, b.2)) (by decide) rfl rfl cw_X8_isEven (fun b hb => c_X8_isEven _ G n s t_3 b hb) rfl rfl (Nat.le_of_ble_eq_true rfl) k_924 rfl (fun y_4 hf => ?_)
    refine a_if_ne C (tgt := 54) (q := 41) dX8_sand_38 hf (by decide) rfl (fun hf => ?_) (fun hf => ?_)
    · refine a_iload_n C (i := 2) (q := 55) dX8_sand_54 rfl 0 rfl rfl ?_
      have hf := Option.some.inj hf; subst hf
      exact (show RetI F G Q cX8_sand 3 .int v2_2 (s, y_4.2) from hK) rfl _ _ dX8_sand_55
    · refine a_aload_n C (i := 0) (q := 42) dX8_sand_41 rfl 1 rfl rfl ?_
      refine a_get8 C (q := 45) dX8_sand_42 5 (by decide) k_773 (by decide) rfl rfl rfl ?_
      refine a_aload_n C (i := 0) (q := 46) dX8_sand_45 rfl 1 rfl rfl ?_
      refine a_get8 C (q := 49) dX8_sand_46 8 (by decide) k_776 (by decide) rfl rfl rfl ?_
      refine a_iload_n C (i := 2) (q := 50) dX8_sand_49 rfl 0 rfl rfl ?_
      refine a_iastN C (q := 51) (mk := (fun z => (s, z))) dX8_sand_50 hf (by decide) rfl rfl cellE_R1 rfl (fun t_5 hf => ?_)
      refine a_bipush C (v := (-2 : Int32)) (q := 53) dX8_sand_51 rfl (by decide) ?_
      have hf := Option.some.inj hf; subst hf
      exact (show RetI F G Q cX8_sand 3 .int (-2 : Int32) (s, t_5) from hK) rfl _ _ dX8_sand_53
  · refine a_iconst C (v := (-1 : Int32)) (q := 13) dX8_sand_12 rfl (by decide) ?_
    have hf := Option.some.inj hf; subst hf
    exact (show RetI F G Q cX8_sand 3 .int (-1 : Int32) (s, t) from hK) rfl _ _ dX8_sand_13
theorem c_X8_sand (l : Launch) (G : GX) (n : Nat) (s : MM) (t : SR) (v1 : Int32) (res : Int32 × SR) (hf : f_X8_sand n t v1 = some res) : MetC l G yX8_sand cX8_sand 3 (some .int) 6 (s, t) [.ref (G.2.1 39), .int v1] (PostI G res.1 (s, res.2)) :=
  m_I (by decide) (Nat.le_of_ble_eq_true rfl) (fun F Q C h1 h2 h3 hK => w_X8_sand_e C (Rm.of h1 h3) n s t v1 res hf hK)
theorem cw_X8_turn : CwV RX8 yX8_turn cX8_turn 2 1 (some .int) := ⟨k_1032, k_1030, k_1031, k_9, by decide +kernel, by decide⟩
def f_X8_turn (t : SR) (v1 : Int32) : Option (Int32 × SR) :=
  b1 (f_X8_in v1.toInt64 (1 : Int64) (60 : Int64)) (fun y_1 => (if y_1 = 0 then some ((-1 : Int32), t) else (if ((t.1 39 7) + v1) ≤ (999 : Int32) then nm (sr1 t 39 7 ((t.1 39 7) + v1)) (fun t_2 => nm (sr1 t_2 39 8 (((t_2.1 39 8) + v1) - ((t_2.1 39 8) + v1) / (12 : Int32) * (12 : Int32))) (fun t_3 => some (t_3.1 39 7, t_3))) else some ((-3 : Int32), t))))
set_option maxHeartbeats 4000000 in
theorem w_X8_turn_e {F : FX} {G : GX} {Q : State → Prop} (C : Cx F G cX8_turn 2 RX8) (hR : Rm F 3) (s : MM) (t : SR)  (v1 : Int32) (res : Int32 × SR) (hf : f_X8_turn t v1 = some res) (hK : RetI F G Q cX8_turn 2 .int res.1 (s, res.2)) : At F G Q 2 0 [(0, .ref (G.2.1 39)), (1, .int v1)] [] (s, t) := by
  unfold f_X8_turn at hf
  refine a_iload_n C (i := 1) (q := 1) dX8_turn_0 rfl 1 rfl rfl ?_
  refine a_i2l C (q := 2) dX8_turn_1 rfl ?_
  refine a_lconst C (v := (1 : Int64)) (q := 3) dX8_turn_2 rfl (by decide) ?_
  refine a_ldc2 C (v := (60 : Int64)) (q := 6) dX8_turn_3 rfl k_1033 ?_
  refine a_callSI C (q := 9) (As := [.long v1.toInt64, .long (1 : Int64), .long (60 : Int64)]) (st := []) dX8_turn_6 hR (by decide) hf (fun b => b) (fun _ => (s, t)) cw_X8_in (fun b hb => c_X8_in _ G s t v1.toInt64 (1 : Int64) (60 : Int64) b hb) rfl rfl (Nat.le_of_ble_eq_true rfl) k_880 rfl (fun y_1 hf => ?_)
  refine a_if_ne C (tgt := 14) (q := 12) dX8_turn_9 hf (by decide) rfl (fun hf => ?_) (fun hf => ?_)
  · refine a_aload_n C (i := 0) (q := 15) dX8_turn_14 rfl 0 rfl rfl ?_
    refine a_get8 C (q := 18) dX8_turn_15 7 (by decide) k_775 (by decide) rfl rfl rfl ?_
    refine a_iload_n C (i := 1) (q := 19) dX8_turn_18 rfl 1 rfl rfl ?_
    refine a_iadd C (q := 20) dX8_turn_19 rfl ?_
    refine a_sipush C (v := (999 : Int32)) (q := 23) dX8_turn_20 rfl (by decide) ?_
    refine a_icmp_le C (tgt := 29) (q := 26) dX8_turn_23 hf (by decide) rfl (fun hf => ?_) (fun hf => ?_)
    · refine a_aload_n C (i := 0) (q := 30) dX8_turn_29 rfl 0 rfl rfl ?_
      refine a_dup C (q := 31) dX8_turn_30 rfl rfl ?_
      refine a_get8 C (q := 34) dX8_turn_31 7 (by decide) k_775 (by decide) rfl rfl rfl ?_
      refine a_iload_n C (i := 1) (q := 35) dX8_turn_34 rfl 1 rfl rfl ?_
      refine a_iadd C (q := 36) dX8_turn_35 rfl ?_
      refine a_put8N C (q := 39) (mk := (fun z => (s, z))) dX8_turn_36 hf 7 (by decide) k_775 (by decide) rfl rfl cellE_R1 rfl rfl rfl (Nat.le_of_ble_eq_true rfl) rfl (fun t_2 hf => ?_)
      refine a_aload_n C (i := 0) (q := 40) dX8_turn_39 rfl 0 rfl rfl ?_
      refine a_aload_n C (i := 0) (q := 41) dX8_turn_40 rfl 0 rfl rfl ?_
      refine a_get8 C (q := 44) dX8_turn_41 8 (by decide) k_776 (by decide) rfl rfl rfl ?_
      refine a_iload_n C (i := 1) (q := 45) dX8_turn_44 rfl 1 rfl rfl ?_
      refine a_iadd C (q := 46) dX8_turn_45 rfl ?_
      refine a_bipush C (v := (12 : Int32)) (q := 48) dX8_turn_46 rfl (by decide) ?_
      refine a_irem C (q := 49) dX8_turn_48 rfl (by decide) ?_
      refine a_put8N C (q := 52) (mk := (fun z => (s, z))) dX8_turn_49 hf 8 (by decide) k_776 (by decide) rfl rfl cellE_R1 rfl rfl rfl (Nat.le_of_ble_eq_true rfl) rfl (fun t_3 hf => ?_)
      refine a_aload_n C (i := 0) (q := 53) dX8_turn_52 rfl 0 rfl rfl ?_
      refine a_get8 C (q := 56) dX8_turn_53 7 (by decide) k_775 (by decide) rfl rfl rfl ?_
      have hf := Option.some.inj hf; subst hf
      exact (show RetI F G Q cX8_turn 2 .int (t_3.1 39 7) (s, t_3) from hK) rfl _ _ dX8_turn_56
    · refine a_bipush C (v := (-3 : Int32)) (q := 28) dX8_turn_26 rfl (by decide) ?_
      have hf := Option.some.inj hf; subst hf
      exact (show RetI F G Q cX8_turn 2 .int (-3 : Int32) (s, t) from hK) rfl _ _ dX8_turn_28
  · refine a_iconst C (v := (-1 : Int32)) (q := 13) dX8_turn_12 rfl (by decide) ?_
    have hf := Option.some.inj hf; subst hf
    exact (show RetI F G Q cX8_turn 2 .int (-1 : Int32) (s, t) from hK) rfl _ _ dX8_turn_13
theorem c_X8_turn (l : Launch) (G : GX) (s : MM) (t : SR) (v1 : Int32) (res : Int32 × SR) (hf : f_X8_turn t v1 = some res) : MetC l G yX8_turn cX8_turn 2 (some .int) 3 (s, t) [.ref (G.2.1 39), .int v1] (PostI G res.1 (s, res.2)) :=
  m_I (by decide) (Nat.le_of_ble_eq_true rfl) (fun F Q C h1 h2 h3 hK => w_X8_turn_e C (Rm.of h1 h3) s t v1 res hf hK)
theorem cw_X8_does : CwV RX8 yX8_does cX8_does 3 1 (some .boolean) := ⟨k_1004, k_1003, kp_34, k_9, by decide +kernel, by decide⟩
def f_X8_does (n : Nat) (t : SR) (v1 : Int32) : Option (Int32 × SR) :=
  ix (v1 + (1 : Int32)) 240 (nm (t.1 47 ((v1 + (1 : Int32)).toNatClampNeg)) (fun v2_1 => ix v1 240 ((if (t.1 47 v1.toNatClampNeg) = (105 : Int32) then b1 (f_X8_board n t v2_1) (fun y_5 => (if y_5.1 < 0 then some ((0 : Int32), y_5.2) else some ((1 : Int32), y_5.2))) else ix v1 240 ((if (t.1 47 v1.toNatClampNeg) = (111 : Int32) then b1 (f_X8_leave n t v2_1) (fun y_4 => (if y_4.1 < 0 then some ((0 : Int32), y_4.2) else some ((1 : Int32), y_4.2))) else ix v1 240 ((if (t.1 47 v1.toNatClampNeg) = (115 : Int32) then b1 (f_X8_sand n t v2_1) (fun y_3 => (if y_3.1 < 0 then some ((0 : Int32), y_3.2) else some ((1 : Int32), y_3.2))) else b1 (f_X8_turn t (1 : Int32)) (fun y_2 => (if y_2.1 < 0 then some ((0 : Int32), y_2.2) else some ((1 : Int32), y_2.2)))))))))))
set_option maxHeartbeats 4000000 in
theorem w_X8_does_e {F : FX} {G : GX} {Q : State → Prop} (C : Cx F G cX8_does 3 RX8) (hR : Rm F 8) (n : Nat) (s : MM) (t : SR)  (v1 : Int32) (res : Int32 × SR) (hf : f_X8_does n t v1 = some res) (hK : RetI F G Q cX8_does 3 .boolean res.1 (s, res.2)) : At F G Q 3 0 [(0, .ref (G.2.1 39)), (1, .int v1)] [] (s, t) := by
  unfold f_X8_does at hf
  refine a_aload_n C (i := 0) (q := 1) dX8_does_0 rfl 0 rfl rfl ?_
  refine a_get8 C (q := 4) dX8_does_1 20 (by decide) k_788 (by decide) rfl rfl rfl ?_
  refine a_iload_n C (i := 1) (q := 5) dX8_does_4 rfl 1 rfl rfl ?_
  refine a_iconst C (v := (1 : Int32)) (q := 6) dX8_does_5 rfl (by decide) ?_
  refine a_iadd C (q := 7) dX8_does_6 rfl ?_
  refine a_iald C (q := 8) (g := t.1 47) dX8_does_7 hf (by decide) rfl rfl (fun hf => ?_)
  refine a_istore_nN C (i := 2) (q := 9) (lv' := fun z => [(2, .int z), (0, .ref (G.2.1 39)), (1, .int v1)]) dX8_does_8 hf rfl (by decide) (fun _ => rfl) rfl (fun v2_1 hf => ?_)
  refine a_aload_n C (i := 0) (q := 10) dX8_does_9 rfl 1 rfl rfl ?_
  refine a_get8 C (q := 13) dX8_does_10 20 (by decide) k_788 (by decide) rfl rfl rfl ?_
  refine a_iload_n C (i := 1) (q := 14) dX8_does_13 rfl 2 rfl rfl ?_
  refine a_iald C (q := 15) (g := t.1 47) dX8_does_14 hf (by decide) rfl rfl (fun hf => ?_)
  refine a_bipush C (v := (105 : Int32)) (q := 17) dX8_does_15 rfl (by decide) ?_
  refine a_icmp_ne C (tgt := 36) (q := 20) dX8_does_17 hf (by decide) rfl (fun hf => ?_) (fun hf => ?_)
  · refine a_aload_n C (i := 0) (q := 37) dX8_does_36 rfl 1 rfl rfl ?_
    refine a_get8 C (q := 40) dX8_does_37 20 (by decide) k_788 (by decide) rfl rfl rfl ?_
    refine a_iload_n C (i := 1) (q := 41) dX8_does_40 rfl 2 rfl rfl ?_
    refine a_iald C (q := 42) (g := t.1 47) dX8_does_41 hf (by decide) rfl rfl (fun hf => ?_)
    refine a_bipush C (v := (111 : Int32)) (q := 44) dX8_does_42 rfl (by decide) ?_
    refine a_icmp_ne C (tgt := 63) (q := 47) dX8_does_44 hf (by decide) rfl (fun hf => ?_) (fun hf => ?_)
    · refine a_aload_n C (i := 0) (q := 64) dX8_does_63 rfl 1 rfl rfl ?_
      refine a_get8 C (q := 67) dX8_does_64 20 (by decide) k_788 (by decide) rfl rfl rfl ?_
      refine a_iload_n C (i := 1) (q := 68) dX8_does_67 rfl 2 rfl rfl ?_
      refine a_iald C (q := 69) (g := t.1 47) dX8_does_68 hf (by decide) rfl rfl (fun hf => ?_)
      refine a_bipush C (v := (115 : Int32)) (q := 71) dX8_does_69 rfl (by decide) ?_
      refine a_icmp_ne C (tgt := 90) (q := 74) dX8_does_71 hf (by decide) rfl (fun hf => ?_) (fun hf => ?_)
      · refine a_aload_n C (i := 0) (q := 91) dX8_does_90 rfl 1 rfl rfl ?_
        refine a_iconst C (v := (1 : Int32)) (q := 92) dX8_does_91 rfl (by decide) ?_
        refine a_callVI C (q := 95) (As := [.int (1 : Int32)]) (st := []) dX8_does_92 hR (by decide) hf (fun b => b.1) (fun b => (s, b.2)) (by decide) rfl rfl cw_X8_turn (fun b hb => c_X8_turn _ G s t (1 : Int32) b hb) rfl rfl (Nat.le_of_ble_eq_true rfl) k_1029 rfl (fun y_2 hf => ?_)
        refine a_if_lt C (tgt := 102) (q := 98) dX8_does_95 hf (by decide) rfl (fun hf => ?_) (fun hf => ?_)
        · refine a_iconst C (v := (0 : Int32)) (q := 103) dX8_does_102 rfl (by decide) ?_
          have hf := Option.some.inj hf; subst hf
          exact (show RetI F G Q cX8_does 3 .boolean (0 : Int32) (s, y_2.2) from hK) rfl _ _ dX8_does_103
        · refine a_iconst C (v := (1 : Int32)) (q := 99) dX8_does_98 rfl (by decide) ?_
          refine a_goto C (q := 103) dX8_does_99 (by decide) ?_
          have hf := Option.some.inj hf; subst hf
          exact (show RetI F G Q cX8_does 3 .boolean (1 : Int32) (s, y_2.2) from hK) rfl _ _ dX8_does_103
      · refine a_aload_n C (i := 0) (q := 75) dX8_does_74 rfl 1 rfl rfl ?_
        refine a_iload_n C (i := 2) (q := 76) dX8_does_75 rfl 0 rfl rfl ?_
        refine a_callVI C (q := 79) (As := [.int v2_1]) (st := []) dX8_does_76 hR (by decide) hf (fun b => b.1) (fun b => (s, b.2)) (by decide) rfl rfl cw_X8_sand (fun b hb => c_X8_sand _ G n s t v2_1 b hb) rfl rfl (Nat.le_of_ble_eq_true rfl) k_1025 rfl (fun y_3 hf => ?_)
        refine a_if_lt C (tgt := 86) (q := 82) dX8_does_79 hf (by decide) rfl (fun hf => ?_) (fun hf => ?_)
        · refine a_iconst C (v := (0 : Int32)) (q := 87) dX8_does_86 rfl (by decide) ?_
          refine a_goto C (q := 103) dX8_does_87 (by decide) ?_
          have hf := Option.some.inj hf; subst hf
          exact (show RetI F G Q cX8_does 3 .boolean (0 : Int32) (s, y_3.2) from hK) rfl _ _ dX8_does_103
        · refine a_iconst C (v := (1 : Int32)) (q := 83) dX8_does_82 rfl (by decide) ?_
          refine a_goto C (q := 103) dX8_does_83 (by decide) ?_
          have hf := Option.some.inj hf; subst hf
          exact (show RetI F G Q cX8_does 3 .boolean (1 : Int32) (s, y_3.2) from hK) rfl _ _ dX8_does_103
    · refine a_aload_n C (i := 0) (q := 48) dX8_does_47 rfl 1 rfl rfl ?_
      refine a_iload_n C (i := 2) (q := 49) dX8_does_48 rfl 0 rfl rfl ?_
      refine a_callVI C (q := 52) (As := [.int v2_1]) (st := []) dX8_does_49 hR (by decide) hf (fun b => b.1) (fun b => (s, b.2)) (by decide) rfl rfl cw_X8_leave (fun b hb => c_X8_leave _ G n s t v2_1 b hb) rfl rfl (Nat.le_of_ble_eq_true rfl) k_1017 rfl (fun y_4 hf => ?_)
      refine a_if_lt C (tgt := 59) (q := 55) dX8_does_52 hf (by decide) rfl (fun hf => ?_) (fun hf => ?_)
      · refine a_iconst C (v := (0 : Int32)) (q := 60) dX8_does_59 rfl (by decide) ?_
        refine a_goto C (q := 103) dX8_does_60 (by decide) ?_
        have hf := Option.some.inj hf; subst hf
        exact (show RetI F G Q cX8_does 3 .boolean (0 : Int32) (s, y_4.2) from hK) rfl _ _ dX8_does_103
      · refine a_iconst C (v := (1 : Int32)) (q := 56) dX8_does_55 rfl (by decide) ?_
        refine a_goto C (q := 103) dX8_does_56 (by decide) ?_
        have hf := Option.some.inj hf; subst hf
        exact (show RetI F G Q cX8_does 3 .boolean (1 : Int32) (s, y_4.2) from hK) rfl _ _ dX8_does_103
  · refine a_aload_n C (i := 0) (q := 21) dX8_does_20 rfl 1 rfl rfl ?_
    refine a_iload_n C (i := 2) (q := 22) dX8_does_21 rfl 0 rfl rfl ?_
    refine a_callVI C (q := 25) (As := [.int v2_1]) (st := []) dX8_does_22 hR (by decide) hf (fun b => b.1) (fun b => (s, b.2)) (by decide) rfl rfl cw_X8_board (fun b hb => c_X8_board _ G n s t v2_1 b hb) rfl rfl (Nat.le_of_ble_eq_true rfl) k_1005 rfl (fun y_5 hf => ?_)
    refine a_if_lt C (tgt := 32) (q := 28) dX8_does_25 hf (by decide) rfl (fun hf => ?_) (fun hf => ?_)
    · refine a_iconst C (v := (0 : Int32)) (q := 33) dX8_does_32 rfl (by decide) ?_
      refine a_goto C (q := 103) dX8_does_33 (by decide) ?_
      have hf := Option.some.inj hf; subst hf
      exact (show RetI F G Q cX8_does 3 .boolean (0 : Int32) (s, y_5.2) from hK) rfl _ _ dX8_does_103
    · refine a_iconst C (v := (1 : Int32)) (q := 29) dX8_does_28 rfl (by decide) ?_
      refine a_goto C (q := 103) dX8_does_29 (by decide) ?_
      have hf := Option.some.inj hf; subst hf
      exact (show RetI F G Q cX8_does 3 .boolean (1 : Int32) (s, y_5.2) from hK) rfl _ _ dX8_does_103
theorem c_X8_does (l : Launch) (G : GX) (n : Nat) (s : MM) (t : SR) (v1 : Int32) (res : Int32 × SR) (hf : f_X8_does n t v1 = some res) : MetC l G yX8_does cX8_does 3 (some .boolean) 8 (s, t) [.ref (G.2.1 39), .int v1] (PostI G res.1 (s, res.2)) :=
  m_I (by decide) (Nat.le_of_ble_eq_true rfl) (fun F Q C h1 h2 h3 hK => w_X8_does_e C (Rm.of h1 h3) n s t v1 res hf hK)
theorem cw_X8_evening : CwV RX8 yX8_evening cX8_evening 4 0 (some .int) := ⟨k_991, k_989, k_990, k_9, by decide +kernel, by decide⟩
def P_X8_evening_38 (F : FX) (G : GX) (Q : State → Prop) (s : MM) (v2 : Int32) (v3 : Int32) (t : SR) : Prop := At F G Q 4 38 [(0, .ref (G.2.1 39)), (2, .int v2), (3, .int v3)] [] (s, t)
def E_X8_evening_38 (F : FX) (G : GX) (Q : State → Prop) (s : MM) (v2 : Int32) : (Int32 × SR) ⊕ (SR) → Prop := fun q => match q with
  | .inl y => RetI F G Q cX8_evening 4 .int y.1 (s, y.2)
  | .inr t => At F G Q 4 61 [(2, .int v2)] [] (s, t)
def lb_X8_evening_38 (n : Nat) (v2 : Int32) (v3 : Int32) (t : SR) : Option (((Int32 × SR) ⊕ (SR)) ⊕ (Int32 × SR)) :=
  (if v2 ≤ v3 then some (.inl (.inr t)) else b1 (f_X8_does n t ((2 : Int32) * v3)) (fun y_4 => (if y_4.1 = 0 then some (.inl (.inl (v3, y_4.2))) else nm (v3 + 1) (fun v3_5 => some (.inr (v3_5, y_4.2))))))
set_option maxHeartbeats 4000000 in
theorem w_X8_evening_38 {F : FX} {G : GX} {Q : State → Prop} (C : Cx F G cX8_evening 4 RX8) (hR : Rm F 9) (n : Nat) (s : MM) (v2 : Int32)  (v3 : Int32) (t : SR) (res : ((Int32 × SR) ⊕ (SR)) ⊕ (Int32 × SR)) (hf : lb_X8_evening_38 n v2 v3 t = some res) (hK : Sum.elim (E_X8_evening_38 F G Q s v2) (fun q => match q with | (v3, t) => P_X8_evening_38 F G Q s v2 v3 t) res) : P_X8_evening_38 F G Q s v2 v3 t := by
  unfold lb_X8_evening_38 at hf
  show At F G Q 4 38 [(0, .ref (G.2.1 39)), (2, .int v2), (3, .int v3)] [] (s, t)
  refine a_iload_n C (i := 3) (q := 39) dX8_evening_38 rfl 2 rfl rfl ?_
  refine a_iload_n C (i := 2) (q := 40) dX8_evening_39 rfl 1 rfl rfl ?_
  refine a_icmp_ge C (tgt := 61) (q := 43) dX8_evening_40 hf (by decide) rfl (fun hf => ?_) (fun hf => ?_)
  · have hf := Option.some.inj hf; subst hf
    exact a_sub [1] rfl (show At F G Q 4 61 [(2, .int v2)] [] (s, t) from hK)
  · refine a_aload_n C (i := 0) (q := 44) dX8_evening_43 rfl 0 rfl rfl ?_
    refine a_iconst C (v := (2 : Int32)) (q := 45) dX8_evening_44 rfl (by decide) ?_
    refine a_iload_n C (i := 3) (q := 46) dX8_evening_45 rfl 2 rfl rfl ?_
    refine a_imul C (q := 47) dX8_evening_46 rfl ?_
    refine a_callVI C (q := 50) (As := [.int ((2 : Int32) * v3)]) (st := []) dX8_evening_47 hR (by decide) hf (fun b => b.1) (fun b => (s, b.2)) (by decide) rfl rfl cw_X8_does (fun b hb => c_X8_does _ G n s t ((2 : Int32) * v3) b hb) rfl rfl (Nat.le_of_ble_eq_true rfl) k_1001 rfl (fun y_4 hf => ?_)
    refine a_if_ne C (tgt := 55) (q := 53) dX8_evening_50 hf (by decide) rfl (fun hf => ?_) (fun hf => ?_)
    · refine a_iincN C (i := 3) (k := 2) (q := 58) (lv' := fun z => [(3, .int z), (0, .ref (G.2.1 39)), (2, .int v2)]) dX8_evening_55 hf rfl rfl (by decide) (fun _ => rfl) rfl (fun v3_5 hf => ?_)
      refine a_goto C (q := 38) dX8_evening_58 (by decide) ?_
      have hf := Option.some.inj hf; subst hf
      exact a_sub [1, 2, 0] rfl (show At F G Q 4 38 [(0, .ref (G.2.1 39)), (2, .int v2), (3, .int v3_5)] [] (s, y_4.2) from hK)
    · refine a_iload_n C (i := 3) (q := 54) dX8_evening_53 rfl 2 rfl rfl ?_
      have hf := Option.some.inj hf; subst hf
      exact (show RetI F G Q cX8_evening 4 .int v3 (s, y_4.2) from hK) rfl _ _ dX8_evening_54
theorem lp_X8_evening_38 {F : FX} {G : GX} {Q : State → Prop} (C : Cx F G cX8_evening 4 RX8) (hR : Rm F 9) (n : Nat) (s : MM) (v2 : Int32)  (v3 : Int32) (t : SR) (x : (Int32 × SR) ⊕ (SR)) (h : it2 (lb_X8_evening_38 n v2) n v3 t = some x) (hE : E_X8_evening_38 F G Q s v2 x) : At F G Q 4 38 [(0, .ref (G.2.1 39)), (2, .int v2), (3, .int v3)] [] (s, t) :=
  it2_ind (b := (lb_X8_evening_38 n v2)) (E := E_X8_evening_38 F G Q s v2) (P := fun v3 t => P_X8_evening_38 F G Q s v2 v3 t) (fun v3 t res hf hK => w_X8_evening_38 C hR n s v2   v3 t res hf hK) n v3 t x h hE
def f_X8_evening_14 (n : Nat) (t : SR) (v1 : Int32) : Option (Int32 × SR) :=
  nm (sr1 t 39 17 (0 : Int32)) (fun t_2 => (if v1 = 0 then some ((-20 : Int32) - (t_2.1 39 18), t_2) else nm (t_2.1 39 19) (fun v2_3 => bR (it2 (lb_X8_evening_38 n v2_3) n (0 : Int32) t_2) (fun y => some y) (fun t_6 => some (v2_3, t_6)))))
set_option maxHeartbeats 4000000 in
theorem w_X8_evening_14 {F : FX} {G : GX} {Q : State → Prop} (C : Cx F G cX8_evening 4 RX8) (hR : Rm F 9) (n : Nat) (s : MM) (t : SR)  (v1 : Int32) (res : Int32 × SR) (hf : f_X8_evening_14 n t v1 = some res) (hK : RetI F G Q cX8_evening 4 .int res.1 (s, res.2)) : At F G Q 4 14 [(0, .ref (G.2.1 39)), (1, .int v1)] [] (s, t) := by
  unfold f_X8_evening_14 at hf
  refine a_aload_n C (i := 0) (q := 15) dX8_evening_14 rfl 0 rfl rfl ?_
  refine a_iconst C (v := (0 : Int32)) (q := 16) dX8_evening_15 rfl (by decide) ?_
  refine a_put8N C (q := 19) (mk := (fun z => (s, z))) dX8_evening_16 hf 17 (by decide) k_785 (by decide) rfl rfl cellE_R1 rfl rfl rfl (Nat.le_of_ble_eq_true rfl) rfl (fun t_2 hf => ?_)
  refine a_iload_n C (i := 1) (q := 20) dX8_evening_19 rfl 1 rfl rfl ?_
  refine a_if_ne C (tgt := 31) (q := 23) dX8_evening_20 hf (by decide) rfl (fun hf => ?_) (fun hf => ?_)
  · refine a_aload_n C (i := 0) (q := 32) dX8_evening_31 rfl 0 rfl rfl ?_
    refine a_get8 C (q := 35) dX8_evening_32 19 (by decide) k_787 (by decide) rfl rfl rfl ?_
    refine a_istore_nN C (i := 2) (q := 36) (lv' := fun z => [(2, .int z), (0, .ref (G.2.1 39)), (1, .int v1)]) dX8_evening_35 hf rfl (by decide) (fun _ => rfl) rfl (fun v2_3 hf => ?_)
    refine a_iconst C (v := (0 : Int32)) (q := 37) dX8_evening_36 rfl (by decide) ?_
    refine a_istore_n C (i := 3) (q := 38) (lv' := [(3, .int (0 : Int32)), (2, .int v2_3), (0, .ref (G.2.1 39)), (1, .int v1)]) dX8_evening_37 rfl (by decide) rfl rfl ?_
    rcases bR_some hf with ⟨y, h1, hf⟩ | ⟨t_6, h1, hf⟩
    · refine a_sub [2, 1, 0] rfl (lp_X8_evening_38 C hR n s v2_3  (0 : Int32) t_2 _ h1 ?_)
      have hf := Option.some.inj hf; subst hf
      exact hK
    · refine a_sub [2, 1, 0] rfl (lp_X8_evening_38 C hR n s v2_3  (0 : Int32) t_2 _ h1 ?_)
      show At F G Q 4 61 [(2, .int v2_3)] [] (s, t_6)
      refine a_iload_n C (i := 2) (q := 62) dX8_evening_61 rfl 0 rfl rfl ?_
      have hf := Option.some.inj hf; subst hf
      exact (show RetI F G Q cX8_evening 4 .int v2_3 (s, t_6) from hK) rfl _ _ dX8_evening_62
  · refine a_bipush C (v := (-20 : Int32)) (q := 25) dX8_evening_23 rfl (by decide) ?_
    refine a_aload_n C (i := 0) (q := 26) dX8_evening_25 rfl 0 rfl rfl ?_
    refine a_get8 C (q := 29) dX8_evening_26 18 (by decide) k_786 (by decide) rfl rfl rfl ?_
    refine a_isub C (q := 30) dX8_evening_29 rfl ?_
    have hf := Option.some.inj hf; subst hf
    exact (show RetI F G Q cX8_evening 4 .int ((-20 : Int32) - (t_2.1 39 18)) (s, t_2) from hK) rfl _ _ dX8_evening_30
def f_X8_evening (n : Nat) (t : SR) : Option (Int32 × SR) :=
  b1 (f_X8_readEvening n t) (fun y_1 => (if y_1.1 = 0 then b1 (f_X8_nextByte n y_1.2) (fun y_7 => f_X8_evening_14 n y_7.2 y_1.1) else f_X8_evening_14 n y_1.2 y_1.1))
set_option maxHeartbeats 4000000 in
theorem w_X8_evening_e {F : FX} {G : GX} {Q : State → Prop} (C : Cx F G cX8_evening 4 RX8) (hR : Rm F 9) (n : Nat) (s : MM) (t : SR)   (res : Int32 × SR) (hf : f_X8_evening n t = some res) (hK : RetI F G Q cX8_evening 4 .int res.1 (s, res.2)) : At F G Q 4 0 [(0, .ref (G.2.1 39))] [] (s, t) := by
  unfold f_X8_evening at hf
  refine a_aload_n C (i := 0) (q := 1) dX8_evening_0 rfl 0 rfl rfl ?_
  refine a_callVI C (q := 4) (As := []) (st := []) dX8_evening_1 hR (by decide) hf (fun b => b.1) (fun b => (s, b.2)) (by decide) rfl rfl cw_X8_readEvening (fun b hb => c_X8_readEvening _ G n s t b hb) rfl rfl (Nat.le_of_ble_eq_true rfl) k_992 rfl (fun y_1 hf => ?_)
  refine a_istore_n C (i := 1) (q := 5) (lv' := [(1, .int y_1.1), (0, .ref (G.2.1 39))]) dX8_evening_4 rfl (by decide) rfl rfl ?_
  refine a_iload_n C (i := 1) (q := 6) dX8_evening_5 rfl 0 rfl rfl ?_
  refine a_if_ne C (tgt := 14) (q := 9) dX8_evening_6 hf (by decide) rfl (fun hf => ?_) (fun hf => ?_)
  · exact a_sub [1, 0] rfl (w_X8_evening_14 C hR n s y_1.2 y_1.1 res hf hK)
  · refine a_aload_n C (i := 0) (q := 10) dX8_evening_9 rfl 1 rfl rfl ?_
    refine a_callVI C (q := 13) (As := []) (st := []) dX8_evening_10 hR (by decide) hf (fun b => b.1) (fun b => (s, b.2)) (by decide) rfl rfl cw_X8_nextByte (fun b hb => c_X8_nextByte _ G n s y_1.2 b hb) rfl rfl (Nat.le_of_ble_eq_true rfl) k_978 rfl (fun y_7 hf => ?_)
    refine a_pop C (q := 14) dX8_evening_13 rfl rfl ?_
    exact a_sub [1, 0] rfl (w_X8_evening_14 C hR n s y_7.2 y_1.1 res hf hK)
theorem c_X8_evening (l : Launch) (G : GX) (n : Nat) (s : MM) (t : SR)  (res : Int32 × SR) (hf : f_X8_evening n t = some res) : MetC l G yX8_evening cX8_evening 4 (some .int) 9 (s, t) [.ref (G.2.1 39)] (PostI G res.1 (s, res.2)) :=
  m_I (by decide) (Nat.le_of_ble_eq_true rfl) (fun F Q C h1 h2 h3 hK => w_X8_evening_e C (Rm.of h1 h3) n s t res hf hK)
theorem cw_X8_may : CwV RX8 yX8_may cX8_may 5 1 (some .int) := ⟨k_1041, k_1039, k_1040, k_9, by decide +kernel, by decide⟩
def P_X8_may_16 (F : FX) (G : GX) (Q : State → Prop) (s : MM) (v1 : Int32) (v2 : Int32) (v3 : Int32) (t : SR) : Prop := At F G Q 5 16 [(0, .ref (G.2.1 39)), (1, .int v1), (2, .int v2), (3, .int v3)] [] (s, t)
def E_X8_may_16 (F : FX) (G : GX) (Q : State → Prop) (s : MM) (v1 : Int32) : Int32 × SR → Prop := fun q => match q with
  | (v2, t) => At F G Q 5 104 [(2, .int v2)] [] (s, t)
def f_X8_may_81_in16 (n : Nat) (t : SR) (v1 : Int32) (v2 : Int32) (v3 : Int32) (w0 : Int32) : Option ((Int32 × SR) ⊕ (Int32 × Int32 × SR)) :=
  (if w0 = 0 then nm (v2 ||| (0 : Int32)) (fun v2_2 => nm (v3 + 1) (fun v3_3 => some (.inr (v2_2, v3_3, t)))) else nm (v2 ||| ((1 : Int32) <<< (v3 &&& 31))) (fun v2_4 => nm (v3 + 1) (fun v3_5 => some (.inr (v2_4, v3_5, t)))))
set_option maxHeartbeats 4000000 in
theorem w_X8_may_81_in16 {F : FX} {G : GX} {Q : State → Prop} (C : Cx F G cX8_may 5 RX8) (hR : Rm F 7) (n : Nat) (s : MM) (t : SR)  (v1 : Int32) (v2 : Int32) (v3 : Int32) (w0 : Int32) (res : (Int32 × SR) ⊕ (Int32 × Int32 × SR)) (hf : f_X8_may_81_in16 n t v1 v2 v3 w0 = some res) (hK : Sum.elim (E_X8_may_16 F G Q s v1) (fun q => match q with | (v2, v3, t) => P_X8_may_16 F G Q s v1 v2 v3 t) res) : At F G Q 5 81 [(0, .ref (G.2.1 39)), (1, .int v1), (2, .int v2), (3, .int v3)] [.int w0] (s, t) := by
  unfold f_X8_may_81_in16 at hf
  refine a_istore C (i := 4) (q := 83) (lv' := [(4, .int w0), (0, .ref (G.2.1 39)), (1, .int v1), (2, .int v2), (3, .int v3)]) dX8_may_81 (by decide) rfl rfl ?_
  refine a_iload_n C (i := 2) (q := 84) dX8_may_83 rfl 3 rfl rfl ?_
  refine a_iload C (i := 4) (q := 86) dX8_may_84 rfl 0 rfl ?_
  refine a_if_eq C (tgt := 95) (q := 89) dX8_may_86 hf (by decide) rfl (fun hf => ?_) (fun hf => ?_)
  · refine a_iconst C (v := (0 : Int32)) (q := 96) dX8_may_95 rfl (by decide) ?_
    refine a_ior C (q := 97) dX8_may_96 rfl ?_
    refine a_istore_nN C (i := 2) (q := 98) (lv' := fun z => [(2, .int z), (4, .int w0), (0, .ref (G.2.1 39)), (1, .int v1), (3, .int v3)]) dX8_may_97 hf rfl (by decide) (fun _ => rfl) rfl (fun v2_2 hf => ?_)
    refine a_iincN C (i := 3) (k := 4) (q := 101) (lv' := fun z => [(3, .int z), (2, .int v2_2), (4, .int w0), (0, .ref (G.2.1 39)), (1, .int v1)]) dX8_may_98 hf rfl rfl (by decide) (fun _ => rfl) rfl (fun v3_3 hf => ?_)
    refine a_goto C (q := 16) dX8_may_101 (by decide) ?_
    have hf := Option.some.inj hf; subst hf
    exact a_sub [3, 4, 1, 0] rfl (show At F G Q 5 16 [(0, .ref (G.2.1 39)), (1, .int v1), (2, .int v2_2), (3, .int v3_3)] [] (s, t) from hK)
  · refine a_iconst C (v := (1 : Int32)) (q := 90) dX8_may_89 rfl (by decide) ?_
    refine a_iload_n C (i := 3) (q := 91) dX8_may_90 rfl 4 rfl rfl ?_
    refine a_ishl C (q := 92) dX8_may_91 rfl ?_
    refine a_goto C (q := 96) dX8_may_92 (by decide) ?_
    refine a_ior C (q := 97) dX8_may_96 rfl ?_
    refine a_istore_nN C (i := 2) (q := 98) (lv' := fun z => [(2, .int z), (4, .int w0), (0, .ref (G.2.1 39)), (1, .int v1), (3, .int v3)]) dX8_may_97 hf rfl (by decide) (fun _ => rfl) rfl (fun v2_4 hf => ?_)
    refine a_iincN C (i := 3) (k := 4) (q := 101) (lv' := fun z => [(3, .int z), (2, .int v2_4), (4, .int w0), (0, .ref (G.2.1 39)), (1, .int v1)]) dX8_may_98 hf rfl rfl (by decide) (fun _ => rfl) rfl (fun v3_5 hf => ?_)
    refine a_goto C (q := 16) dX8_may_101 (by decide) ?_
    have hf := Option.some.inj hf; subst hf
    exact a_sub [3, 4, 1, 0] rfl (show At F G Q 5 16 [(0, .ref (G.2.1 39)), (1, .int v1), (2, .int v2_4), (3, .int v3_5)] [] (s, t) from hK)
def lb_X8_may_16 (n : Nat) (v1 : Int32) (v2 : Int32) (v3 : Int32) (t : SR) : Option ((Int32 × SR) ⊕ (Int32 × Int32 × SR)) :=
  (if (t.1 39 4) ≤ v3 then some (.inl (v2, t)) else (if v1 = 0 then ix v3 10 ((if (t.1 42 v3.toNatClampNeg) = (12 : Int32) then b1 (f_X8_mayBoard n t v3) (fun y_7 => (if y_7.1 = 0 then f_X8_may_81_in16 n y_7.2 v1 v2 v3 (0 : Int32) else f_X8_may_81_in16 n y_7.2 v1 v2 v3 (1 : Int32))) else f_X8_may_81_in16 n t v1 v2 v3 (0 : Int32))) else ix v3 10 ((if (t.1 42 v3.toNatClampNeg) = (t.1 39 8) then b1 (f_X8_mayLeave n t v3) (fun y_6 => (if y_6.1 = 0 then f_X8_may_81_in16 n y_6.2 v1 v2 v3 (0 : Int32) else f_X8_may_81_in16 n y_6.2 v1 v2 v3 (1 : Int32))) else f_X8_may_81_in16 n t v1 v2 v3 (0 : Int32)))))
set_option maxHeartbeats 4000000 in
theorem w_X8_may_16 {F : FX} {G : GX} {Q : State → Prop} (C : Cx F G cX8_may 5 RX8) (hR : Rm F 7) (n : Nat) (s : MM) (v1 : Int32)  (v2 : Int32) (v3 : Int32) (t : SR) (res : (Int32 × SR) ⊕ (Int32 × Int32 × SR)) (hf : lb_X8_may_16 n v1 v2 v3 t = some res) (hK : Sum.elim (E_X8_may_16 F G Q s v1) (fun q => match q with | (v2, v3, t) => P_X8_may_16 F G Q s v1 v2 v3 t) res) : P_X8_may_16 F G Q s v1 v2 v3 t := by
  unfold lb_X8_may_16 at hf
  show At F G Q 5 16 [(0, .ref (G.2.1 39)), (1, .int v1), (2, .int v2), (3, .int v3)] [] (s, t)
  refine a_iload_n C (i := 3) (q := 17) dX8_may_16 rfl 3 rfl rfl ?_
  refine a_aload_n C (i := 0) (q := 18) dX8_may_17 rfl 0 rfl rfl ?_
  refine a_get8 C (q := 21) dX8_may_18 4 (by decide) k_772 (by decide) rfl rfl rfl ?_
  refine a_icmp_ge C (tgt := 104) (q := 24) dX8_may_21 hf (by decide) rfl (fun hf => ?_) (fun hf => ?_)
  · have hf := Option.some.inj hf; subst hf
    exact a_sub [2] rfl (show At F G Q 5 104 [(2, .int v2)] [] (s, t) from hK)
  · refine a_iload_n C (i := 1) (q := 25) dX8_may_24 rfl 1 rfl rfl ?_
    refine a_if_ne C (tgt := 55) (q := 28) dX8_may_25 hf (by decide) rfl (fun hf => ?_) (fun hf => ?_)
    · refine a_aload_n C (i := 0) (q := 56) dX8_may_55 rfl 0 rfl rfl ?_
      refine a_get8 C (q := 59) dX8_may_56 2 (by decide) k_770 (by decide) rfl rfl rfl ?_
      refine a_iload_n C (i := 3) (q := 60) dX8_may_59 rfl 3 rfl rfl ?_
      refine a_iald C (q := 61) (g := t.1 42) dX8_may_60 hf (by decide) rfl rfl (fun hf => ?_)
      refine a_aload_n C (i := 0) (q := 62) dX8_may_61 rfl 0 rfl rfl ?_
      refine a_get8 C (q := 65) dX8_may_62 8 (by decide) k_776 (by decide) rfl rfl rfl ?_
      refine a_icmp_ne C (tgt := 80) (q := 68) dX8_may_65 hf (by decide) rfl (fun hf => ?_) (fun hf => ?_)
      · refine a_iconst C (v := (0 : Int32)) (q := 81) dX8_may_80 rfl (by decide) ?_
        exact a_sub [0, 1, 2, 3] rfl (w_X8_may_81_in16 C hR n s t v1 v2 v3 (0 : Int32) res hf hK)
      · refine a_aload_n C (i := 0) (q := 69) dX8_may_68 rfl 0 rfl rfl ?_
        refine a_iload_n C (i := 3) (q := 70) dX8_may_69 rfl 3 rfl rfl ?_
        refine a_callVI C (q := 73) (As := [.int v3]) (st := []) dX8_may_70 hR (by decide) hf (fun b => b.1) (fun b => (s, b.2)) (by decide) rfl rfl cw_X8_mayLeave (fun b hb => c_X8_mayLeave _ G n s t v3 b hb) rfl rfl (Nat.le_of_ble_eq_true rfl) k_1021 rfl (fun y_6 hf => ?_)
        refine a_if_eq C (tgt := 80) (q := 76) dX8_may_73 hf (by decide) rfl (fun hf => ?_) (fun hf => ?_)
        · refine a_iconst C (v := (0 : Int32)) (q := 81) dX8_may_80 rfl (by decide) ?_
          exact a_sub [0, 1, 2, 3] rfl (w_X8_may_81_in16 C hR n s y_6.2 v1 v2 v3 (0 : Int32) res hf hK)
        · refine a_iconst C (v := (1 : Int32)) (q := 77) dX8_may_76 rfl (by decide) ?_
          refine a_goto C (q := 81) dX8_may_77 (by decide) ?_
          exact a_sub [0, 1, 2, 3] rfl (w_X8_may_81_in16 C hR n s y_6.2 v1 v2 v3 (1 : Int32) res hf hK)
    · refine a_aload_n C (i := 0) (q := 29) dX8_may_28 rfl 0 rfl rfl ?_
      refine a_get8 C (q := 32) dX8_may_29 2 (by decide) k_770 (by decide) rfl rfl rfl ?_
      refine a_iload_n C (i := 3) (q := 33) dX8_may_32 rfl 3 rfl rfl ?_
      refine a_iald C (q := 34) (g := t.1 42) dX8_may_33 hf (by decide) rfl rfl (fun hf => ?_)
      refine a_bipush C (v := (12 : Int32)) (q := 36) dX8_may_34 rfl (by decide) ?_
      refine a_icmp_ne C (tgt := 51) (q := 39) dX8_may_36 hf (by decide) rfl (fun hf => ?_) (fun hf => ?_)
      · refine a_iconst C (v := (0 : Int32)) (q := 52) dX8_may_51 rfl (by decide) ?_
        refine a_goto C (q := 81) dX8_may_52 (by decide) ?_
        exact a_sub [0, 1, 2, 3] rfl (w_X8_may_81_in16 C hR n s t v1 v2 v3 (0 : Int32) res hf hK)
      · refine a_aload_n C (i := 0) (q := 40) dX8_may_39 rfl 0 rfl rfl ?_
        refine a_iload_n C (i := 3) (q := 41) dX8_may_40 rfl 3 rfl rfl ?_
        refine a_callVI C (q := 44) (As := [.int v3]) (st := []) dX8_may_41 hR (by decide) hf (fun b => b.1) (fun b => (s, b.2)) (by decide) rfl rfl cw_X8_mayBoard (fun b hb => c_X8_mayBoard _ G n s t v3 b hb) rfl rfl (Nat.le_of_ble_eq_true rfl) k_1009 rfl (fun y_7 hf => ?_)
        refine a_if_eq C (tgt := 51) (q := 47) dX8_may_44 hf (by decide) rfl (fun hf => ?_) (fun hf => ?_)
        · refine a_iconst C (v := (0 : Int32)) (q := 52) dX8_may_51 rfl (by decide) ?_
          refine a_goto C (q := 81) dX8_may_52 (by decide) ?_
          exact a_sub [0, 1, 2, 3] rfl (w_X8_may_81_in16 C hR n s y_7.2 v1 v2 v3 (0 : Int32) res hf hK)
        · refine a_iconst C (v := (1 : Int32)) (q := 48) dX8_may_47 rfl (by decide) ?_
          refine a_goto C (q := 81) dX8_may_48 (by decide) ?_
          exact a_sub [0, 1, 2, 3] rfl (w_X8_may_81_in16 C hR n s y_7.2 v1 v2 v3 (1 : Int32) res hf hK)
theorem lp_X8_may_16 {F : FX} {G : GX} {Q : State → Prop} (C : Cx F G cX8_may 5 RX8) (hR : Rm F 7) (n : Nat) (s : MM) (v1 : Int32)  (v2 : Int32) (v3 : Int32) (t : SR) (x : Int32 × SR) (h : it3 (lb_X8_may_16 n v1) n v2 v3 t = some x) (hE : E_X8_may_16 F G Q s v1 x) : At F G Q 5 16 [(0, .ref (G.2.1 39)), (1, .int v1), (2, .int v2), (3, .int v3)] [] (s, t) :=
  it3_ind (b := (lb_X8_may_16 n v1)) (E := E_X8_may_16 F G Q s v1) (P := fun v2 v3 t => P_X8_may_16 F G Q s v1 v2 v3 t) (fun v2 v3 t res hf hK => w_X8_may_16 C hR n s v1   v2 v3 t res hf hK) n v2 v3 t x h hE
def f_X8_may (n : Nat) (t : SR) (v1 : Int32) : Option (Int32 × SR) :=
  b1 (f_X8_in v1.toInt64 (0 : Int64) (1 : Int64)) (fun y_1 => (if y_1 = 0 then some ((-1 : Int32), t) else b2 (it3 (lb_X8_may_16 n v1) n (0 : Int32) (0 : Int32) t) (fun v2_8 t_9 => some (v2_8, t_9))))
set_option maxHeartbeats 4000000 in
theorem w_X8_may_e {F : FX} {G : GX} {Q : State → Prop} (C : Cx F G cX8_may 5 RX8) (hR : Rm F 7) (n : Nat) (s : MM) (t : SR)  (v1 : Int32) (res : Int32 × SR) (hf : f_X8_may n t v1 = some res) (hK : RetI F G Q cX8_may 5 .int res.1 (s, res.2)) : At F G Q 5 0 [(0, .ref (G.2.1 39)), (1, .int v1)] [] (s, t) := by
  unfold f_X8_may at hf
  refine a_iload_n C (i := 1) (q := 1) dX8_may_0 rfl 1 rfl rfl ?_
  refine a_i2l C (q := 2) dX8_may_1 rfl ?_
  refine a_lconst C (v := (0 : Int64)) (q := 3) dX8_may_2 rfl (by decide) ?_
  refine a_lconst C (v := (1 : Int64)) (q := 4) dX8_may_3 rfl (by decide) ?_
  refine a_callSI C (q := 7) (As := [.long v1.toInt64, .long (0 : Int64), .long (1 : Int64)]) (st := []) dX8_may_4 hR (by decide) hf (fun b => b) (fun _ => (s, t)) cw_X8_in (fun b hb => c_X8_in _ G s t v1.toInt64 (0 : Int64) (1 : Int64) b hb) rfl rfl (Nat.le_of_ble_eq_true rfl) k_880 rfl (fun y_1 hf => ?_)
  refine a_if_ne C (tgt := 12) (q := 10) dX8_may_7 hf (by decide) rfl (fun hf => ?_) (fun hf => ?_)
  · refine a_iconst C (v := (0 : Int32)) (q := 13) dX8_may_12 rfl (by decide) ?_
    refine a_istore_n C (i := 2) (q := 14) (lv' := [(2, .int (0 : Int32)), (0, .ref (G.2.1 39)), (1, .int v1)]) dX8_may_13 rfl (by decide) rfl rfl ?_
    refine a_iconst C (v := (0 : Int32)) (q := 15) dX8_may_14 rfl (by decide) ?_
    refine a_istore_n C (i := 3) (q := 16) (lv' := [(3, .int (0 : Int32)), (2, .int (0 : Int32)), (0, .ref (G.2.1 39)), (1, .int v1)]) dX8_may_15 rfl (by decide) rfl rfl ?_
    obtain ⟨v2_8, t_9, h1, hf⟩ := b2_some hf
    refine a_sub [2, 3, 1, 0] rfl (lp_X8_may_16 C hR n s v1  (0 : Int32) (0 : Int32) t _ h1 ?_)
    show At F G Q 5 104 [(2, .int v2_8)] [] (s, t_9)
    refine a_iload_n C (i := 2) (q := 105) dX8_may_104 rfl 0 rfl rfl ?_
    have hf := Option.some.inj hf; subst hf
    exact (show RetI F G Q cX8_may 5 .int v2_8 (s, t_9) from hK) rfl _ _ dX8_may_105
  · refine a_iconst C (v := (-1 : Int32)) (q := 11) dX8_may_10 rfl (by decide) ?_
    have hf := Option.some.inj hf; subst hf
    exact (show RetI F G Q cX8_may 5 .int (-1 : Int32) (s, t) from hK) rfl _ _ dX8_may_11
theorem c_X8_may (l : Launch) (G : GX) (n : Nat) (s : MM) (t : SR) (v1 : Int32) (res : Int32 × SR) (hf : f_X8_may n t v1 = some res) : MetC l G yX8_may cX8_may 5 (some .int) 7 (s, t) [.ref (G.2.1 39), .int v1] (PostI G res.1 (s, res.2)) :=
  m_I (by decide) (Nat.le_of_ble_eq_true rfl) (fun F Q C h1 h2 h3 hK => w_X8_may_e C (Rm.of h1 h3) n s t v1 res hf hK)
theorem cw_X8_ones : CwS yX8_ones cX8_ones 3 1 (some .int) := ⟨k_1052, k_1051, k_9, by decide +kernel, by decide⟩
def P_X8_ones_4 (F : FX) (G : GX) (Q : State → Prop) (s : MM) (r : SR) (v1 : Int32) (v2 : Int32) : Prop := At F G Q 3 4 [(1, .int v1), (2, .int v2)] [] (s, r)
def E_X8_ones_4 (F : FX) (G : GX) (Q : State → Prop) (s : MM) (r : SR) : Int32 → Prop := fun q => match q with
  | v1 => At F G Q 3 20 [(1, .int v1)] [] (s, r)
def lb_X8_ones_4 (n : Nat) (v1 : Int32) (v2 : Int32) : Option ((Int32) ⊕ (Int32 × Int32)) :=
  (if v2 = 0 then some (.inl v1) else nm (v1 + 1) (fun v1_1 => nm (v2 &&& (v2 - (1 : Int32))) (fun v2_2 => some (.inr (v1_1, v2_2)))))
set_option maxHeartbeats 4000000 in
theorem w_X8_ones_4 {F : FX} {G : GX} {Q : State → Prop} (C : Cx F G cX8_ones 3 RX8) (hR : Rm F 2) (n : Nat) (s : MM) (r : SR)  (v1 : Int32) (v2 : Int32) (res : (Int32) ⊕ (Int32 × Int32)) (hf : lb_X8_ones_4 n v1 v2 = some res) (hK : Sum.elim (E_X8_ones_4 F G Q s r) (fun q => match q with | (v1, v2) => P_X8_ones_4 F G Q s r v1 v2) res) : P_X8_ones_4 F G Q s r v1 v2 := by
  unfold lb_X8_ones_4 at hf
  show At F G Q 3 4 [(1, .int v1), (2, .int v2)] [] (s, r)
  refine a_iload_n C (i := 2) (q := 5) dX8_ones_4 rfl 1 rfl rfl ?_
  refine a_if_eq C (tgt := 20) (q := 8) dX8_ones_5 hf (by decide) rfl (fun hf => ?_) (fun hf => ?_)
  · have hf := Option.some.inj hf; subst hf
    exact a_sub [0] rfl (show At F G Q 3 20 [(1, .int v1)] [] (s, r) from hK)
  · refine a_iincN C (i := 1) (k := 0) (q := 11) (lv' := fun z => [(1, .int z), (2, .int v2)]) dX8_ones_8 hf rfl rfl (by decide) (fun _ => rfl) rfl (fun v1_1 hf => ?_)
    refine a_iload_n C (i := 2) (q := 12) dX8_ones_11 rfl 1 rfl rfl ?_
    refine a_iload_n C (i := 2) (q := 13) dX8_ones_12 rfl 1 rfl rfl ?_
    refine a_iconst C (v := (1 : Int32)) (q := 14) dX8_ones_13 rfl (by decide) ?_
    refine a_isub C (q := 15) dX8_ones_14 rfl ?_
    refine a_iand C (q := 16) dX8_ones_15 rfl ?_
    refine a_istore_nN C (i := 2) (q := 17) (lv' := fun z => [(2, .int z), (1, .int v1_1)]) dX8_ones_16 hf rfl (by decide) (fun _ => rfl) rfl (fun v2_2 hf => ?_)
    refine a_goto C (q := 4) dX8_ones_17 (by decide) ?_
    have hf := Option.some.inj hf; subst hf
    exact a_sub [1, 0] rfl (show At F G Q 3 4 [(1, .int v1_1), (2, .int v2_2)] [] (s, r) from hK)
theorem lp_X8_ones_4 {F : FX} {G : GX} {Q : State → Prop} (C : Cx F G cX8_ones 3 RX8) (hR : Rm F 2) (n : Nat) (s : MM) (r : SR)  (v1 : Int32) (v2 : Int32) (x : Int32) (h : it2 (lb_X8_ones_4 n ) n v1 v2 = some x) (hE : E_X8_ones_4 F G Q s r x) : At F G Q 3 4 [(1, .int v1), (2, .int v2)] [] (s, r) :=
  it2_ind (b := (lb_X8_ones_4 n )) (E := E_X8_ones_4 F G Q s r) (P := fun v1 v2 => P_X8_ones_4 F G Q s r v1 v2) (fun v1 v2 res hf hK => w_X8_ones_4 C hR n s r   v1 v2 res hf hK) n v1 v2 x h hE
def f_X8_ones (n : Nat) (v0 : Int32) : Option (Int32) :=
  b1 (it2 (lb_X8_ones_4 n ) n (0 : Int32) v0) (fun v1_3 => some v1_3)
set_option maxHeartbeats 4000000 in
theorem w_X8_ones_e {F : FX} {G : GX} {Q : State → Prop} (C : Cx F G cX8_ones 3 RX8) (hR : Rm F 2) (n : Nat) (s : MM) (r : SR)  (v0 : Int32) (res : Int32) (hf : f_X8_ones n v0 = some res) (hK : RetI F G Q cX8_ones 3 .int res (s, r)) : At F G Q 3 0 [(0, .int v0)] [] (s, r) := by
  unfold f_X8_ones at hf
  refine a_iconst C (v := (0 : Int32)) (q := 1) dX8_ones_0 rfl (by decide) ?_
  refine a_istore_n C (i := 1) (q := 2) (lv' := [(1, .int (0 : Int32)), (0, .int v0)]) dX8_ones_1 rfl (by decide) rfl rfl ?_
  refine a_iload_n C (i := 0) (q := 3) dX8_ones_2 rfl 1 rfl rfl ?_
  refine a_istore_n C (i := 2) (q := 4) (lv' := [(2, .int v0), (1, .int (0 : Int32)), (0, .int v0)]) dX8_ones_3 rfl (by decide) rfl rfl ?_
  obtain ⟨v1_3, h1, hf⟩ := b1_some hf
  refine a_sub [1, 0] rfl (lp_X8_ones_4 C hR n s r  (0 : Int32) v0 _ h1 ?_)
  show At F G Q 3 20 [(1, .int v1_3)] [] (s, r)
  refine a_iload_n C (i := 1) (q := 21) dX8_ones_20 rfl 0 rfl rfl ?_
  have hf := Option.some.inj hf; subst hf
  exact (show RetI F G Q cX8_ones 3 .int v1_3 (s, r) from hK) rfl _ _ dX8_ones_21
theorem c_X8_ones (l : Launch) (G : GX) (n : Nat) (s : MM) (r : SR) (v0 : Int32) (res : Int32) (hf : f_X8_ones n v0 = some res) : MetC l G yX8_ones cX8_ones 3 (some .int) 2 (s, r) [.int v0] (PostI G res (s, r)) :=
  m_I (by decide) (Nat.le_of_ble_eq_true rfl) (fun F Q C h1 h2 h3 hK => w_X8_ones_e C (Rm.of h1 h3) n s r v0 res hf hK)
theorem cw_X8_isAllIn : CwV RX8 yX8_isAllIn cX8_isAllIn 3 2 (some .boolean) := ⟨k_1049, k_1048, kp_38, k_9, by decide +kernel, by decide⟩
def f_X8_isAllIn (n : Nat) (t : SR) (v1 : Int32) (v2 : Int32) : Option (Int32) :=
  (if v1 ≤ 0 then some (0 : Int32) else (if ((1 : Int32) <<< ((t.1 39 4) &&& 31)) ≤ v1 then some (0 : Int32) else b1 (f_X8_ones n v1) (fun y_1 => (if (4 : Int32) < y_1 then some (0 : Int32) else b1 (f_X8_whoIn n t (12 : Int32)) (fun y_2 => (if (y_2 &&& v1) = v1 then b1 (f_X8_in v2.toInt64 (0 : Int64) (2 : Int64)) (fun y_3 => (if y_3 = 0 then some (0 : Int32) else some (1 : Int32))) else some (0 : Int32)))))))
set_option maxHeartbeats 4000000 in
theorem w_X8_isAllIn_e {F : FX} {G : GX} {Q : State → Prop} (C : Cx F G cX8_isAllIn 3 RX8) (hR : Rm F 3) (n : Nat) (s : MM) (t : SR)  (v1 : Int32) (v2 : Int32) (res : Int32) (hf : f_X8_isAllIn n t v1 v2 = some res) (hK : RetI F G Q cX8_isAllIn 3 .boolean res (s, t)) : At F G Q 3 0 [(0, .ref (G.2.1 39)), (1, .int v1), (2, .int v2)] [] (s, t) := by
  unfold f_X8_isAllIn at hf
  refine a_iload_n C (i := 1) (q := 1) dX8_isAllIn_0 rfl 1 rfl rfl ?_
  refine a_if_le C (tgt := 50) (q := 4) dX8_isAllIn_1 hf (by decide) rfl (fun hf => ?_) (fun hf => ?_)
  · refine a_iconst C (v := (0 : Int32)) (q := 51) dX8_isAllIn_50 rfl (by decide) ?_
    have hf := Option.some.inj hf; subst hf
    exact (show RetI F G Q cX8_isAllIn 3 .boolean (0 : Int32) (s, t) from hK) rfl _ _ dX8_isAllIn_51
  · refine a_iload_n C (i := 1) (q := 5) dX8_isAllIn_4 rfl 1 rfl rfl ?_
    refine a_iconst C (v := (1 : Int32)) (q := 6) dX8_isAllIn_5 rfl (by decide) ?_
    refine a_aload_n C (i := 0) (q := 7) dX8_isAllIn_6 rfl 0 rfl rfl ?_
    refine a_get8 C (q := 10) dX8_isAllIn_7 4 (by decide) k_772 (by decide) rfl rfl rfl ?_
    refine a_ishl C (q := 11) dX8_isAllIn_10 rfl ?_
    refine a_icmp_ge C (tgt := 50) (q := 14) dX8_isAllIn_11 hf (by decide) rfl (fun hf => ?_) (fun hf => ?_)
    · refine a_iconst C (v := (0 : Int32)) (q := 51) dX8_isAllIn_50 rfl (by decide) ?_
      have hf := Option.some.inj hf; subst hf
      exact (show RetI F G Q cX8_isAllIn 3 .boolean (0 : Int32) (s, t) from hK) rfl _ _ dX8_isAllIn_51
    · refine a_iload_n C (i := 1) (q := 15) dX8_isAllIn_14 rfl 1 rfl rfl ?_
      refine a_callSI C (q := 18) (As := [.int v1]) (st := []) dX8_isAllIn_15 hR (by decide) hf (fun b => b) (fun _ => (s, t)) cw_X8_ones (fun b hb => c_X8_ones _ G n s t v1 b hb) rfl rfl (Nat.le_of_ble_eq_true rfl) k_1050 rfl (fun y_1 hf => ?_)
      refine a_iconst C (v := (4 : Int32)) (q := 19) dX8_isAllIn_18 rfl (by decide) ?_
      refine a_icmp_gt C (tgt := 50) (q := 22) dX8_isAllIn_19 hf (by decide) rfl (fun hf => ?_) (fun hf => ?_)
      · refine a_iconst C (v := (0 : Int32)) (q := 51) dX8_isAllIn_50 rfl (by decide) ?_
        have hf := Option.some.inj hf; subst hf
        exact (show RetI F G Q cX8_isAllIn 3 .boolean (0 : Int32) (s, t) from hK) rfl _ _ dX8_isAllIn_51
      · refine a_aload_n C (i := 0) (q := 23) dX8_isAllIn_22 rfl 0 rfl rfl ?_
        refine a_bipush C (v := (12 : Int32)) (q := 25) dX8_isAllIn_23 rfl (by decide) ?_
        refine a_callVI C (q := 28) (As := [.int (12 : Int32)]) (st := []) dX8_isAllIn_25 hR (by decide) hf (fun b => b) (fun _ => (s, t)) (by decide) rfl rfl cw_X8_whoIn (fun b hb => c_X8_whoIn _ G n s t (12 : Int32) b hb) rfl rfl (Nat.le_of_ble_eq_true rfl) k_904 rfl (fun y_2 hf => ?_)
        refine a_iload_n C (i := 1) (q := 29) dX8_isAllIn_28 rfl 1 rfl rfl ?_
        refine a_iand C (q := 30) dX8_isAllIn_29 rfl ?_
        refine a_iload_n C (i := 1) (q := 31) dX8_isAllIn_30 rfl 1 rfl rfl ?_
        refine a_icmp_ne C (tgt := 50) (q := 34) dX8_isAllIn_31 hf (by decide) rfl (fun hf => ?_) (fun hf => ?_)
        · refine a_iconst C (v := (0 : Int32)) (q := 51) dX8_isAllIn_50 rfl (by decide) ?_
          have hf := Option.some.inj hf; subst hf
          exact (show RetI F G Q cX8_isAllIn 3 .boolean (0 : Int32) (s, t) from hK) rfl _ _ dX8_isAllIn_51
        · refine a_iload_n C (i := 2) (q := 35) dX8_isAllIn_34 rfl 2 rfl rfl ?_
          refine a_i2l C (q := 36) dX8_isAllIn_35 rfl ?_
          refine a_lconst C (v := (0 : Int64)) (q := 37) dX8_isAllIn_36 rfl (by decide) ?_
          refine a_ldc2 C (v := (2 : Int64)) (q := 40) dX8_isAllIn_37 rfl k_943 ?_
          refine a_callSI C (q := 43) (As := [.long v2.toInt64, .long (0 : Int64), .long (2 : Int64)]) (st := []) dX8_isAllIn_40 hR (by decide) hf (fun b => b) (fun _ => (s, t)) cw_X8_in (fun b hb => c_X8_in _ G s t v2.toInt64 (0 : Int64) (2 : Int64) b hb) rfl rfl (Nat.le_of_ble_eq_true rfl) k_880 rfl (fun y_3 hf => ?_)
          refine a_if_eq C (tgt := 50) (q := 46) dX8_isAllIn_43 hf (by decide) rfl (fun hf => ?_) (fun hf => ?_)
          · refine a_iconst C (v := (0 : Int32)) (q := 51) dX8_isAllIn_50 rfl (by decide) ?_
            have hf := Option.some.inj hf; subst hf
            exact (show RetI F G Q cX8_isAllIn 3 .boolean (0 : Int32) (s, t) from hK) rfl _ _ dX8_isAllIn_51
          · refine a_iconst C (v := (1 : Int32)) (q := 47) dX8_isAllIn_46 rfl (by decide) ?_
            refine a_goto C (q := 51) dX8_isAllIn_47 (by decide) ?_
            have hf := Option.some.inj hf; subst hf
            exact (show RetI F G Q cX8_isAllIn 3 .boolean (1 : Int32) (s, t) from hK) rfl _ _ dX8_isAllIn_51
theorem c_X8_isAllIn (l : Launch) (G : GX) (n : Nat) (s : MM) (t : SR) (v1 : Int32) (v2 : Int32) (res : Int32) (hf : f_X8_isAllIn n t v1 v2 = some res) : MetC l G yX8_isAllIn cX8_isAllIn 3 (some .boolean) 3 (s, t) [.ref (G.2.1 39), .int v1, .int v2] (PostI G res (s, t)) :=
  m_I (by decide) (Nat.le_of_ble_eq_true rfl) (fun F Q C h1 h2 h3 hK => w_X8_isAllIn_e C (Rm.of h1 h3) n s t v1 v2 res hf hK)
theorem cw_X8_areSo : CwV RX8 yX8_areSo cX8_areSo 4 1 (some .boolean) := ⟨k_1060, k_1059, kp_40, k_9, by decide +kernel, by decide⟩
def P_X8_areSo_4 (F : FX) (G : GX) (Q : State → Prop) (s : MM) (t : SR) (v1 : Int32) (v2 : Int32) (v3 : Int32) : Prop := At F G Q 4 4 [(0, .ref (G.2.1 39)), (1, .int v1), (2, .int v2), (3, .int v3)] [] (s, t)
def E_X8_areSo_4 (F : FX) (G : GX) (Q : State → Prop) (s : MM) (t : SR) (v1 : Int32) : Int32 → Prop := fun q => match q with
  | v2 => At F G Q 4 74 [(2, .int v2)] [] (s, t)
def lb_X8_areSo_4 (n : Nat) (t : SR) (v1 : Int32) (v2 : Int32) (v3 : Int32) : Option ((Int32) ⊕ (Int32 × Int32)) :=
  (if (t.1 39 24) ≤ v3 then some (.inl v2) else (if v2 = 0 then nm (v3 + 1) (fun v3_1 => some (.inr ((0 : Int32), v3_1))) else (if v1 = 0 then nm (v3 + 1) (fun v3_2 => some (.inr ((1 : Int32), v3_2))) else (if v1 = (1 : Int32) then ix v3 4 (ix (v3 - (1 : Int32)) 4 ((if (t.1 49 v3.toNatClampNeg) < (t.1 49 ((v3 - (1 : Int32)).toNatClampNeg)) then nm (v3 + 1) (fun v3_5 => some (.inr ((0 : Int32), v3_5))) else nm (v3 + 1) (fun v3_6 => some (.inr ((1 : Int32), v3_6)))))) else ix v3 4 (ix (v3 - (1 : Int32)) 4 ((if (t.1 49 v3.toNatClampNeg) = (t.1 49 ((v3 - (1 : Int32)).toNatClampNeg)) then nm (v3 + 1) (fun v3_4 => some (.inr ((1 : Int32), v3_4))) else nm (v3 + 1) (fun v3_3 => some (.inr ((0 : Int32), v3_3))))))))))
set_option maxHeartbeats 4000000 in
theorem w_X8_areSo_4 {F : FX} {G : GX} {Q : State → Prop} (C : Cx F G cX8_areSo 4 RX8) (hR : Rm F 2) (n : Nat) (s : MM) (t : SR) (v1 : Int32)  (v2 : Int32) (v3 : Int32) (res : (Int32) ⊕ (Int32 × Int32)) (hf : lb_X8_areSo_4 n t v1 v2 v3 = some res) (hK : Sum.elim (E_X8_areSo_4 F G Q s t v1) (fun q => match q with | (v2, v3) => P_X8_areSo_4 F G Q s t v1 v2 v3) res) : P_X8_areSo_4 F G Q s t v1 v2 v3 := by
  unfold lb_X8_areSo_4 at hf
  show At F G Q 4 4 [(0, .ref (G.2.1 39)), (1, .int v1), (2, .int v2), (3, .int v3)] [] (s, t)
  refine a_iload_n C (i := 3) (q := 5) dX8_areSo_4 rfl 3 rfl rfl ?_
  refine a_aload_n C (i := 0) (q := 6) dX8_areSo_5 rfl 0 rfl rfl ?_
  refine a_get8 C (q := 9) dX8_areSo_6 24 (by decide) k_792 (by decide) rfl rfl rfl ?_
  refine a_icmp_ge C (tgt := 74) (q := 12) dX8_areSo_9 hf (by decide) rfl (fun hf => ?_) (fun hf => ?_)
  · have hf := Option.some.inj hf; subst hf
    exact a_sub [2] rfl (show At F G Q 4 74 [(2, .int v2)] [] (s, t) from hK)
  · refine a_iload_n C (i := 2) (q := 13) dX8_areSo_12 rfl 2 rfl rfl ?_
    refine a_if_eq C (tgt := 66) (q := 16) dX8_areSo_13 hf (by decide) rfl (fun hf => ?_) (fun hf => ?_)
    · refine a_iconst C (v := (0 : Int32)) (q := 67) dX8_areSo_66 rfl (by decide) ?_
      refine a_istore_n C (i := 2) (q := 68) (lv' := [(2, .int (0 : Int32)), (0, .ref (G.2.1 39)), (1, .int v1), (3, .int v3)]) dX8_areSo_67 rfl (by decide) rfl rfl ?_
      refine a_iincN C (i := 3) (k := 3) (q := 71) (lv' := fun z => [(3, .int z), (2, .int (0 : Int32)), (0, .ref (G.2.1 39)), (1, .int v1)]) dX8_areSo_68 hf rfl rfl (by decide) (fun _ => rfl) rfl (fun v3_1 hf => ?_)
      refine a_goto C (q := 4) dX8_areSo_71 (by decide) ?_
      have hf := Option.some.inj hf; subst hf
      exact a_sub [2, 3, 1, 0] rfl (show At F G Q 4 4 [(0, .ref (G.2.1 39)), (1, .int v1), (2, .int (0 : Int32)), (3, .int v3_1)] [] (s, t) from hK)
    · refine a_iload_n C (i := 1) (q := 17) dX8_areSo_16 rfl 1 rfl rfl ?_
      refine a_if_eq C (tgt := 62) (q := 20) dX8_areSo_17 hf (by decide) rfl (fun hf => ?_) (fun hf => ?_)
      · refine a_iconst C (v := (1 : Int32)) (q := 63) dX8_areSo_62 rfl (by decide) ?_
        refine a_goto C (q := 67) dX8_areSo_63 (by decide) ?_
        refine a_istore_n C (i := 2) (q := 68) (lv' := [(2, .int (1 : Int32)), (0, .ref (G.2.1 39)), (1, .int v1), (3, .int v3)]) dX8_areSo_67 rfl (by decide) rfl rfl ?_
        refine a_iincN C (i := 3) (k := 3) (q := 71) (lv' := fun z => [(3, .int z), (2, .int (1 : Int32)), (0, .ref (G.2.1 39)), (1, .int v1)]) dX8_areSo_68 hf rfl rfl (by decide) (fun _ => rfl) rfl (fun v3_2 hf => ?_)
        refine a_goto C (q := 4) dX8_areSo_71 (by decide) ?_
        have hf := Option.some.inj hf; subst hf
        exact a_sub [2, 3, 1, 0] rfl (show At F G Q 4 4 [(0, .ref (G.2.1 39)), (1, .int v1), (2, .int (1 : Int32)), (3, .int v3_2)] [] (s, t) from hK)
      · refine a_iload_n C (i := 1) (q := 21) dX8_areSo_20 rfl 1 rfl rfl ?_
        refine a_iconst C (v := (1 : Int32)) (q := 22) dX8_areSo_21 rfl (by decide) ?_
        refine a_icmp_ne C (tgt := 45) (q := 25) dX8_areSo_22 hf (by decide) rfl (fun hf => ?_) (fun hf => ?_)
        · refine a_aload_n C (i := 0) (q := 46) dX8_areSo_45 rfl 0 rfl rfl ?_
          refine a_get8 C (q := 49) dX8_areSo_46 22 (by decide) k_790 (by decide) rfl rfl rfl ?_
          refine a_iload_n C (i := 3) (q := 50) dX8_areSo_49 rfl 3 rfl rfl ?_
          refine a_iald C (q := 51) (g := t.1 49) dX8_areSo_50 hf (by decide) rfl rfl (fun hf => ?_)
          refine a_aload_n C (i := 0) (q := 52) dX8_areSo_51 rfl 0 rfl rfl ?_
          refine a_get8 C (q := 55) dX8_areSo_52 22 (by decide) k_790 (by decide) rfl rfl rfl ?_
          refine a_iload_n C (i := 3) (q := 56) dX8_areSo_55 rfl 3 rfl rfl ?_
          refine a_iconst C (v := (1 : Int32)) (q := 57) dX8_areSo_56 rfl (by decide) ?_
          refine a_isub C (q := 58) dX8_areSo_57 rfl ?_
          refine a_iald C (q := 59) (g := t.1 49) dX8_areSo_58 hf (by decide) rfl rfl (fun hf => ?_)
          refine a_icmp_ne C (tgt := 66) (q := 62) dX8_areSo_59 hf (by decide) rfl (fun hf => ?_) (fun hf => ?_)
          · refine a_iconst C (v := (0 : Int32)) (q := 67) dX8_areSo_66 rfl (by decide) ?_
            refine a_istore_n C (i := 2) (q := 68) (lv' := [(2, .int (0 : Int32)), (0, .ref (G.2.1 39)), (1, .int v1), (3, .int v3)]) dX8_areSo_67 rfl (by decide) rfl rfl ?_
            refine a_iincN C (i := 3) (k := 3) (q := 71) (lv' := fun z => [(3, .int z), (2, .int (0 : Int32)), (0, .ref (G.2.1 39)), (1, .int v1)]) dX8_areSo_68 hf rfl rfl (by decide) (fun _ => rfl) rfl (fun v3_3 hf => ?_)
            refine a_goto C (q := 4) dX8_areSo_71 (by decide) ?_
            have hf := Option.some.inj hf; subst hf
            exact a_sub [2, 3, 1, 0] rfl (show At F G Q 4 4 [(0, .ref (G.2.1 39)), (1, .int v1), (2, .int (0 : Int32)), (3, .int v3_3)] [] (s, t) from hK)
          · refine a_iconst C (v := (1 : Int32)) (q := 63) dX8_areSo_62 rfl (by decide) ?_
            refine a_goto C (q := 67) dX8_areSo_63 (by decide) ?_
            refine a_istore_n C (i := 2) (q := 68) (lv' := [(2, .int (1 : Int32)), (0, .ref (G.2.1 39)), (1, .int v1), (3, .int v3)]) dX8_areSo_67 rfl (by decide) rfl rfl ?_
            refine a_iincN C (i := 3) (k := 3) (q := 71) (lv' := fun z => [(3, .int z), (2, .int (1 : Int32)), (0, .ref (G.2.1 39)), (1, .int v1)]) dX8_areSo_68 hf rfl rfl (by decide) (fun _ => rfl) rfl (fun v3_4 hf => ?_)
            refine a_goto C (q := 4) dX8_areSo_71 (by decide) ?_
            have hf := Option.some.inj hf; subst hf
            exact a_sub [2, 3, 1, 0] rfl (show At F G Q 4 4 [(0, .ref (G.2.1 39)), (1, .int v1), (2, .int (1 : Int32)), (3, .int v3_4)] [] (s, t) from hK)
        · refine a_aload_n C (i := 0) (q := 26) dX8_areSo_25 rfl 0 rfl rfl ?_
          refine a_get8 C (q := 29) dX8_areSo_26 22 (by decide) k_790 (by decide) rfl rfl rfl ?_
          refine a_iload_n C (i := 3) (q := 30) dX8_areSo_29 rfl 3 rfl rfl ?_
          refine a_iald C (q := 31) (g := t.1 49) dX8_areSo_30 hf (by decide) rfl rfl (fun hf => ?_)
          refine a_aload_n C (i := 0) (q := 32) dX8_areSo_31 rfl 0 rfl rfl ?_
          refine a_get8 C (q := 35) dX8_areSo_32 22 (by decide) k_790 (by decide) rfl rfl rfl ?_
          refine a_iload_n C (i := 3) (q := 36) dX8_areSo_35 rfl 3 rfl rfl ?_
          refine a_iconst C (v := (1 : Int32)) (q := 37) dX8_areSo_36 rfl (by decide) ?_
          refine a_isub C (q := 38) dX8_areSo_37 rfl ?_
          refine a_iald C (q := 39) (g := t.1 49) dX8_areSo_38 hf (by decide) rfl rfl (fun hf => ?_)
          refine a_icmp_lt C (tgt := 66) (q := 42) dX8_areSo_39 hf (by decide) rfl (fun hf => ?_) (fun hf => ?_)
          · refine a_iconst C (v := (0 : Int32)) (q := 67) dX8_areSo_66 rfl (by decide) ?_
            refine a_istore_n C (i := 2) (q := 68) (lv' := [(2, .int (0 : Int32)), (0, .ref (G.2.1 39)), (1, .int v1), (3, .int v3)]) dX8_areSo_67 rfl (by decide) rfl rfl ?_
            refine a_iincN C (i := 3) (k := 3) (q := 71) (lv' := fun z => [(3, .int z), (2, .int (0 : Int32)), (0, .ref (G.2.1 39)), (1, .int v1)]) dX8_areSo_68 hf rfl rfl (by decide) (fun _ => rfl) rfl (fun v3_5 hf => ?_)
            refine a_goto C (q := 4) dX8_areSo_71 (by decide) ?_
            have hf := Option.some.inj hf; subst hf
            exact a_sub [2, 3, 1, 0] rfl (show At F G Q 4 4 [(0, .ref (G.2.1 39)), (1, .int v1), (2, .int (0 : Int32)), (3, .int v3_5)] [] (s, t) from hK)
          · refine a_goto C (q := 62) dX8_areSo_42 (by decide) ?_
            refine a_iconst C (v := (1 : Int32)) (q := 63) dX8_areSo_62 rfl (by decide) ?_
            refine a_goto C (q := 67) dX8_areSo_63 (by decide) ?_
            refine a_istore_n C (i := 2) (q := 68) (lv' := [(2, .int (1 : Int32)), (0, .ref (G.2.1 39)), (1, .int v1), (3, .int v3)]) dX8_areSo_67 rfl (by decide) rfl rfl ?_
            refine a_iincN C (i := 3) (k := 3) (q := 71) (lv' := fun z => [(3, .int z), (2, .int (1 : Int32)), (0, .ref (G.2.1 39)), (1, .int v1)]) dX8_areSo_68 hf rfl rfl (by decide) (fun _ => rfl) rfl (fun v3_6 hf => ?_)
            refine a_goto C (q := 4) dX8_areSo_71 (by decide) ?_
            have hf := Option.some.inj hf; subst hf
            exact a_sub [2, 3, 1, 0] rfl (show At F G Q 4 4 [(0, .ref (G.2.1 39)), (1, .int v1), (2, .int (1 : Int32)), (3, .int v3_6)] [] (s, t) from hK)
theorem lp_X8_areSo_4 {F : FX} {G : GX} {Q : State → Prop} (C : Cx F G cX8_areSo 4 RX8) (hR : Rm F 2) (n : Nat) (s : MM) (t : SR) (v1 : Int32)  (v2 : Int32) (v3 : Int32) (x : Int32) (h : it2 (lb_X8_areSo_4 n t v1) n v2 v3 = some x) (hE : E_X8_areSo_4 F G Q s t v1 x) : At F G Q 4 4 [(0, .ref (G.2.1 39)), (1, .int v1), (2, .int v2), (3, .int v3)] [] (s, t) :=
  it2_ind (b := (lb_X8_areSo_4 n t v1)) (E := E_X8_areSo_4 F G Q s t v1) (P := fun v2 v3 => P_X8_areSo_4 F G Q s t v1 v2 v3) (fun v2 v3 res hf hK => w_X8_areSo_4 C hR n s t v1   v2 v3 res hf hK) n v2 v3 x h hE
def f_X8_areSo (n : Nat) (t : SR) (v1 : Int32) : Option (Int32) :=
  b1 (it2 (lb_X8_areSo_4 n t v1) n (1 : Int32) (1 : Int32)) (fun v2_7 => bz v2_7 (some v2_7))
set_option maxHeartbeats 4000000 in
theorem w_X8_areSo_e {F : FX} {G : GX} {Q : State → Prop} (C : Cx F G cX8_areSo 4 RX8) (hR : Rm F 2) (n : Nat) (s : MM) (t : SR)  (v1 : Int32) (res : Int32) (hf : f_X8_areSo n t v1 = some res) (hK : RetI F G Q cX8_areSo 4 .boolean res (s, t)) : At F G Q 4 0 [(0, .ref (G.2.1 39)), (1, .int v1)] [] (s, t) := by
  unfold f_X8_areSo at hf
  refine a_iconst C (v := (1 : Int32)) (q := 1) dX8_areSo_0 rfl (by decide) ?_
  refine a_istore_n C (i := 2) (q := 2) (lv' := [(2, .int (1 : Int32)), (0, .ref (G.2.1 39)), (1, .int v1)]) dX8_areSo_1 rfl (by decide) rfl rfl ?_
  refine a_iconst C (v := (1 : Int32)) (q := 3) dX8_areSo_2 rfl (by decide) ?_
  refine a_istore_n C (i := 3) (q := 4) (lv' := [(3, .int (1 : Int32)), (2, .int (1 : Int32)), (0, .ref (G.2.1 39)), (1, .int v1)]) dX8_areSo_3 rfl (by decide) rfl rfl ?_
  obtain ⟨v2_7, h1, hf⟩ := b1_some hf
  refine a_sub [2, 3, 1, 0] rfl (lp_X8_areSo_4 C hR n s t v1  (1 : Int32) (1 : Int32) _ h1 ?_)
  show At F G Q 4 74 [(2, .int v2_7)] [] (s, t)
  refine a_iload_n C (i := 2) (q := 75) dX8_areSo_74 rfl 0 rfl rfl ?_
  obtain ⟨hz, hf⟩ := bz_some hf
  have hf := Option.some.inj hf; subst hf
  exact (show RetI F G Q cX8_areSo 4 .boolean v2_7 (s, t) from hK) hz _ _ dX8_areSo_75
theorem c_X8_areSo (l : Launch) (G : GX) (n : Nat) (s : MM) (t : SR) (v1 : Int32) (res : Int32) (hf : f_X8_areSo n t v1 = some res) : MetC l G yX8_areSo cX8_areSo 4 (some .boolean) 2 (s, t) [.ref (G.2.1 39), .int v1] (PostI G res (s, t)) :=
  m_I (by decide) (Nat.le_of_ble_eq_true rfl) (fun F Q C h1 h2 h3 hK => w_X8_areSo_e C (Rm.of h1 h3) n s t v1 res hf hK)
theorem cw_X8_canBoard : CwV RX8 yX8_canBoard cX8_canBoard 5 0 (some .boolean) := ⟨k_1064, k_1063, kp_41, k_9, by decide +kernel, by decide⟩
def P_X8_canBoard_8 (F : FX) (G : GX) (Q : State → Prop) (s : MM) (v1 : Int32) (v2 : Int32) (t : SR) : Prop := At F G Q 5 8 [(0, .ref (G.2.1 39)), (1, .int v1), (2, .int v2)] [] (s, t)
def E_X8_canBoard_8 (F : FX) (G : GX) (Q : State → Prop) (s : MM) : Int32 × SR → Prop := fun q => match q with
  | (v1, t) => At F G Q 5 129 [(1, .int v1)] [] (s, t)
def P_X8_canBoard_23 (F : FX) (G : GX) (Q : State → Prop) (s : MM) (t : SR) (v1 : Int32) (v2 : Int32) (v3 : Int32) (v4 : Int32) : Prop := At F G Q 5 23 [(0, .ref (G.2.1 39)), (1, .int v1), (2, .int v2), (3, .int v3), (4, .int v4)] [] (s, t)
def E_X8_canBoard_23 (F : FX) (G : GX) (Q : State → Prop) (s : MM) (t : SR) (v1 : Int32) (v2 : Int32) : Int32 → Prop := fun q => match q with
  | v3 => At F G Q 5 65 [(0, .ref (G.2.1 39)), (1, .int v1), (2, .int v2), (3, .int v3)] [] (s, t)
def lb_X8_canBoard_23 (n : Nat) (t : SR) (v1 : Int32) (v2 : Int32) (v3 : Int32) (v4 : Int32) : Option ((Int32) ⊕ (Int32 × Int32)) :=
  (if (t.1 39 24) ≤ v4 then some (.inl v3) else ix v4 4 ((if (t.1 49 v4.toNatClampNeg) = v2 then ix v4 4 (nm (v3 ||| ((1 : Int32) <<< ((t.1 48 v4.toNatClampNeg) &&& 31))) (fun v3_4 => nm (v4 + 1) (fun v4_5 => some (.inr (v3_4, v4_5))))) else nm (v3 ||| (0 : Int32)) (fun v3_2 => nm (v4 + 1) (fun v4_3 => some (.inr (v3_2, v4_3)))))))
set_option maxHeartbeats 4000000 in
theorem w_X8_canBoard_23 {F : FX} {G : GX} {Q : State → Prop} (C : Cx F G cX8_canBoard 5 RX8) (hR : Rm F 5) (n : Nat) (s : MM) (t : SR) (v1 : Int32) (v2 : Int32)  (v3 : Int32) (v4 : Int32) (res : (Int32) ⊕ (Int32 × Int32)) (hf : lb_X8_canBoard_23 n t v1 v2 v3 v4 = some res) (hK : Sum.elim (E_X8_canBoard_23 F G Q s t v1 v2) (fun q => match q with | (v3, v4) => P_X8_canBoard_23 F G Q s t v1 v2 v3 v4) res) : P_X8_canBoard_23 F G Q s t v1 v2 v3 v4 := by
  unfold lb_X8_canBoard_23 at hf
  show At F G Q 5 23 [(0, .ref (G.2.1 39)), (1, .int v1), (2, .int v2), (3, .int v3), (4, .int v4)] [] (s, t)
  refine a_iload C (i := 4) (q := 25) dX8_canBoard_23 rfl 4 rfl ?_
  refine a_aload_n C (i := 0) (q := 26) dX8_canBoard_25 rfl 0 rfl rfl ?_
  refine a_get8 C (q := 29) dX8_canBoard_26 24 (by decide) k_792 (by decide) rfl rfl rfl ?_
  refine a_icmp_ge C (tgt := 65) (q := 32) dX8_canBoard_29 hf (by decide) rfl (fun hf => ?_) (fun hf => ?_)
  · have hf := Option.some.inj hf; subst hf
    exact a_sub [0, 1, 2, 3] rfl (show At F G Q 5 65 [(0, .ref (G.2.1 39)), (1, .int v1), (2, .int v2), (3, .int v3)] [] (s, t) from hK)
  · refine a_iload_n C (i := 3) (q := 33) dX8_canBoard_32 rfl 3 rfl rfl ?_
    refine a_aload_n C (i := 0) (q := 34) dX8_canBoard_33 rfl 0 rfl rfl ?_
    refine a_get8 C (q := 37) dX8_canBoard_34 22 (by decide) k_790 (by decide) rfl rfl rfl ?_
    refine a_iload C (i := 4) (q := 39) dX8_canBoard_37 rfl 4 rfl ?_
    refine a_iald C (q := 40) (g := t.1 49) dX8_canBoard_39 hf (by decide) rfl rfl (fun hf => ?_)
    refine a_iload_n C (i := 2) (q := 41) dX8_canBoard_40 rfl 2 rfl rfl ?_
    refine a_icmp_ne C (tgt := 56) (q := 44) dX8_canBoard_41 hf (by decide) rfl (fun hf => ?_) (fun hf => ?_)
    · refine a_iconst C (v := (0 : Int32)) (q := 57) dX8_canBoard_56 rfl (by decide) ?_
      refine a_ior C (q := 58) dX8_canBoard_57 rfl ?_
      refine a_istore_nN C (i := 3) (q := 59) (lv' := fun z => [(3, .int z), (0, .ref (G.2.1 39)), (1, .int v1), (2, .int v2), (4, .int v4)]) dX8_canBoard_58 hf rfl (by decide) (fun _ => rfl) rfl (fun v3_2 hf => ?_)
      refine a_iincN C (i := 4) (k := 4) (q := 62) (lv' := fun z => [(4, .int z), (3, .int v3_2), (0, .ref (G.2.1 39)), (1, .int v1), (2, .int v2)]) dX8_canBoard_59 hf rfl rfl (by decide) (fun _ => rfl) rfl (fun v4_3 hf => ?_)
      refine a_goto C (q := 23) dX8_canBoard_62 (by decide) ?_
      have hf := Option.some.inj hf; subst hf
      exact a_sub [2, 3, 4, 1, 0] rfl (show At F G Q 5 23 [(0, .ref (G.2.1 39)), (1, .int v1), (2, .int v2), (3, .int v3_2), (4, .int v4_3)] [] (s, t) from hK)
    · refine a_iconst C (v := (1 : Int32)) (q := 45) dX8_canBoard_44 rfl (by decide) ?_
      refine a_aload_n C (i := 0) (q := 46) dX8_canBoard_45 rfl 0 rfl rfl ?_
      refine a_get8 C (q := 49) dX8_canBoard_46 21 (by decide) k_789 (by decide) rfl rfl rfl ?_
      refine a_iload C (i := 4) (q := 51) dX8_canBoard_49 rfl 4 rfl ?_
      refine a_iald C (q := 52) (g := t.1 48) dX8_canBoard_51 hf (by decide) rfl rfl (fun hf => ?_)
      refine a_ishl C (q := 53) dX8_canBoard_52 rfl ?_
      refine a_goto C (q := 57) dX8_canBoard_53 (by decide) ?_
      refine a_ior C (q := 58) dX8_canBoard_57 rfl ?_
      refine a_istore_nN C (i := 3) (q := 59) (lv' := fun z => [(3, .int z), (0, .ref (G.2.1 39)), (1, .int v1), (2, .int v2), (4, .int v4)]) dX8_canBoard_58 hf rfl (by decide) (fun _ => rfl) rfl (fun v3_4 hf => ?_)
      refine a_iincN C (i := 4) (k := 4) (q := 62) (lv' := fun z => [(4, .int z), (3, .int v3_4), (0, .ref (G.2.1 39)), (1, .int v1), (2, .int v2)]) dX8_canBoard_59 hf rfl rfl (by decide) (fun _ => rfl) rfl (fun v4_5 hf => ?_)
      refine a_goto C (q := 23) dX8_canBoard_62 (by decide) ?_
      have hf := Option.some.inj hf; subst hf
      exact a_sub [2, 3, 4, 1, 0] rfl (show At F G Q 5 23 [(0, .ref (G.2.1 39)), (1, .int v1), (2, .int v2), (3, .int v3_4), (4, .int v4_5)] [] (s, t) from hK)
theorem lp_X8_canBoard_23 {F : FX} {G : GX} {Q : State → Prop} (C : Cx F G cX8_canBoard 5 RX8) (hR : Rm F 5) (n : Nat) (s : MM) (t : SR) (v1 : Int32) (v2 : Int32)  (v3 : Int32) (v4 : Int32) (x : Int32) (h : it2 (lb_X8_canBoard_23 n t v1 v2) n v3 v4 = some x) (hE : E_X8_canBoard_23 F G Q s t v1 v2 x) : At F G Q 5 23 [(0, .ref (G.2.1 39)), (1, .int v1), (2, .int v2), (3, .int v3), (4, .int v4)] [] (s, t) :=
  it2_ind (b := (lb_X8_canBoard_23 n t v1 v2)) (E := E_X8_canBoard_23 F G Q s t v1 v2) (P := fun v3 v4 => P_X8_canBoard_23 F G Q s t v1 v2 v3 v4) (fun v3 v4 res hf hK => w_X8_canBoard_23 C hR n s t v1 v2   v3 v4 res hf hK) n v3 v4 x h hE
def lb_X8_canBoard_8 (n : Nat) (v1 : Int32) (v2 : Int32) (t : SR) : Option ((Int32 × SR) ⊕ (Int32 × Int32 × SR)) :=
  (if (12 : Int32) ≤ v2 then some (.inl (v1, t)) else (if v1 = 0 then some (.inl (v1, t)) else b1 (it2 (lb_X8_canBoard_23 n t v1 v2) n (0 : Int32) (0 : Int32)) (fun v3_6 => (if v3_6 = 0 then nm (v2 + 1) (fun v2_7 => some (.inr (v1, v2_7, t))) else nm (((t.1 39 8) + v2) - ((t.1 39 8) + v2) / (12 : Int32) * (12 : Int32)) (fun v4_8 => ix v4_8 12 (b1 (f_X8_weightOf n t v3_6) (fun y_9 => ix v4_8 12 (nm (sr1 t 45 v4_8.toNatClampNeg ((t.1 45 v4_8.toNatClampNeg) + y_9)) (fun t_10 => b1 (f_X8_whoIn n t_10 v4_8) (fun y_11 => b1 (f_X8_fits n t_10 (y_11 ||| v3_6)) (fun y_12 => (if y_12 = 0 then nm (v2 + 1) (fun v2_13 => some (.inr ((0 : Int32), v2_13, t_10))) else b1 (f_X8_isEvenNow n t_10) (fun y_14 => (if y_14.1 = 0 then nm (v2 + 1) (fun v2_15 => some (.inr ((0 : Int32), v2_15, y_14.2))) else nm (v2 + 1) (fun v2_16 => some (.inr ((1 : Int32), v2_16, y_14.2)))))))))))))))))
set_option maxHeartbeats 4000000 in
theorem w_X8_canBoard_8 {F : FX} {G : GX} {Q : State → Prop} (C : Cx F G cX8_canBoard 5 RX8) (hR : Rm F 5) (n : Nat) (s : MM)  (v1 : Int32) (v2 : Int32) (t : SR) (res : (Int32 × SR) ⊕ (Int32 × Int32 × SR)) (hf : lb_X8_canBoard_8 n v1 v2 t = some res) (hK : Sum.elim (E_X8_canBoard_8 F G Q s) (fun q => match q with | (v1, v2, t) => P_X8_canBoard_8 F G Q s v1 v2 t) res) : P_X8_canBoard_8 F G Q s v1 v2 t := by
  unfold lb_X8_canBoard_8 at hf
  show At F G Q 5 8 [(0, .ref (G.2.1 39)), (1, .int v1), (2, .int v2)] [] (s, t)
  refine a_iload_n C (i := 2) (q := 9) dX8_canBoard_8 rfl 2 rfl rfl ?_
  refine a_bipush C (v := (12 : Int32)) (q := 11) dX8_canBoard_9 rfl (by decide) ?_
  refine a_icmp_ge C (tgt := 129) (q := 14) dX8_canBoard_11 hf (by decide) rfl (fun hf => ?_) (fun hf => ?_)
  · have hf := Option.some.inj hf; subst hf
    exact a_sub [1] rfl (show At F G Q 5 129 [(1, .int v1)] [] (s, t) from hK)
  · refine a_iload_n C (i := 1) (q := 15) dX8_canBoard_14 rfl 1 rfl rfl ?_
    refine a_if_eq C (tgt := 129) (q := 18) dX8_canBoard_15 hf (by decide) rfl (fun hf => ?_) (fun hf => ?_)
    · have hf := Option.some.inj hf; subst hf
      exact a_sub [1] rfl (show At F G Q 5 129 [(1, .int v1)] [] (s, t) from hK)
    · refine a_iconst C (v := (0 : Int32)) (q := 19) dX8_canBoard_18 rfl (by decide) ?_
      refine a_istore_n C (i := 3) (q := 20) (lv' := [(3, .int (0 : Int32)), (0, .ref (G.2.1 39)), (1, .int v1), (2, .int v2)]) dX8_canBoard_19 rfl (by decide) rfl rfl ?_
      refine a_iconst C (v := (0 : Int32)) (q := 21) dX8_canBoard_20 rfl (by decide) ?_
      refine a_istore C (i := 4) (q := 23) (lv' := [(4, .int (0 : Int32)), (3, .int (0 : Int32)), (0, .ref (G.2.1 39)), (1, .int v1), (2, .int v2)]) dX8_canBoard_21 (by decide) rfl rfl ?_
      obtain ⟨v3_6, h1, hf⟩ := b1_some hf
      refine a_sub [2, 3, 4, 1, 0] rfl (lp_X8_canBoard_23 C hR n s t v1 v2  (0 : Int32) (0 : Int32) _ h1 ?_)
      show At F G Q 5 65 [(0, .ref (G.2.1 39)), (1, .int v1), (2, .int v2), (3, .int v3_6)] [] (s, t)
      refine a_iload_n C (i := 3) (q := 66) dX8_canBoard_65 rfl 3 rfl rfl ?_
      refine a_if_eq C (tgt := 123) (q := 69) dX8_canBoard_66 hf (by decide) rfl (fun hf => ?_) (fun hf => ?_)
      · refine a_iincN C (i := 2) (k := 2) (q := 126) (lv' := fun z => [(2, .int z), (0, .ref (G.2.1 39)), (1, .int v1), (3, .int v3_6)]) dX8_canBoard_123 hf rfl rfl (by decide) (fun _ => rfl) rfl (fun v2_7 hf => ?_)
        refine a_goto C (q := 8) dX8_canBoard_126 (by decide) ?_
        have hf := Option.some.inj hf; subst hf
        exact a_sub [1, 2, 0] rfl (show At F G Q 5 8 [(0, .ref (G.2.1 39)), (1, .int v1), (2, .int v2_7)] [] (s, t) from hK)
      · refine a_aload_n C (i := 0) (q := 70) dX8_canBoard_69 rfl 0 rfl rfl ?_
        refine a_get8 C (q := 73) dX8_canBoard_70 8 (by decide) k_776 (by decide) rfl rfl rfl ?_
        refine a_iload_n C (i := 2) (q := 74) dX8_canBoard_73 rfl 2 rfl rfl ?_
        refine a_iadd C (q := 75) dX8_canBoard_74 rfl ?_
        refine a_bipush C (v := (12 : Int32)) (q := 77) dX8_canBoard_75 rfl (by decide) ?_
        refine a_irem C (q := 78) dX8_canBoard_77 rfl (by decide) ?_
        refine a_istoreN C (i := 4) (q := 80) (lv' := fun z => [(4, .int z), (0, .ref (G.2.1 39)), (1, .int v1), (2, .int v2), (3, .int v3_6)]) dX8_canBoard_78 hf (by decide) (fun _ => rfl) rfl (fun v4_8 hf => ?_)
        refine a_aload_n C (i := 0) (q := 81) dX8_canBoard_80 rfl 1 rfl rfl ?_
        refine a_get8 C (q := 84) dX8_canBoard_81 9 (by decide) k_777 (by decide) rfl rfl rfl ?_
        refine a_iload C (i := 4) (q := 86) dX8_canBoard_84 rfl 0 rfl ?_
        refine a_dup2 C (q := 87) dX8_canBoard_86 rfl rfl rfl ?_
        refine a_iald C (q := 88) (g := t.1 45) dX8_canBoard_87 hf (by decide) rfl rfl (fun hf => ?_)
        refine a_aload_n C (i := 0) (q := 89) dX8_canBoard_88 rfl 1 rfl rfl ?_
        refine a_iload_n C (i := 3) (q := 90) dX8_canBoard_89 rfl 4 rfl rfl ?_
        refine a_callVI C (q := 93) (As := [.int v3_6]) (st := [.int (t.1 45 v4_8.toNatClampNeg), .int v4_8, .ref (G.2.1 45)]) dX8_canBoard_90 hR (by decide) hf (fun b => b) (fun _ => (s, t)) (by decide) rfl rfl cw_X8_weightOf (fun b hb => c_X8_weightOf _ G n s t v3_6 b hb) rfl rfl (Nat.le_of_ble_eq_true rfl) k_908 rfl (fun y_9 hf => ?_)
        refine a_iadd C (q := 94) dX8_canBoard_93 rfl ?_
        refine a_iastN C (q := 95) (mk := (fun z => (s, z))) dX8_canBoard_94 hf (by decide) rfl rfl cellE_R1 rfl (fun t_10 hf => ?_)
        refine a_aload_n C (i := 0) (q := 96) dX8_canBoard_95 rfl 1 rfl rfl ?_
        refine a_aload_n C (i := 0) (q := 97) dX8_canBoard_96 rfl 1 rfl rfl ?_
        refine a_iload C (i := 4) (q := 99) dX8_canBoard_97 rfl 0 rfl ?_
        refine a_callVI C (q := 102) (As := [.int v4_8]) (st := [.ref (G.2.1 39)]) dX8_canBoard_99 hR (by decide) hf (fun b => b) (fun _ => (s, t_10)) (by decide) rfl rfl cw_X8_whoIn (fun b hb => c_X8_whoIn _ G n s t_10 v4_8 b hb) rfl rfl (Nat.le_of_ble_eq_true rfl) k_904 rfl (fun y_11 hf => ?_)
        refine a_iload_n C (i := 3) (q := 103) dX8_canBoard_102 rfl 4 rfl rfl ?_
        refine a_ior C (q := 104) dX8_canBoard_103 rfl ?_
        refine a_callVI C (q := 107) (As := [.int (y_11 ||| v3_6)]) (st := []) dX8_canBoard_104 hR (by decide) hf (fun b => b) (fun _ => (s, t_10)) (by decide) rfl rfl cw_X8_fits (fun b hb => c_X8_fits _ G n s t_10 (y_11 ||| v3_6) b hb) rfl rfl (Nat.le_of_ble_eq_true rfl) k_1013 rfl (fun y_12 hf => ?_)
        refine a_if_eq C (tgt := 121) (q := 110) dX8_canBoard_107 hf (by decide) rfl (fun hf => ?_) (fun hf => ?_)
        · refine a_iconst C (v := (0 : Int32)) (q := 122) dX8_canBoard_121 rfl (by decide) ?_
          refine a_istore_n C (i := 1) (q := 123) (lv' := [(1, .int (0 : Int32)), (4, .int v4_8), (0, .ref (G.2.1 39)), (2, .int v2), (3, .int v3_6)]) dX8_canBoard_122 rfl (by decide) rfl rfl ?_
          refine a_iincN C (i := 2) (k := 3) (q := 126) (lv' := fun z => [(2, .int z), (1, .int (0 : Int32)), (4, .int v4_8), (0, .ref (G.2.1 39)), (3, .int v3_6)]) dX8_canBoard_123 hf rfl rfl (by decide) (fun _ => rfl) rfl (fun v2_13 hf => ?_)
          refine a_goto C (q := 8) dX8_canBoard_126 (by decide) ?_
          have hf := Option.some.inj hf; subst hf
          exact a_sub [3, 1, 0] rfl (show At F G Q 5 8 [(0, .ref (G.2.1 39)), (1, .int (0 : Int32)), (2, .int v2_13)] [] (s, t_10) from hK)
        · refine a_aload_n C (i := 0) (q := 111) dX8_canBoard_110 rfl 1 rfl rfl ?_
          refine a_callVI C (q := 114) (As := []) (st := []) dX8_canBoard_111 hR (by decide) hf (fun b => b.1) (fun b => (s, b.2)) (by decide) rfl rfl cw_X8_isEvenNow (fun b hb => c_X8_isEvenNow _ G n s t_10 b hb) rfl rfl (Nat.le_of_ble_eq_true rfl) k_932 rfl (fun y_14 hf => ?_)
          refine a_if_eq C (tgt := 121) (q := 117) dX8_canBoard_114 hf (by decide) rfl (fun hf => ?_) (fun hf => ?_)
          · refine a_iconst C (v := (0 : Int32)) (q := 122) dX8_canBoard_121 rfl (by decide) ?_
            refine a_istore_n C (i := 1) (q := 123) (lv' := [(1, .int (0 : Int32)), (4, .int v4_8), (0, .ref (G.2.1 39)), (2, .int v2), (3, .int v3_6)]) dX8_canBoard_122 rfl (by decide) rfl rfl ?_
            refine a_iincN C (i := 2) (k := 3) (q := 126) (lv' := fun z => [(2, .int z), (1, .int (0 : Int32)), (4, .int v4_8), (0, .ref (G.2.1 39)), (3, .int v3_6)]) dX8_canBoard_123 hf rfl rfl (by decide) (fun _ => rfl) rfl (fun v2_15 hf => ?_)
            refine a_goto C (q := 8) dX8_canBoard_126 (by decide) ?_
            have hf := Option.some.inj hf; subst hf
            exact a_sub [3, 1, 0] rfl (show At F G Q 5 8 [(0, .ref (G.2.1 39)), (1, .int (0 : Int32)), (2, .int v2_15)] [] (s, y_14.2) from hK)
          · refine a_iconst C (v := (1 : Int32)) (q := 118) dX8_canBoard_117 rfl (by decide) ?_
            refine a_goto C (q := 122) dX8_canBoard_118 (by decide) ?_
            refine a_istore_n C (i := 1) (q := 123) (lv' := [(1, .int (1 : Int32)), (4, .int v4_8), (0, .ref (G.2.1 39)), (2, .int v2), (3, .int v3_6)]) dX8_canBoard_122 rfl (by decide) rfl rfl ?_
            refine a_iincN C (i := 2) (k := 3) (q := 126) (lv' := fun z => [(2, .int z), (1, .int (1 : Int32)), (4, .int v4_8), (0, .ref (G.2.1 39)), (3, .int v3_6)]) dX8_canBoard_123 hf rfl rfl (by decide) (fun _ => rfl) rfl (fun v2_16 hf => ?_)
            refine a_goto C (q := 8) dX8_canBoard_126 (by decide) ?_
            have hf := Option.some.inj hf; subst hf
            exact a_sub [3, 1, 0] rfl (show At F G Q 5 8 [(0, .ref (G.2.1 39)), (1, .int (1 : Int32)), (2, .int v2_16)] [] (s, y_14.2) from hK)
theorem lp_X8_canBoard_8 {F : FX} {G : GX} {Q : State → Prop} (C : Cx F G cX8_canBoard 5 RX8) (hR : Rm F 5) (n : Nat) (s : MM)  (v1 : Int32) (v2 : Int32) (t : SR) (x : Int32 × SR) (h : it3 (lb_X8_canBoard_8 n ) n v1 v2 t = some x) (hE : E_X8_canBoard_8 F G Q s x) : At F G Q 5 8 [(0, .ref (G.2.1 39)), (1, .int v1), (2, .int v2)] [] (s, t) :=
  it3_ind (b := (lb_X8_canBoard_8 n )) (E := E_X8_canBoard_8 F G Q s) (P := fun v1 v2 t => P_X8_canBoard_8 F G Q s v1 v2 t) (fun v1 v2 t res hf hK => w_X8_canBoard_8 C hR n s   v1 v2 t res hf hK) n v1 v2 t x h hE
def f_X8_canBoard (n : Nat) (t : SR) : Option (Int32 × SR) :=
  b1 (f_X8_findLoads n t) (fun y_1 => b2 (it3 (lb_X8_canBoard_8 n ) n (1 : Int32) (0 : Int32) y_1) (fun v1_17 t_18 => bz v1_17 (some (v1_17, t_18))))
set_option maxHeartbeats 4000000 in
theorem w_X8_canBoard_e {F : FX} {G : GX} {Q : State → Prop} (C : Cx F G cX8_canBoard 5 RX8) (hR : Rm F 5) (n : Nat) (s : MM) (t : SR)   (res : Int32 × SR) (hf : f_X8_canBoard n t = some res) (hK : RetI F G Q cX8_canBoard 5 .boolean res.1 (s, res.2)) : At F G Q 5 0 [(0, .ref (G.2.1 39))] [] (s, t) := by
  unfold f_X8_canBoard at hf
  refine a_aload_n C (i := 0) (q := 1) dX8_canBoard_0 rfl 0 rfl rfl ?_
  refine a_callVV C (q := 4) (As := []) (st := []) dX8_canBoard_1 hR (by decide) hf (fun b => (s, b)) (by decide) rfl rfl cw_X8_findLoads (fun b hb => c_X8_findLoads _ G n s t b hb) rfl rfl (Nat.le_of_ble_eq_true rfl) k_928 rfl (fun y_1 hf => ?_)
  refine a_iconst C (v := (1 : Int32)) (q := 5) dX8_canBoard_4 rfl (by decide) ?_
  refine a_istore_n C (i := 1) (q := 6) (lv' := [(1, .int (1 : Int32)), (0, .ref (G.2.1 39))]) dX8_canBoard_5 rfl (by decide) rfl rfl ?_
  refine a_iconst C (v := (0 : Int32)) (q := 7) dX8_canBoard_6 rfl (by decide) ?_
  refine a_istore_n C (i := 2) (q := 8) (lv' := [(2, .int (0 : Int32)), (1, .int (1 : Int32)), (0, .ref (G.2.1 39))]) dX8_canBoard_7 rfl (by decide) rfl rfl ?_
  obtain ⟨v1_17, t_18, h1, hf⟩ := b2_some hf
  refine a_sub [2, 1, 0] rfl (lp_X8_canBoard_8 C hR n s  (1 : Int32) (0 : Int32) y_1 _ h1 ?_)
  show At F G Q 5 129 [(1, .int v1_17)] [] (s, t_18)
  refine a_iload_n C (i := 1) (q := 130) dX8_canBoard_129 rfl 0 rfl rfl ?_
  obtain ⟨hz, hf⟩ := bz_some hf
  have hf := Option.some.inj hf; subst hf
  exact (show RetI F G Q cX8_canBoard 5 .boolean v1_17 (s, t_18) from hK) hz _ _ dX8_canBoard_130
theorem c_X8_canBoard (l : Launch) (G : GX) (n : Nat) (s : MM) (t : SR)  (res : Int32 × SR) (hf : f_X8_canBoard n t = some res) : MetC l G yX8_canBoard cX8_canBoard 5 (some .boolean) 5 (s, t) [.ref (G.2.1 39)] (PostI G res.1 (s, res.2)) :=
  m_I (by decide) (Nat.le_of_ble_eq_true rfl) (fun F Q C h1 h2 h3 hK => w_X8_canBoard_e C (Rm.of h1 h3) n s t res hf hK)
theorem cw_X8_nextTimes : CwV RX8 yX8_nextTimes cX8_nextTimes 2 0 (some .boolean) := ⟨k_1068, k_1067, kp_42, k_9, by decide +kernel, by decide⟩
def P_X8_nextTimes_7 (F : FX) (G : GX) (Q : State → Prop) (s : MM) (v1 : Int32) (t : SR) : Prop := At F G Q 2 7 [(0, .ref (G.2.1 39)), (1, .int v1)] [] (s, t)
def E_X8_nextTimes_7 (F : FX) (G : GX) (Q : State → Prop) (s : MM) : (Int32 × SR) ⊕ (SR) → Prop := fun q => match q with
  | .inl y => RetI F G Q cX8_nextTimes 2 .boolean y.1 (s, y.2)
  | .inr t => At F G Q 2 47 [] [] (s, t)
def lb_X8_nextTimes_7 (n : Nat) (v1 : Int32) (t : SR) : Option (((Int32 × SR) ⊕ (SR)) ⊕ (Int32 × SR)) :=
  (if v1 < 0 then some (.inl (.inr t)) else ix v1 4 (ix v1 4 (nm (sr1 t 49 v1.toNatClampNeg ((t.1 49 v1.toNatClampNeg) + (1 : Int32))) (fun t_2 => ix v1 4 ((if (12 : Int32) ≤ (t_2.1 49 v1.toNatClampNeg) then ix v1 4 (nm (sr1 t_2 49 v1.toNatClampNeg (0 : Int32)) (fun t_3 => nm (v1 + (-1)) (fun v1_4 => some (.inr (v1_4, t_3))))) else some (.inl (.inl ((1 : Int32), t_2)))))))))
set_option maxHeartbeats 4000000 in
theorem w_X8_nextTimes_7 {F : FX} {G : GX} {Q : State → Prop} (C : Cx F G cX8_nextTimes 2 RX8) (hR : Rm F 2) (n : Nat) (s : MM)  (v1 : Int32) (t : SR) (res : ((Int32 × SR) ⊕ (SR)) ⊕ (Int32 × SR)) (hf : lb_X8_nextTimes_7 n v1 t = some res) (hK : Sum.elim (E_X8_nextTimes_7 F G Q s) (fun q => match q with | (v1, t) => P_X8_nextTimes_7 F G Q s v1 t) res) : P_X8_nextTimes_7 F G Q s v1 t := by
  unfold lb_X8_nextTimes_7 at hf
  show At F G Q 2 7 [(0, .ref (G.2.1 39)), (1, .int v1)] [] (s, t)
  refine a_iload_n C (i := 1) (q := 8) dX8_nextTimes_7 rfl 1 rfl rfl ?_
  refine a_if_lt C (tgt := 47) (q := 11) dX8_nextTimes_8 hf (by decide) rfl (fun hf => ?_) (fun hf => ?_)
  · have hf := Option.some.inj hf; subst hf
    exact a_sub [] rfl (show At F G Q 2 47 [] [] (s, t) from hK)
  · refine a_aload_n C (i := 0) (q := 12) dX8_nextTimes_11 rfl 0 rfl rfl ?_
    refine a_get8 C (q := 15) dX8_nextTimes_12 22 (by decide) k_790 (by decide) rfl rfl rfl ?_
    refine a_iload_n C (i := 1) (q := 16) dX8_nextTimes_15 rfl 1 rfl rfl ?_
    refine a_dup2 C (q := 17) dX8_nextTimes_16 rfl rfl rfl ?_
    refine a_iald C (q := 18) (g := t.1 49) dX8_nextTimes_17 hf (by decide) rfl rfl (fun hf => ?_)
    refine a_iconst C (v := (1 : Int32)) (q := 19) dX8_nextTimes_18 rfl (by decide) ?_
    refine a_iadd C (q := 20) dX8_nextTimes_19 rfl ?_
    refine a_iastN C (q := 21) (mk := (fun z => (s, z))) dX8_nextTimes_20 hf (by decide) rfl rfl cellE_R1 rfl (fun t_2 hf => ?_)
    refine a_aload_n C (i := 0) (q := 22) dX8_nextTimes_21 rfl 0 rfl rfl ?_
    refine a_get8 C (q := 25) dX8_nextTimes_22 22 (by decide) k_790 (by decide) rfl rfl rfl ?_
    refine a_iload_n C (i := 1) (q := 26) dX8_nextTimes_25 rfl 1 rfl rfl ?_
    refine a_iald C (q := 27) (g := t_2.1 49) dX8_nextTimes_26 hf (by decide) rfl rfl (fun hf => ?_)
    refine a_bipush C (v := (12 : Int32)) (q := 29) dX8_nextTimes_27 rfl (by decide) ?_
    refine a_icmp_ge C (tgt := 34) (q := 32) dX8_nextTimes_29 hf (by decide) rfl (fun hf => ?_) (fun hf => ?_)
    · refine a_aload_n C (i := 0) (q := 35) dX8_nextTimes_34 rfl 0 rfl rfl ?_
      refine a_get8 C (q := 38) dX8_nextTimes_35 22 (by decide) k_790 (by decide) rfl rfl rfl ?_
      refine a_iload_n C (i := 1) (q := 39) dX8_nextTimes_38 rfl 1 rfl rfl ?_
      refine a_iconst C (v := (0 : Int32)) (q := 40) dX8_nextTimes_39 rfl (by decide) ?_
      refine a_iastN C (q := 41) (mk := (fun z => (s, z))) dX8_nextTimes_40 hf (by decide) rfl rfl cellE_R1 rfl (fun t_3 hf => ?_)
      refine a_iincN C (i := 1) (k := 1) (q := 44) (lv' := fun z => [(1, .int z), (0, .ref (G.2.1 39))]) dX8_nextTimes_41 hf rfl rfl (by decide) (fun _ => rfl) rfl (fun v1_4 hf => ?_)
      refine a_goto C (q := 7) dX8_nextTimes_44 (by decide) ?_
      have hf := Option.some.inj hf; subst hf
      exact a_sub [1, 0] rfl (show At F G Q 2 7 [(0, .ref (G.2.1 39)), (1, .int v1_4)] [] (s, t_3) from hK)
    · refine a_iconst C (v := (1 : Int32)) (q := 33) dX8_nextTimes_32 rfl (by decide) ?_
      have hf := Option.some.inj hf; subst hf
      exact (show RetI F G Q cX8_nextTimes 2 .boolean (1 : Int32) (s, t_2) from hK) rfl _ _ dX8_nextTimes_33
theorem lp_X8_nextTimes_7 {F : FX} {G : GX} {Q : State → Prop} (C : Cx F G cX8_nextTimes 2 RX8) (hR : Rm F 2) (n : Nat) (s : MM)  (v1 : Int32) (t : SR) (x : (Int32 × SR) ⊕ (SR)) (h : it2 (lb_X8_nextTimes_7 n ) n v1 t = some x) (hE : E_X8_nextTimes_7 F G Q s x) : At F G Q 2 7 [(0, .ref (G.2.1 39)), (1, .int v1)] [] (s, t) :=
  it2_ind (b := (lb_X8_nextTimes_7 n )) (E := E_X8_nextTimes_7 F G Q s) (P := fun v1 t => P_X8_nextTimes_7 F G Q s v1 t) (fun v1 t res hf hK => w_X8_nextTimes_7 C hR n s   v1 t res hf hK) n v1 t x h hE
def f_X8_nextTimes (n : Nat) (t : SR) : Option (Int32 × SR) :=
  nm ((t.1 39 24) - (1 : Int32)) (fun v1_1 => bR (it2 (lb_X8_nextTimes_7 n ) n v1_1 t) (fun y => some y) (fun t_5 => some ((0 : Int32), t_5)))
set_option maxHeartbeats 4000000 in
theorem w_X8_nextTimes_e {F : FX} {G : GX} {Q : State → Prop} (C : Cx F G cX8_nextTimes 2 RX8) (hR : Rm F 2) (n : Nat) (s : MM) (t : SR)   (res : Int32 × SR) (hf : f_X8_nextTimes n t = some res) (hK : RetI F G Q cX8_nextTimes 2 .boolean res.1 (s, res.2)) : At F G Q 2 0 [(0, .ref (G.2.1 39))] [] (s, t) := by
  unfold f_X8_nextTimes at hf
  refine a_aload_n C (i := 0) (q := 1) dX8_nextTimes_0 rfl 0 rfl rfl ?_
  refine a_get8 C (q := 4) dX8_nextTimes_1 24 (by decide) k_792 (by decide) rfl rfl rfl ?_
  refine a_iconst C (v := (1 : Int32)) (q := 5) dX8_nextTimes_4 rfl (by decide) ?_
  refine a_isub C (q := 6) dX8_nextTimes_5 rfl ?_
  refine a_istore_nN C (i := 1) (q := 7) (lv' := fun z => [(1, .int z), (0, .ref (G.2.1 39))]) dX8_nextTimes_6 hf rfl (by decide) (fun _ => rfl) rfl (fun v1_1 hf => ?_)
  rcases bR_some hf with ⟨y, h1, hf⟩ | ⟨t_5, h1, hf⟩
  · refine a_sub [1, 0] rfl (lp_X8_nextTimes_7 C hR n s  v1_1 t _ h1 ?_)
    have hf := Option.some.inj hf; subst hf
    exact hK
  · refine a_sub [1, 0] rfl (lp_X8_nextTimes_7 C hR n s  v1_1 t _ h1 ?_)
    show At F G Q 2 47 [] [] (s, t_5)
    refine a_iconst C (v := (0 : Int32)) (q := 48) dX8_nextTimes_47 rfl (by decide) ?_
    have hf := Option.some.inj hf; subst hf
    exact (show RetI F G Q cX8_nextTimes 2 .boolean (0 : Int32) (s, t_5) from hK) rfl _ _ dX8_nextTimes_48
theorem c_X8_nextTimes (l : Launch) (G : GX) (n : Nat) (s : MM) (t : SR)  (res : Int32 × SR) (hf : f_X8_nextTimes n t = some res) : MetC l G yX8_nextTimes cX8_nextTimes 2 (some .boolean) 2 (s, t) [.ref (G.2.1 39)] (PostI G res.1 (s, res.2)) :=
  m_I (by decide) (Nat.le_of_ble_eq_true rfl) (fun F Q C h1 h2 h3 hK => w_X8_nextTimes_e C (Rm.of h1 h3) n s t res hf hK)
theorem cw_X8_findSoonest : CwV RX8 yX8_findSoonest cX8_findSoonest 7 2 (some .int) := ⟨k_1056, k_1055, kp_39, k_9, by decide +kernel, by decide⟩
def P_X8_findSoonest_7 (F : FX) (G : GX) (Q : State → Prop) (s : MM) (v1 : Int32) (v2 : Int32) (v3 : Int32) (t : SR) : Prop := At F G Q 7 7 [(0, .ref (G.2.1 39)), (1, .int v1), (2, .int v2), (3, .int v3)] [] (s, t)
def E_X8_findSoonest_7 (F : FX) (G : GX) (Q : State → Prop) (s : MM) (v1 : Int32) (v2 : Int32) : SR → Prop := fun q => match q with
  | t => At F G Q 7 59 [(0, .ref (G.2.1 39)), (2, .int v2)] [] (s, t)
def lb_X8_findSoonest_7 (n : Nat) (v1 : Int32) (v2 : Int32) (v3 : Int32) (t : SR) : Option ((SR) ⊕ (Int32 × SR)) :=
  (if (t.1 39 4) ≤ v3 then some (.inl t) else b1 (f_X8_has v1 v3) (fun y_2 => (if y_2 = 0 then nm (v3 + 1) (fun v3_3 => some (.inr (v3_3, t))) else ix (t.1 39 24) 4 (nm (sr1 t 48 ((t.1 39 24).toNatClampNeg) v3) (fun t_4 => ix (t_4.1 39 24) 4 (nm (sr1 t_4 49 ((t_4.1 39 24).toNatClampNeg) (0 : Int32)) (fun t_5 => nm (sr1 t_5 39 24 ((t_5.1 39 24) + (1 : Int32))) (fun t_6 => nm (v3 + 1) (fun v3_7 => some (.inr (v3_7, t_6)))))))))))
set_option maxHeartbeats 4000000 in
theorem w_X8_findSoonest_7 {F : FX} {G : GX} {Q : State → Prop} (C : Cx F G cX8_findSoonest 7 RX8) (hR : Rm F 6) (n : Nat) (s : MM) (v1 : Int32) (v2 : Int32)  (v3 : Int32) (t : SR) (res : (SR) ⊕ (Int32 × SR)) (hf : lb_X8_findSoonest_7 n v1 v2 v3 t = some res) (hK : Sum.elim (E_X8_findSoonest_7 F G Q s v1 v2) (fun q => match q with | (v3, t) => P_X8_findSoonest_7 F G Q s v1 v2 v3 t) res) : P_X8_findSoonest_7 F G Q s v1 v2 v3 t := by
  unfold lb_X8_findSoonest_7 at hf
  show At F G Q 7 7 [(0, .ref (G.2.1 39)), (1, .int v1), (2, .int v2), (3, .int v3)] [] (s, t)
  refine a_iload_n C (i := 3) (q := 8) dX8_findSoonest_7 rfl 3 rfl rfl ?_
  refine a_aload_n C (i := 0) (q := 9) dX8_findSoonest_8 rfl 0 rfl rfl ?_
  refine a_get8 C (q := 12) dX8_findSoonest_9 4 (by decide) k_772 (by decide) rfl rfl rfl ?_
  refine a_icmp_ge C (tgt := 59) (q := 15) dX8_findSoonest_12 hf (by decide) rfl (fun hf => ?_) (fun hf => ?_)
  · have hf := Option.some.inj hf; subst hf
    exact a_sub [0, 2] rfl (show At F G Q 7 59 [(0, .ref (G.2.1 39)), (2, .int v2)] [] (s, t) from hK)
  · refine a_iload_n C (i := 1) (q := 16) dX8_findSoonest_15 rfl 1 rfl rfl ?_
    refine a_iload_n C (i := 3) (q := 17) dX8_findSoonest_16 rfl 3 rfl rfl ?_
    refine a_callSI C (q := 20) (As := [.int v1, .int v3]) (st := []) dX8_findSoonest_17 hR (by decide) hf (fun b => b) (fun _ => (s, t)) cw_X8_has (fun b hb => c_X8_has _ G s t v1 v3 b hb) rfl rfl (Nat.le_of_ble_eq_true rfl) k_912 rfl (fun y_2 hf => ?_)
    refine a_if_eq C (tgt := 53) (q := 23) dX8_findSoonest_20 hf (by decide) rfl (fun hf => ?_) (fun hf => ?_)
    · refine a_iincN C (i := 3) (k := 3) (q := 56) (lv' := fun z => [(3, .int z), (0, .ref (G.2.1 39)), (1, .int v1), (2, .int v2)]) dX8_findSoonest_53 hf rfl rfl (by decide) (fun _ => rfl) rfl (fun v3_3 hf => ?_)
      refine a_goto C (q := 7) dX8_findSoonest_56 (by decide) ?_
      have hf := Option.some.inj hf; subst hf
      exact a_sub [1, 2, 3, 0] rfl (show At F G Q 7 7 [(0, .ref (G.2.1 39)), (1, .int v1), (2, .int v2), (3, .int v3_3)] [] (s, t) from hK)
    · refine a_aload_n C (i := 0) (q := 24) dX8_findSoonest_23 rfl 0 rfl rfl ?_
      refine a_get8 C (q := 27) dX8_findSoonest_24 21 (by decide) k_789 (by decide) rfl rfl rfl ?_
      refine a_aload_n C (i := 0) (q := 28) dX8_findSoonest_27 rfl 0 rfl rfl ?_
      refine a_get8 C (q := 31) dX8_findSoonest_28 24 (by decide) k_792 (by decide) rfl rfl rfl ?_
      refine a_iload_n C (i := 3) (q := 32) dX8_findSoonest_31 rfl 3 rfl rfl ?_
      refine a_iastN C (q := 33) (mk := (fun z => (s, z))) dX8_findSoonest_32 hf (by decide) rfl rfl cellE_R1 rfl (fun t_4 hf => ?_)
      refine a_aload_n C (i := 0) (q := 34) dX8_findSoonest_33 rfl 0 rfl rfl ?_
      refine a_get8 C (q := 37) dX8_findSoonest_34 22 (by decide) k_790 (by decide) rfl rfl rfl ?_
      refine a_aload_n C (i := 0) (q := 38) dX8_findSoonest_37 rfl 0 rfl rfl ?_
      refine a_get8 C (q := 41) dX8_findSoonest_38 24 (by decide) k_792 (by decide) rfl rfl rfl ?_
      refine a_iconst C (v := (0 : Int32)) (q := 42) dX8_findSoonest_41 rfl (by decide) ?_
      refine a_iastN C (q := 43) (mk := (fun z => (s, z))) dX8_findSoonest_42 hf (by decide) rfl rfl cellE_R1 rfl (fun t_5 hf => ?_)
      refine a_aload_n C (i := 0) (q := 44) dX8_findSoonest_43 rfl 0 rfl rfl ?_
      refine a_dup C (q := 45) dX8_findSoonest_44 rfl rfl ?_
      refine a_get8 C (q := 48) dX8_findSoonest_45 24 (by decide) k_792 (by decide) rfl rfl rfl ?_
      refine a_iconst C (v := (1 : Int32)) (q := 49) dX8_findSoonest_48 rfl (by decide) ?_
      refine a_iadd C (q := 50) dX8_findSoonest_49 rfl ?_
      refine a_put8N C (q := 53) (mk := (fun z => (s, z))) dX8_findSoonest_50 hf 24 (by decide) k_792 (by decide) rfl rfl cellE_R1 rfl rfl rfl (Nat.le_of_ble_eq_true rfl) rfl (fun t_6 hf => ?_)
      refine a_iincN C (i := 3) (k := 3) (q := 56) (lv' := fun z => [(3, .int z), (0, .ref (G.2.1 39)), (1, .int v1), (2, .int v2)]) dX8_findSoonest_53 hf rfl rfl (by decide) (fun _ => rfl) rfl (fun v3_7 hf => ?_)
      refine a_goto C (q := 7) dX8_findSoonest_56 (by decide) ?_
      have hf := Option.some.inj hf; subst hf
      exact a_sub [1, 2, 3, 0] rfl (show At F G Q 7 7 [(0, .ref (G.2.1 39)), (1, .int v1), (2, .int v2), (3, .int v3_7)] [] (s, t_6) from hK)
theorem lp_X8_findSoonest_7 {F : FX} {G : GX} {Q : State → Prop} (C : Cx F G cX8_findSoonest 7 RX8) (hR : Rm F 6) (n : Nat) (s : MM) (v1 : Int32) (v2 : Int32)  (v3 : Int32) (t : SR) (x : SR) (h : it2 (lb_X8_findSoonest_7 n v1 v2) n v3 t = some x) (hE : E_X8_findSoonest_7 F G Q s v1 v2 x) : At F G Q 7 7 [(0, .ref (G.2.1 39)), (1, .int v1), (2, .int v2), (3, .int v3)] [] (s, t) :=
  it2_ind (b := (lb_X8_findSoonest_7 n v1 v2)) (E := E_X8_findSoonest_7 F G Q s v1 v2) (P := fun v3 t => P_X8_findSoonest_7 F G Q s v1 v2 v3 t) (fun v3 t res hf hK => w_X8_findSoonest_7 C hR n s v1 v2   v3 t res hf hK) n v3 t x h hE
def P_X8_findSoonest_65 (F : FX) (G : GX) (Q : State → Prop) (s : MM) (v2 : Int32) (v3 : Int32) (v4 : Int32) (t : SR) : Prop := At F G Q 7 65 [(0, .ref (G.2.1 39)), (2, .int v2), (3, .int v3), (4, .int v4)] [] (s, t)
def E_X8_findSoonest_65 (F : FX) (G : GX) (Q : State → Prop) (s : MM) (v2 : Int32) : Int32 × SR → Prop := fun q => match q with
  | (v3, t) => At F G Q 7 182 [(3, .int v3)] [] (s, t)
def P_X8_findSoonest_76 (F : FX) (G : GX) (Q : State → Prop) (s : MM) (t : SR) (v2 : Int32) (v3 : Int32) (v5 : Int32) (v6 : Int32) : Prop := At F G Q 7 76 [(0, .ref (G.2.1 39)), (2, .int v2), (3, .int v3), (5, .int v5), (6, .int v6)] [] (s, t)
def E_X8_findSoonest_76 (F : FX) (G : GX) (Q : State → Prop) (s : MM) (t : SR) (v2 : Int32) (v3 : Int32) : Int32 → Prop := fun q => match q with
  | v5 => At F G Q 7 117 [(0, .ref (G.2.1 39)), (2, .int v2), (3, .int v3), (5, .int v5)] [] (s, t)
def lb_X8_findSoonest_76 (n : Nat) (t : SR) (v2 : Int32) (v3 : Int32) (v5 : Int32) (v6 : Int32) : Option ((Int32) ⊕ (Int32 × Int32)) :=
  (if (t.1 39 24) ≤ v6 then some (.inl v5) else ix v6 4 ((if (t.1 49 v6.toNatClampNeg) ≤ v5 then nm (v6 + 1) (fun v6_9 => some (.inr (v5, v6_9))) else ix v6 4 (nm (t.1 49 v6.toNatClampNeg) (fun v5_10 => nm (v6 + 1) (fun v6_11 => some (.inr (v5_10, v6_11))))))))
set_option maxHeartbeats 4000000 in
theorem w_X8_findSoonest_76 {F : FX} {G : GX} {Q : State → Prop} (C : Cx F G cX8_findSoonest 7 RX8) (hR : Rm F 6) (n : Nat) (s : MM) (t : SR) (v2 : Int32) (v3 : Int32)  (v5 : Int32) (v6 : Int32) (res : (Int32) ⊕ (Int32 × Int32)) (hf : lb_X8_findSoonest_76 n t v2 v3 v5 v6 = some res) (hK : Sum.elim (E_X8_findSoonest_76 F G Q s t v2 v3) (fun q => match q with | (v5, v6) => P_X8_findSoonest_76 F G Q s t v2 v3 v5 v6) res) : P_X8_findSoonest_76 F G Q s t v2 v3 v5 v6 := by
  unfold lb_X8_findSoonest_76 at hf
  show At F G Q 7 76 [(0, .ref (G.2.1 39)), (2, .int v2), (3, .int v3), (5, .int v5), (6, .int v6)] [] (s, t)
  refine a_iload C (i := 6) (q := 78) dX8_findSoonest_76 rfl 4 rfl ?_
  refine a_aload_n C (i := 0) (q := 79) dX8_findSoonest_78 rfl 0 rfl rfl ?_
  refine a_get8 C (q := 82) dX8_findSoonest_79 24 (by decide) k_792 (by decide) rfl rfl rfl ?_
  refine a_icmp_ge C (tgt := 117) (q := 85) dX8_findSoonest_82 hf (by decide) rfl (fun hf => ?_) (fun hf => ?_)
  · have hf := Option.some.inj hf; subst hf
    exact a_sub [0, 1, 2, 3] rfl (show At F G Q 7 117 [(0, .ref (G.2.1 39)), (2, .int v2), (3, .int v3), (5, .int v5)] [] (s, t) from hK)
  · refine a_aload_n C (i := 0) (q := 86) dX8_findSoonest_85 rfl 0 rfl rfl ?_
    refine a_get8 C (q := 89) dX8_findSoonest_86 22 (by decide) k_790 (by decide) rfl rfl rfl ?_
    refine a_iload C (i := 6) (q := 91) dX8_findSoonest_89 rfl 4 rfl ?_
    refine a_iald C (q := 92) (g := t.1 49) dX8_findSoonest_91 hf (by decide) rfl rfl (fun hf => ?_)
    refine a_iload C (i := 5) (q := 94) dX8_findSoonest_92 rfl 3 rfl ?_
    refine a_icmp_le C (tgt := 107) (q := 97) dX8_findSoonest_94 hf (by decide) rfl (fun hf => ?_) (fun hf => ?_)
    · refine a_iload C (i := 5) (q := 109) dX8_findSoonest_107 rfl 3 rfl ?_
      refine a_istore C (i := 5) (q := 111) (lv' := [(5, .int v5), (0, .ref (G.2.1 39)), (2, .int v2), (3, .int v3), (6, .int v6)]) dX8_findSoonest_109 (by decide) rfl rfl ?_
      refine a_iincN C (i := 6) (k := 4) (q := 114) (lv' := fun z => [(6, .int z), (5, .int v5), (0, .ref (G.2.1 39)), (2, .int v2), (3, .int v3)]) dX8_findSoonest_111 hf rfl rfl (by decide) (fun _ => rfl) rfl (fun v6_9 hf => ?_)
      refine a_goto C (q := 76) dX8_findSoonest_114 (by decide) ?_
      have hf := Option.some.inj hf; subst hf
      exact a_sub [2, 3, 4, 1, 0] rfl (show At F G Q 7 76 [(0, .ref (G.2.1 39)), (2, .int v2), (3, .int v3), (5, .int v5), (6, .int v6_9)] [] (s, t) from hK)
    · refine a_aload_n C (i := 0) (q := 98) dX8_findSoonest_97 rfl 0 rfl rfl ?_
      refine a_get8 C (q := 101) dX8_findSoonest_98 22 (by decide) k_790 (by decide) rfl rfl rfl ?_
      refine a_iload C (i := 6) (q := 103) dX8_findSoonest_101 rfl 4 rfl ?_
      refine a_iald C (q := 104) (g := t.1 49) dX8_findSoonest_103 hf (by decide) rfl rfl (fun hf => ?_)
      refine a_goto C (q := 109) dX8_findSoonest_104 (by decide) ?_
      refine a_istoreN C (i := 5) (q := 111) (lv' := fun z => [(5, .int z), (0, .ref (G.2.1 39)), (2, .int v2), (3, .int v3), (6, .int v6)]) dX8_findSoonest_109 hf (by decide) (fun _ => rfl) rfl (fun v5_10 hf => ?_)
      refine a_iincN C (i := 6) (k := 4) (q := 114) (lv' := fun z => [(6, .int z), (5, .int v5_10), (0, .ref (G.2.1 39)), (2, .int v2), (3, .int v3)]) dX8_findSoonest_111 hf rfl rfl (by decide) (fun _ => rfl) rfl (fun v6_11 hf => ?_)
      refine a_goto C (q := 76) dX8_findSoonest_114 (by decide) ?_
      have hf := Option.some.inj hf; subst hf
      exact a_sub [2, 3, 4, 1, 0] rfl (show At F G Q 7 76 [(0, .ref (G.2.1 39)), (2, .int v2), (3, .int v3), (5, .int v5_10), (6, .int v6_11)] [] (s, t) from hK)
theorem lp_X8_findSoonest_76 {F : FX} {G : GX} {Q : State → Prop} (C : Cx F G cX8_findSoonest 7 RX8) (hR : Rm F 6) (n : Nat) (s : MM) (t : SR) (v2 : Int32) (v3 : Int32)  (v5 : Int32) (v6 : Int32) (x : Int32) (h : it2 (lb_X8_findSoonest_76 n t v2 v3) n v5 v6 = some x) (hE : E_X8_findSoonest_76 F G Q s t v2 v3 x) : At F G Q 7 76 [(0, .ref (G.2.1 39)), (2, .int v2), (3, .int v3), (5, .int v5), (6, .int v6)] [] (s, t) :=
  it2_ind (b := (lb_X8_findSoonest_76 n t v2 v3)) (E := E_X8_findSoonest_76 F G Q s t v2 v3) (P := fun v5 v6 => P_X8_findSoonest_76 F G Q s t v2 v3 v5 v6) (fun v5 v6 res hf hK => w_X8_findSoonest_76 C hR n s t v2 v3   v5 v6 res hf hK) n v5 v6 x h hE
def f_X8_findSoonest_173_in65 (n : Nat) (t : SR) (v2 : Int32) (v3 : Int32) : Option ((Int32 × SR) ⊕ (Int32 × Int32 × SR)) :=
  b1 (f_X8_nextTimes n t) (fun y_13 => some (.inr (v3, y_13.1, y_13.2)))
set_option maxHeartbeats 4000000 in
theorem w_X8_findSoonest_173_in65 {F : FX} {G : GX} {Q : State → Prop} (C : Cx F G cX8_findSoonest 7 RX8) (hR : Rm F 6) (n : Nat) (s : MM) (t : SR)  (v2 : Int32) (v3 : Int32) (res : (Int32 × SR) ⊕ (Int32 × Int32 × SR)) (hf : f_X8_findSoonest_173_in65 n t v2 v3 = some res) (hK : Sum.elim (E_X8_findSoonest_65 F G Q s v2) (fun q => match q with | (v3, v4, t) => P_X8_findSoonest_65 F G Q s v2 v3 v4 t) res) : At F G Q 7 173 [(0, .ref (G.2.1 39)), (2, .int v2), (3, .int v3)] [] (s, t) := by
  unfold f_X8_findSoonest_173_in65 at hf
  refine a_aload_n C (i := 0) (q := 174) dX8_findSoonest_173 rfl 0 rfl rfl ?_
  refine a_callVI C (q := 177) (As := []) (st := []) dX8_findSoonest_174 hR (by decide) hf (fun b => b.1) (fun b => (s, b.2)) (by decide) rfl rfl cw_X8_nextTimes (fun b hb => c_X8_nextTimes _ G n s t b hb) rfl rfl (Nat.le_of_ble_eq_true rfl) k_1065 rfl (fun y_13 hf => ?_)
  refine a_istore C (i := 4) (q := 179) (lv' := [(4, .int y_13.1), (0, .ref (G.2.1 39)), (2, .int v2), (3, .int v3)]) dX8_findSoonest_177 (by decide) rfl rfl ?_
  refine a_goto C (q := 65) dX8_findSoonest_179 (by decide) ?_
  have hf := Option.some.inj hf; subst hf
  exact a_sub [1, 2, 3, 0] rfl (show At F G Q 7 65 [(0, .ref (G.2.1 39)), (2, .int v2), (3, .int v3), (4, .int y_13.1)] [] (s, y_13.2) from hK)
def P_X8_findSoonest_144 (F : FX) (G : GX) (Q : State → Prop) (s : MM) (v2 : Int32) (v3 : Int32) (v6 : Int32) (t : SR) : Prop := At F G Q 7 144 [(0, .ref (G.2.1 39)), (2, .int v2), (3, .int v3), (6, .int v6)] [] (s, t)
def E_X8_findSoonest_144 (F : FX) (G : GX) (Q : State → Prop) (s : MM) (v2 : Int32) (v3 : Int32) : SR → Prop := fun q => match q with
  | t => At F G Q 7 173 [(0, .ref (G.2.1 39)), (2, .int v2), (3, .int v3)] [] (s, t)
def lb_X8_findSoonest_144 (n : Nat) (v2 : Int32) (v3 : Int32) (v6 : Int32) (t : SR) : Option ((SR) ⊕ (Int32 × SR)) :=
  (if (t.1 39 24) ≤ v6 then some (.inl t) else ix v6 4 (ix v6 4 (nm (sr1 t 50 v6.toNatClampNeg (t.1 49 v6.toNatClampNeg)) (fun t_16 => nm (v6 + 1) (fun v6_17 => some (.inr (v6_17, t_16)))))))
set_option maxHeartbeats 4000000 in
theorem w_X8_findSoonest_144 {F : FX} {G : GX} {Q : State → Prop} (C : Cx F G cX8_findSoonest 7 RX8) (hR : Rm F 6) (n : Nat) (s : MM) (v2 : Int32) (v3 : Int32)  (v6 : Int32) (t : SR) (res : (SR) ⊕ (Int32 × SR)) (hf : lb_X8_findSoonest_144 n v2 v3 v6 t = some res) (hK : Sum.elim (E_X8_findSoonest_144 F G Q s v2 v3) (fun q => match q with | (v6, t) => P_X8_findSoonest_144 F G Q s v2 v3 v6 t) res) : P_X8_findSoonest_144 F G Q s v2 v3 v6 t := by
  unfold lb_X8_findSoonest_144 at hf
  show At F G Q 7 144 [(0, .ref (G.2.1 39)), (2, .int v2), (3, .int v3), (6, .int v6)] [] (s, t)
  refine a_iload C (i := 6) (q := 146) dX8_findSoonest_144 rfl 3 rfl ?_
  refine a_aload_n C (i := 0) (q := 147) dX8_findSoonest_146 rfl 0 rfl rfl ?_
  refine a_get8 C (q := 150) dX8_findSoonest_147 24 (by decide) k_792 (by decide) rfl rfl rfl ?_
  refine a_icmp_ge C (tgt := 173) (q := 153) dX8_findSoonest_150 hf (by decide) rfl (fun hf => ?_) (fun hf => ?_)
  · have hf := Option.some.inj hf; subst hf
    exact a_sub [0, 1, 2] rfl (show At F G Q 7 173 [(0, .ref (G.2.1 39)), (2, .int v2), (3, .int v3)] [] (s, t) from hK)
  · refine a_aload_n C (i := 0) (q := 154) dX8_findSoonest_153 rfl 0 rfl rfl ?_
    refine a_get8 C (q := 157) dX8_findSoonest_154 23 (by decide) k_791 (by decide) rfl rfl rfl ?_
    refine a_iload C (i := 6) (q := 159) dX8_findSoonest_157 rfl 3 rfl ?_
    refine a_aload_n C (i := 0) (q := 160) dX8_findSoonest_159 rfl 0 rfl rfl ?_
    refine a_get8 C (q := 163) dX8_findSoonest_160 22 (by decide) k_790 (by decide) rfl rfl rfl ?_
    refine a_iload C (i := 6) (q := 165) dX8_findSoonest_163 rfl 3 rfl ?_
    refine a_iald C (q := 166) (g := t.1 49) dX8_findSoonest_165 hf (by decide) rfl rfl (fun hf => ?_)
    refine a_iastN C (q := 167) (mk := (fun z => (s, z))) dX8_findSoonest_166 hf (by decide) rfl rfl cellE_R1 rfl (fun t_16 hf => ?_)
    refine a_iincN C (i := 6) (k := 3) (q := 170) (lv' := fun z => [(6, .int z), (0, .ref (G.2.1 39)), (2, .int v2), (3, .int v3)]) dX8_findSoonest_167 hf rfl rfl (by decide) (fun _ => rfl) rfl (fun v6_17 hf => ?_)
    refine a_goto C (q := 144) dX8_findSoonest_170 (by decide) ?_
    have hf := Option.some.inj hf; subst hf
    exact a_sub [1, 2, 3, 0] rfl (show At F G Q 7 144 [(0, .ref (G.2.1 39)), (2, .int v2), (3, .int v3), (6, .int v6_17)] [] (s, t_16) from hK)
theorem lp_X8_findSoonest_144 {F : FX} {G : GX} {Q : State → Prop} (C : Cx F G cX8_findSoonest 7 RX8) (hR : Rm F 6) (n : Nat) (s : MM) (v2 : Int32) (v3 : Int32)  (v6 : Int32) (t : SR) (x : SR) (h : it2 (lb_X8_findSoonest_144 n v2 v3) n v6 t = some x) (hE : E_X8_findSoonest_144 F G Q s v2 v3 x) : At F G Q 7 144 [(0, .ref (G.2.1 39)), (2, .int v2), (3, .int v3), (6, .int v6)] [] (s, t) :=
  it2_ind (b := (lb_X8_findSoonest_144 n v2 v3)) (E := E_X8_findSoonest_144 F G Q s v2 v3) (P := fun v6 t => P_X8_findSoonest_144 F G Q s v2 v3 v6 t) (fun v6 t res hf hK => w_X8_findSoonest_144 C hR n s v2 v3   v6 t res hf hK) n v6 t x h hE
def lb_X8_findSoonest_65 (n : Nat) (v2 : Int32) (v3 : Int32) (v4 : Int32) (t : SR) : Option ((Int32 × SR) ⊕ (Int32 × Int32 × SR)) :=
  (if v4 = 0 then some (.inl (v3, t)) else b1 (it2 (lb_X8_findSoonest_76 n t v2 v3) n (0 : Int32) (0 : Int32)) (fun v5_12 => (if v3 ≤ v5_12 then f_X8_findSoonest_173_in65 n t v2 v3 else b1 (f_X8_areSo n t v2) (fun y_14 => (if y_14 = 0 then f_X8_findSoonest_173_in65 n t v2 v3 else b1 (f_X8_canBoard n t) (fun y_15 => (if y_15.1 = 0 then f_X8_findSoonest_173_in65 n y_15.2 v2 v3 else b1 (it2 (lb_X8_findSoonest_144 n v2 v5_12) n (0 : Int32) y_15.2) (fun t_18 => f_X8_findSoonest_173_in65 n t_18 v2 v5_12))))))))
set_option maxHeartbeats 4000000 in
theorem w_X8_findSoonest_65 {F : FX} {G : GX} {Q : State → Prop} (C : Cx F G cX8_findSoonest 7 RX8) (hR : Rm F 6) (n : Nat) (s : MM) (v2 : Int32)  (v3 : Int32) (v4 : Int32) (t : SR) (res : (Int32 × SR) ⊕ (Int32 × Int32 × SR)) (hf : lb_X8_findSoonest_65 n v2 v3 v4 t = some res) (hK : Sum.elim (E_X8_findSoonest_65 F G Q s v2) (fun q => match q with | (v3, v4, t) => P_X8_findSoonest_65 F G Q s v2 v3 v4 t) res) : P_X8_findSoonest_65 F G Q s v2 v3 v4 t := by
  unfold lb_X8_findSoonest_65 at hf
  show At F G Q 7 65 [(0, .ref (G.2.1 39)), (2, .int v2), (3, .int v3), (4, .int v4)] [] (s, t)
  refine a_iload C (i := 4) (q := 67) dX8_findSoonest_65 rfl 3 rfl ?_
  refine a_if_eq C (tgt := 182) (q := 70) dX8_findSoonest_67 hf (by decide) rfl (fun hf => ?_) (fun hf => ?_)
  · have hf := Option.some.inj hf; subst hf
    exact a_sub [2] rfl (show At F G Q 7 182 [(3, .int v3)] [] (s, t) from hK)
  · refine a_iconst C (v := (0 : Int32)) (q := 71) dX8_findSoonest_70 rfl (by decide) ?_
    refine a_istore C (i := 5) (q := 73) (lv' := [(5, .int (0 : Int32)), (0, .ref (G.2.1 39)), (2, .int v2), (3, .int v3), (4, .int v4)]) dX8_findSoonest_71 (by decide) rfl rfl ?_
    refine a_iconst C (v := (0 : Int32)) (q := 74) dX8_findSoonest_73 rfl (by decide) ?_
    refine a_istore C (i := 6) (q := 76) (lv' := [(6, .int (0 : Int32)), (5, .int (0 : Int32)), (0, .ref (G.2.1 39)), (2, .int v2), (3, .int v3), (4, .int v4)]) dX8_findSoonest_74 (by decide) rfl rfl ?_
    obtain ⟨v5_12, h1, hf⟩ := b1_some hf
    refine a_sub [2, 3, 4, 1, 0] rfl (lp_X8_findSoonest_76 C hR n s t v2 v3  (0 : Int32) (0 : Int32) _ h1 ?_)
    show At F G Q 7 117 [(0, .ref (G.2.1 39)), (2, .int v2), (3, .int v3), (5, .int v5_12)] [] (s, t)
    refine a_iload C (i := 5) (q := 119) dX8_findSoonest_117 rfl 3 rfl ?_
    refine a_iload_n C (i := 3) (q := 120) dX8_findSoonest_119 rfl 2 rfl rfl ?_
    refine a_icmp_ge C (tgt := 173) (q := 123) dX8_findSoonest_120 hf (by decide) rfl (fun hf => ?_) (fun hf => ?_)
    · exact a_sub [0, 1, 2] rfl (w_X8_findSoonest_173_in65 C hR n s t v2 v3 res hf hK)
    · refine a_aload_n C (i := 0) (q := 124) dX8_findSoonest_123 rfl 0 rfl rfl ?_
      refine a_iload_n C (i := 2) (q := 125) dX8_findSoonest_124 rfl 1 rfl rfl ?_
      refine a_callVI C (q := 128) (As := [.int v2]) (st := []) dX8_findSoonest_125 hR (by decide) hf (fun b => b) (fun _ => (s, t)) (by decide) rfl rfl cw_X8_areSo (fun b hb => c_X8_areSo _ G n s t v2 b hb) rfl rfl (Nat.le_of_ble_eq_true rfl) k_1057 rfl (fun y_14 hf => ?_)
      refine a_if_eq C (tgt := 173) (q := 131) dX8_findSoonest_128 hf (by decide) rfl (fun hf => ?_) (fun hf => ?_)
      · exact a_sub [0, 1, 2] rfl (w_X8_findSoonest_173_in65 C hR n s t v2 v3 res hf hK)
      · refine a_aload_n C (i := 0) (q := 132) dX8_findSoonest_131 rfl 0 rfl rfl ?_
        refine a_callVI C (q := 135) (As := []) (st := []) dX8_findSoonest_132 hR (by decide) hf (fun b => b.1) (fun b => (s, b.2)) (by decide) rfl rfl cw_X8_canBoard (fun b hb => c_X8_canBoard _ G n s t b hb) rfl rfl (Nat.le_of_ble_eq_true rfl) k_1061 rfl (fun y_15 hf => ?_)
        refine a_if_eq C (tgt := 173) (q := 138) dX8_findSoonest_135 hf (by decide) rfl (fun hf => ?_) (fun hf => ?_)
        · exact a_sub [0, 1, 2] rfl (w_X8_findSoonest_173_in65 C hR n s y_15.2 v2 v3 res hf hK)
        · refine a_iload C (i := 5) (q := 140) dX8_findSoonest_138 rfl 3 rfl ?_
          refine a_istore_n C (i := 3) (q := 141) (lv' := [(3, .int v5_12), (0, .ref (G.2.1 39)), (2, .int v2), (5, .int v5_12)]) dX8_findSoonest_140 rfl (by decide) rfl rfl ?_
          refine a_iconst C (v := (0 : Int32)) (q := 142) dX8_findSoonest_141 rfl (by decide) ?_
          refine a_istore C (i := 6) (q := 144) (lv' := [(6, .int (0 : Int32)), (3, .int v5_12), (0, .ref (G.2.1 39)), (2, .int v2), (5, .int v5_12)]) dX8_findSoonest_142 (by decide) rfl rfl ?_
          obtain ⟨t_18, h1, hf⟩ := b1_some hf
          refine a_sub [2, 3, 1, 0] rfl (lp_X8_findSoonest_144 C hR n s v2 v5_12  (0 : Int32) y_15.2 _ h1 ?_)
          show At F G Q 7 173 [(0, .ref (G.2.1 39)), (2, .int v2), (3, .int v5_12)] [] (s, t_18)
          exact a_sub [0, 1, 2] rfl (w_X8_findSoonest_173_in65 C hR n s t_18 v2 v5_12 res hf hK)
theorem lp_X8_findSoonest_65 {F : FX} {G : GX} {Q : State → Prop} (C : Cx F G cX8_findSoonest 7 RX8) (hR : Rm F 6) (n : Nat) (s : MM) (v2 : Int32)  (v3 : Int32) (v4 : Int32) (t : SR) (x : Int32 × SR) (h : it3 (lb_X8_findSoonest_65 n v2) n v3 v4 t = some x) (hE : E_X8_findSoonest_65 F G Q s v2 x) : At F G Q 7 65 [(0, .ref (G.2.1 39)), (2, .int v2), (3, .int v3), (4, .int v4)] [] (s, t) :=
  it3_ind (b := (lb_X8_findSoonest_65 n v2)) (E := E_X8_findSoonest_65 F G Q s v2) (P := fun v3 v4 t => P_X8_findSoonest_65 F G Q s v2 v3 v4 t) (fun v3 v4 t res hf hK => w_X8_findSoonest_65 C hR n s v2   v3 v4 t res hf hK) n v3 v4 t x h hE
def f_X8_findSoonest (n : Nat) (t : SR) (v1 : Int32) (v2 : Int32) : Option (Int32 × SR) :=
  nm (sr1 t 39 24 (0 : Int32)) (fun t_1 => b1 (it2 (lb_X8_findSoonest_7 n v1 v2) n (0 : Int32) t_1) (fun t_8 => b2 (it3 (lb_X8_findSoonest_65 n v2) n (12 : Int32) (1 : Int32) t_8) (fun v3_19 t_20 => (if v3_19 = (12 : Int32) then some ((-4 : Int32), t_20) else some (v3_19, t_20)))))
set_option maxHeartbeats 4000000 in
theorem w_X8_findSoonest_e {F : FX} {G : GX} {Q : State → Prop} (C : Cx F G cX8_findSoonest 7 RX8) (hR : Rm F 6) (n : Nat) (s : MM) (t : SR)  (v1 : Int32) (v2 : Int32) (res : Int32 × SR) (hf : f_X8_findSoonest n t v1 v2 = some res) (hK : RetI F G Q cX8_findSoonest 7 .int res.1 (s, res.2)) : At F G Q 7 0 [(0, .ref (G.2.1 39)), (1, .int v1), (2, .int v2)] [] (s, t) := by
  unfold f_X8_findSoonest at hf
  refine a_aload_n C (i := 0) (q := 1) dX8_findSoonest_0 rfl 0 rfl rfl ?_
  refine a_iconst C (v := (0 : Int32)) (q := 2) dX8_findSoonest_1 rfl (by decide) ?_
  refine a_put8N C (q := 5) (mk := (fun z => (s, z))) dX8_findSoonest_2 hf 24 (by decide) k_792 (by decide) rfl rfl cellE_R1 rfl rfl rfl (Nat.le_of_ble_eq_true rfl) rfl (fun t_1 hf => ?_)
  refine a_iconst C (v := (0 : Int32)) (q := 6) dX8_findSoonest_5 rfl (by decide) ?_
  refine a_istore_n C (i := 3) (q := 7) (lv' := [(3, .int (0 : Int32)), (0, .ref (G.2.1 39)), (1, .int v1), (2, .int v2)]) dX8_findSoonest_6 rfl (by decide) rfl rfl ?_
  obtain ⟨t_8, h1, hf⟩ := b1_some hf
  refine a_sub [1, 2, 3, 0] rfl (lp_X8_findSoonest_7 C hR n s v1 v2  (0 : Int32) t_1 _ h1 ?_)
  show At F G Q 7 59 [(0, .ref (G.2.1 39)), (2, .int v2)] [] (s, t_8)
  refine a_bipush C (v := (12 : Int32)) (q := 61) dX8_findSoonest_59 rfl (by decide) ?_
  refine a_istore_n C (i := 3) (q := 62) (lv' := [(3, .int (12 : Int32)), (0, .ref (G.2.1 39)), (2, .int v2)]) dX8_findSoonest_61 rfl (by decide) rfl rfl ?_
  refine a_iconst C (v := (1 : Int32)) (q := 63) dX8_findSoonest_62 rfl (by decide) ?_
  refine a_istore C (i := 4) (q := 65) (lv' := [(4, .int (1 : Int32)), (3, .int (12 : Int32)), (0, .ref (G.2.1 39)), (2, .int v2)]) dX8_findSoonest_63 (by decide) rfl rfl ?_
  obtain ⟨v3_19, t_20, h1, hf⟩ := b2_some hf
  refine a_sub [2, 3, 1, 0] rfl (lp_X8_findSoonest_65 C hR n s v2  (12 : Int32) (1 : Int32) t_8 _ h1 ?_)
  show At F G Q 7 182 [(3, .int v3_19)] [] (s, t_20)
  refine a_iload_n C (i := 3) (q := 183) dX8_findSoonest_182 rfl 0 rfl rfl ?_
  refine a_bipush C (v := (12 : Int32)) (q := 185) dX8_findSoonest_183 rfl (by decide) ?_
  refine a_icmp_ne C (tgt := 193) (q := 188) dX8_findSoonest_185 hf (by decide) rfl (fun hf => ?_) (fun hf => ?_)
  · refine a_iload_n C (i := 3) (q := 194) dX8_findSoonest_193 rfl 0 rfl rfl ?_
    have hf := Option.some.inj hf; subst hf
    exact (show RetI F G Q cX8_findSoonest 7 .int v3_19 (s, t_20) from hK) rfl _ _ dX8_findSoonest_194
  · refine a_bipush C (v := (-4 : Int32)) (q := 190) dX8_findSoonest_188 rfl (by decide) ?_
    refine a_goto C (q := 194) dX8_findSoonest_190 (by decide) ?_
    have hf := Option.some.inj hf; subst hf
    exact (show RetI F G Q cX8_findSoonest 7 .int (-4 : Int32) (s, t_20) from hK) rfl _ _ dX8_findSoonest_194
theorem c_X8_findSoonest (l : Launch) (G : GX) (n : Nat) (s : MM) (t : SR) (v1 : Int32) (v2 : Int32) (res : Int32 × SR) (hf : f_X8_findSoonest n t v1 v2 = some res) : MetC l G yX8_findSoonest cX8_findSoonest 7 (some .int) 6 (s, t) [.ref (G.2.1 39), .int v1, .int v2] (PostI G res.1 (s, res.2)) :=
  m_I (by decide) (Nat.le_of_ble_eq_true rfl) (fun F Q C h1 h2 h3 hK => w_X8_findSoonest_e C (Rm.of h1 h3) n s t v1 v2 res hf hK)
theorem cw_X8_soonest : CwV RX8 yX8_soonest cX8_soonest 3 2 (some .int) := ⟨k_1045, k_1043, k_1044, k_9, by decide +kernel, by decide⟩
def f_X8_soonest (n : Nat) (t : SR) (v1 : Int32) (v2 : Int32) : Option (Int32 × SR) :=
  b1 (f_X8_isAllIn n t v1 v2) (fun y_1 => (if y_1 = 0 then some ((-1 : Int32), t) else b1 (f_X8_findSoonest n t v1 v2) (fun y_2 => some (y_2.1, y_2.2))))
set_option maxHeartbeats 4000000 in
theorem w_X8_soonest_e {F : FX} {G : GX} {Q : State → Prop} (C : Cx F G cX8_soonest 3 RX8) (hR : Rm F 7) (n : Nat) (s : MM) (t : SR)  (v1 : Int32) (v2 : Int32) (res : Int32 × SR) (hf : f_X8_soonest n t v1 v2 = some res) (hK : RetI F G Q cX8_soonest 3 .int res.1 (s, res.2)) : At F G Q 3 0 [(0, .ref (G.2.1 39)), (1, .int v1), (2, .int v2)] [] (s, t) := by
  unfold f_X8_soonest at hf
  refine a_aload_n C (i := 0) (q := 1) dX8_soonest_0 rfl 0 rfl rfl ?_
  refine a_iload_n C (i := 1) (q := 2) dX8_soonest_1 rfl 1 rfl rfl ?_
  refine a_iload_n C (i := 2) (q := 3) dX8_soonest_2 rfl 2 rfl rfl ?_
  refine a_callVI C (q := 6) (As := [.int v1, .int v2]) (st := []) dX8_soonest_3 hR (by decide) hf (fun b => b) (fun _ => (s, t)) (by decide) rfl rfl cw_X8_isAllIn (fun b hb => c_X8_isAllIn _ G n s t v1 v2 b hb) rfl rfl (Nat.le_of_ble_eq_true rfl) k_1046 rfl (fun y_1 hf => ?_)
  refine a_if_eq C (tgt := 18) (q := 9) dX8_soonest_6 hf (by decide) rfl (fun hf => ?_) (fun hf => ?_)
  · refine a_iconst C (v := (-1 : Int32)) (q := 19) dX8_soonest_18 rfl (by decide) ?_
    have hf := Option.some.inj hf; subst hf
    exact (show RetI F G Q cX8_soonest 3 .int (-1 : Int32) (s, t) from hK) rfl _ _ dX8_soonest_19
  · refine a_aload_n C (i := 0) (q := 10) dX8_soonest_9 rfl 0 rfl rfl ?_
    refine a_iload_n C (i := 1) (q := 11) dX8_soonest_10 rfl 1 rfl rfl ?_
    refine a_iload_n C (i := 2) (q := 12) dX8_soonest_11 rfl 2 rfl rfl ?_
    refine a_callVI C (q := 15) (As := [.int v1, .int v2]) (st := []) dX8_soonest_12 hR (by decide) hf (fun b => b.1) (fun b => (s, b.2)) (by decide) rfl rfl cw_X8_findSoonest (fun b hb => c_X8_findSoonest _ G n s t v1 v2 b hb) rfl rfl (Nat.le_of_ble_eq_true rfl) k_1053 rfl (fun y_2 hf => ?_)
    refine a_goto C (q := 19) dX8_soonest_15 (by decide) ?_
    have hf := Option.some.inj hf; subst hf
    exact (show RetI F G Q cX8_soonest 3 .int y_2.1 (s, y_2.2) from hK) rfl _ _ dX8_soonest_19
theorem c_X8_soonest (l : Launch) (G : GX) (n : Nat) (s : MM) (t : SR) (v1 : Int32) (v2 : Int32) (res : Int32 × SR) (hf : f_X8_soonest n t v1 v2 = some res) : MetC l G yX8_soonest cX8_soonest 3 (some .int) 7 (s, t) [.ref (G.2.1 39), .int v1, .int v2] (PostI G res.1 (s, res.2)) :=
  m_I (by decide) (Nat.le_of_ble_eq_true rfl) (fun F Q C h1 h2 h3 hK => w_X8_soonest_e C (Rm.of h1 h3) n s t v1 v2 res hf hK)
theorem cw_X8_when : CwV RX8 yX8_when cX8_when 5 3 (some .int) := ⟨k_1072, k_1070, k_1071, k_9, by decide +kernel, by decide⟩
def P_X8_when_42 (F : FX) (G : GX) (Q : State → Prop) (s : MM) (t : SR) (v3 : Int32) (v4 : Int32) : Prop := At F G Q 5 42 [(0, .ref (G.2.1 39)), (3, .int v3), (4, .int v4)] [] (s, t)
def E_X8_when_42 (F : FX) (G : GX) (Q : State → Prop) (s : MM) (t : SR) (v3 : Int32) : Int32 → Prop := fun q => match q with
  | v4 => At F G Q 5 59 [(0, .ref (G.2.1 39)), (4, .int v4)] [] (s, t)
def lb_X8_when_42 (n : Nat) (t : SR) (v3 : Int32) (v4 : Int32) : Option ((Int32) ⊕ (Int32)) :=
  ix v4 4 ((if (t.1 48 v4.toNatClampNeg) = v3 then some (.inl v4) else nm (v4 + 1) (fun v4_5 => some (.inr v4_5))))
set_option maxHeartbeats 4000000 in
theorem w_X8_when_42 {F : FX} {G : GX} {Q : State → Prop} (C : Cx F G cX8_when 5 RX8) (hR : Rm F 7) (n : Nat) (s : MM) (t : SR) (v3 : Int32)  (v4 : Int32) (res : (Int32) ⊕ (Int32)) (hf : lb_X8_when_42 n t v3 v4 = some res) (hK : Sum.elim (E_X8_when_42 F G Q s t v3) (fun q => match q with | v4 => P_X8_when_42 F G Q s t v3 v4) res) : P_X8_when_42 F G Q s t v3 v4 := by
  unfold lb_X8_when_42 at hf
  show At F G Q 5 42 [(0, .ref (G.2.1 39)), (3, .int v3), (4, .int v4)] [] (s, t)
  refine a_aload_n C (i := 0) (q := 43) dX8_when_42 rfl 0 rfl rfl ?_
  refine a_get8 C (q := 46) dX8_when_43 21 (by decide) k_789 (by decide) rfl rfl rfl ?_
  refine a_iload C (i := 4) (q := 48) dX8_when_46 rfl 2 rfl ?_
  refine a_iald C (q := 49) (g := t.1 48) dX8_when_48 hf (by decide) rfl rfl (fun hf => ?_)
  refine a_iload_n C (i := 3) (q := 50) dX8_when_49 rfl 1 rfl rfl ?_
  refine a_icmp_eq C (tgt := 59) (q := 53) dX8_when_50 hf (by decide) rfl (fun hf => ?_) (fun hf => ?_)
  · have hf := Option.some.inj hf; subst hf
    exact a_sub [0, 2] rfl (show At F G Q 5 59 [(0, .ref (G.2.1 39)), (4, .int v4)] [] (s, t) from hK)
  · refine a_iincN C (i := 4) (k := 2) (q := 56) (lv' := fun z => [(4, .int z), (0, .ref (G.2.1 39)), (3, .int v3)]) dX8_when_53 hf rfl rfl (by decide) (fun _ => rfl) rfl (fun v4_5 hf => ?_)
    refine a_goto C (q := 42) dX8_when_56 (by decide) ?_
    have hf := Option.some.inj hf; subst hf
    exact a_sub [1, 2, 0] rfl (show At F G Q 5 42 [(0, .ref (G.2.1 39)), (3, .int v3), (4, .int v4_5)] [] (s, t) from hK)
theorem lp_X8_when_42 {F : FX} {G : GX} {Q : State → Prop} (C : Cx F G cX8_when 5 RX8) (hR : Rm F 7) (n : Nat) (s : MM) (t : SR) (v3 : Int32)  (v4 : Int32) (x : Int32) (h : it1 (lb_X8_when_42 n t v3) n v4 = some x) (hE : E_X8_when_42 F G Q s t v3 x) : At F G Q 5 42 [(0, .ref (G.2.1 39)), (3, .int v3), (4, .int v4)] [] (s, t) :=
  it1_ind (b := (lb_X8_when_42 n t v3)) (E := E_X8_when_42 F G Q s t v3) (P := fun v4 => P_X8_when_42 F G Q s t v3 v4) (fun v4 res hf hK => w_X8_when_42 C hR n s t v3   v4 res hf hK) n v4 x h hE
def f_X8_when (n : Nat) (t : SR) (v1 : Int32) (v2 : Int32) (v3 : Int32) : Option (Int32 × SR) :=
  b1 (f_X8_isAllIn n t v1 v2) (fun y_1 => (if y_1 = 0 then some ((-1 : Int32), t) else b1 (f_X8_isOne t v3) (fun y_2 => (if y_2 = 0 then some ((-1 : Int32), t) else b1 (f_X8_has v1 v3) (fun y_3 => (if y_3 = 0 then some ((-1 : Int32), t) else b1 (f_X8_findSoonest n t v1 v2) (fun y_4 => (if 0 ≤ y_4.1 then b1 (it1 (lb_X8_when_42 n y_4.2 v3) n (0 : Int32)) (fun v4_6 => ix v4_6 4 (some (y_4.2.1 50 v4_6.toNatClampNeg, y_4.2))) else some ((-4 : Int32), y_4.2)))))))))
set_option maxHeartbeats 4000000 in
theorem w_X8_when_e {F : FX} {G : GX} {Q : State → Prop} (C : Cx F G cX8_when 5 RX8) (hR : Rm F 7) (n : Nat) (s : MM) (t : SR)  (v1 : Int32) (v2 : Int32) (v3 : Int32) (res : Int32 × SR) (hf : f_X8_when n t v1 v2 v3 = some res) (hK : RetI F G Q cX8_when 5 .int res.1 (s, res.2)) : At F G Q 5 0 [(0, .ref (G.2.1 39)), (1, .int v1), (2, .int v2), (3, .int v3)] [] (s, t) := by
  unfold f_X8_when at hf
  refine a_aload_n C (i := 0) (q := 1) dX8_when_0 rfl 0 rfl rfl ?_
  refine a_iload_n C (i := 1) (q := 2) dX8_when_1 rfl 1 rfl rfl ?_
  refine a_iload_n C (i := 2) (q := 3) dX8_when_2 rfl 2 rfl rfl ?_
  refine a_callVI C (q := 6) (As := [.int v1, .int v2]) (st := []) dX8_when_3 hR (by decide) hf (fun b => b) (fun _ => (s, t)) (by decide) rfl rfl cw_X8_isAllIn (fun b hb => c_X8_isAllIn _ G n s t v1 v2 b hb) rfl rfl (Nat.le_of_ble_eq_true rfl) k_1046 rfl (fun y_1 hf => ?_)
  refine a_if_eq C (tgt := 25) (q := 9) dX8_when_6 hf (by decide) rfl (fun hf => ?_) (fun hf => ?_)
  · refine a_iconst C (v := (-1 : Int32)) (q := 26) dX8_when_25 rfl (by decide) ?_
    have hf := Option.some.inj hf; subst hf
    exact (show RetI F G Q cX8_when 5 .int (-1 : Int32) (s, t) from hK) rfl _ _ dX8_when_26
  · refine a_aload_n C (i := 0) (q := 10) dX8_when_9 rfl 0 rfl rfl ?_
    refine a_iload_n C (i := 3) (q := 11) dX8_when_10 rfl 3 rfl rfl ?_
    refine a_callVI C (q := 14) (As := [.int v3]) (st := []) dX8_when_11 hR (by decide) hf (fun b => b) (fun _ => (s, t)) (by decide) rfl rfl cw_X8_isOne (fun b hb => c_X8_isOne _ G s t v3 b hb) rfl rfl (Nat.le_of_ble_eq_true rfl) k_892 rfl (fun y_2 hf => ?_)
    refine a_if_eq C (tgt := 25) (q := 17) dX8_when_14 hf (by decide) rfl (fun hf => ?_) (fun hf => ?_)
    · refine a_iconst C (v := (-1 : Int32)) (q := 26) dX8_when_25 rfl (by decide) ?_
      have hf := Option.some.inj hf; subst hf
      exact (show RetI F G Q cX8_when 5 .int (-1 : Int32) (s, t) from hK) rfl _ _ dX8_when_26
    · refine a_iload_n C (i := 1) (q := 18) dX8_when_17 rfl 1 rfl rfl ?_
      refine a_iload_n C (i := 3) (q := 19) dX8_when_18 rfl 3 rfl rfl ?_
      refine a_callSI C (q := 22) (As := [.int v1, .int v3]) (st := []) dX8_when_19 hR (by decide) hf (fun b => b) (fun _ => (s, t)) cw_X8_has (fun b hb => c_X8_has _ G s t v1 v3 b hb) rfl rfl (Nat.le_of_ble_eq_true rfl) k_912 rfl (fun y_3 hf => ?_)
      refine a_if_ne C (tgt := 27) (q := 25) dX8_when_22 hf (by decide) rfl (fun hf => ?_) (fun hf => ?_)
      · refine a_aload_n C (i := 0) (q := 28) dX8_when_27 rfl 0 rfl rfl ?_
        refine a_iload_n C (i := 1) (q := 29) dX8_when_28 rfl 1 rfl rfl ?_
        refine a_iload_n C (i := 2) (q := 30) dX8_when_29 rfl 2 rfl rfl ?_
        refine a_callVI C (q := 33) (As := [.int v1, .int v2]) (st := []) dX8_when_30 hR (by decide) hf (fun b => b.1) (fun b => (s, b.2)) (by decide) rfl rfl cw_X8_findSoonest (fun b hb => c_X8_findSoonest _ G n s t v1 v2 b hb) rfl rfl (Nat.le_of_ble_eq_true rfl) k_1053 rfl (fun y_4 hf => ?_)
        refine a_if_ge C (tgt := 39) (q := 36) dX8_when_33 hf (by decide) rfl (fun hf => ?_) (fun hf => ?_)
        · refine a_iconst C (v := (0 : Int32)) (q := 40) dX8_when_39 rfl (by decide) ?_
          refine a_istore C (i := 4) (q := 42) (lv' := [(4, .int (0 : Int32)), (0, .ref (G.2.1 39)), (1, .int v1), (2, .int v2), (3, .int v3)]) dX8_when_40 (by decide) rfl rfl ?_
          obtain ⟨v4_6, h1, hf⟩ := b1_some hf
          refine a_sub [1, 4, 0] rfl (lp_X8_when_42 C hR n s y_4.2 v3  (0 : Int32) _ h1 ?_)
          show At F G Q 5 59 [(0, .ref (G.2.1 39)), (4, .int v4_6)] [] (s, y_4.2)
          refine a_aload_n C (i := 0) (q := 60) dX8_when_59 rfl 0 rfl rfl ?_
          refine a_get8 C (q := 63) dX8_when_60 23 (by decide) k_791 (by decide) rfl rfl rfl ?_
          refine a_iload C (i := 4) (q := 65) dX8_when_63 rfl 1 rfl ?_
          refine a_iald C (q := 66) (g := y_4.2.1 50) dX8_when_65 hf (by decide) rfl rfl (fun hf => ?_)
          have hf := Option.some.inj hf; subst hf
          exact (show RetI F G Q cX8_when 5 .int (y_4.2.1 50 v4_6.toNatClampNeg) (s, y_4.2) from hK) rfl _ _ dX8_when_66
        · refine a_bipush C (v := (-4 : Int32)) (q := 38) dX8_when_36 rfl (by decide) ?_
          have hf := Option.some.inj hf; subst hf
          exact (show RetI F G Q cX8_when 5 .int (-4 : Int32) (s, y_4.2) from hK) rfl _ _ dX8_when_38
      · refine a_iconst C (v := (-1 : Int32)) (q := 26) dX8_when_25 rfl (by decide) ?_
        have hf := Option.some.inj hf; subst hf
        exact (show RetI F G Q cX8_when 5 .int (-1 : Int32) (s, t) from hK) rfl _ _ dX8_when_26
theorem c_X8_when (l : Launch) (G : GX) (n : Nat) (s : MM) (t : SR) (v1 : Int32) (v2 : Int32) (v3 : Int32) (res : Int32 × SR) (hf : f_X8_when n t v1 v2 v3 = some res) : MetC l G yX8_when cX8_when 5 (some .int) 7 (s, t) [.ref (G.2.1 39), .int v1, .int v2, .int v3] (PostI G res.1 (s, res.2)) :=
  m_I (by decide) (Nat.le_of_ble_eq_true rfl) (fun F Q C h1 h2 h3 hK => w_X8_when_e C (Rm.of h1 h3) n s t v1 v2 v3 res hf hK)
theorem cw_X8_isEvenWith : CwV RX8 yX8_isEvenWith cX8_isEvenWith 3 1 (some .boolean) := ⟨k_1085, k_1084, kp_44, k_9, by decide +kernel, by decide⟩
def P_X8_isEvenWith_2 (F : FX) (G : GX) (Q : State → Prop) (s : MM) (v1 : Int32) (v2 : Int32) (t : SR) : Prop := At F G Q 3 2 [(0, .ref (G.2.1 39)), (1, .int v1), (2, .int v2)] [] (s, t)
def E_X8_isEvenWith_2 (F : FX) (G : GX) (Q : State → Prop) (s : MM) (v1 : Int32) : SR → Prop := fun q => match q with
  | t => At F G Q 3 26 [(0, .ref (G.2.1 39)), (1, .int v1)] [] (s, t)
def lb_X8_isEvenWith_2 (n : Nat) (v1 : Int32) (v2 : Int32) (t : SR) : Option ((SR) ⊕ (Int32 × SR)) :=
  (if (12 : Int32) ≤ v2 then some (.inl t) else ix v2 12 (ix v2 12 (nm (sr1 t 45 v2.toNatClampNeg (t.1 44 v2.toNatClampNeg)) (fun t_1 => nm (v2 + 1) (fun v2_2 => some (.inr (v2_2, t_1)))))))
set_option maxHeartbeats 4000000 in
theorem w_X8_isEvenWith_2 {F : FX} {G : GX} {Q : State → Prop} (C : Cx F G cX8_isEvenWith 3 RX8) (hR : Rm F 5) (n : Nat) (s : MM) (v1 : Int32)  (v2 : Int32) (t : SR) (res : (SR) ⊕ (Int32 × SR)) (hf : lb_X8_isEvenWith_2 n v1 v2 t = some res) (hK : Sum.elim (E_X8_isEvenWith_2 F G Q s v1) (fun q => match q with | (v2, t) => P_X8_isEvenWith_2 F G Q s v1 v2 t) res) : P_X8_isEvenWith_2 F G Q s v1 v2 t := by
  unfold lb_X8_isEvenWith_2 at hf
  show At F G Q 3 2 [(0, .ref (G.2.1 39)), (1, .int v1), (2, .int v2)] [] (s, t)
  refine a_iload_n C (i := 2) (q := 3) dX8_isEvenWith_2 rfl 2 rfl rfl ?_
  refine a_bipush C (v := (12 : Int32)) (q := 5) dX8_isEvenWith_3 rfl (by decide) ?_
  refine a_icmp_ge C (tgt := 26) (q := 8) dX8_isEvenWith_5 hf (by decide) rfl (fun hf => ?_) (fun hf => ?_)
  · have hf := Option.some.inj hf; subst hf
    exact a_sub [0, 1] rfl (show At F G Q 3 26 [(0, .ref (G.2.1 39)), (1, .int v1)] [] (s, t) from hK)
  · refine a_aload_n C (i := 0) (q := 9) dX8_isEvenWith_8 rfl 0 rfl rfl ?_
    refine a_get8 C (q := 12) dX8_isEvenWith_9 9 (by decide) k_777 (by decide) rfl rfl rfl ?_
    refine a_iload_n C (i := 2) (q := 13) dX8_isEvenWith_12 rfl 2 rfl rfl ?_
    refine a_aload_n C (i := 0) (q := 14) dX8_isEvenWith_13 rfl 0 rfl rfl ?_
    refine a_get8 C (q := 17) dX8_isEvenWith_14 5 (by decide) k_773 (by decide) rfl rfl rfl ?_
    refine a_iload_n C (i := 2) (q := 18) dX8_isEvenWith_17 rfl 2 rfl rfl ?_
    refine a_iald C (q := 19) (g := t.1 44) dX8_isEvenWith_18 hf (by decide) rfl rfl (fun hf => ?_)
    refine a_iastN C (q := 20) (mk := (fun z => (s, z))) dX8_isEvenWith_19 hf (by decide) rfl rfl cellE_R1 rfl (fun t_1 hf => ?_)
    refine a_iincN C (i := 2) (k := 2) (q := 23) (lv' := fun z => [(2, .int z), (0, .ref (G.2.1 39)), (1, .int v1)]) dX8_isEvenWith_20 hf rfl rfl (by decide) (fun _ => rfl) rfl (fun v2_2 hf => ?_)
    refine a_goto C (q := 2) dX8_isEvenWith_23 (by decide) ?_
    have hf := Option.some.inj hf; subst hf
    exact a_sub [1, 2, 0] rfl (show At F G Q 3 2 [(0, .ref (G.2.1 39)), (1, .int v1), (2, .int v2_2)] [] (s, t_1) from hK)
theorem lp_X8_isEvenWith_2 {F : FX} {G : GX} {Q : State → Prop} (C : Cx F G cX8_isEvenWith 3 RX8) (hR : Rm F 5) (n : Nat) (s : MM) (v1 : Int32)  (v2 : Int32) (t : SR) (x : SR) (h : it2 (lb_X8_isEvenWith_2 n v1) n v2 t = some x) (hE : E_X8_isEvenWith_2 F G Q s v1 x) : At F G Q 3 2 [(0, .ref (G.2.1 39)), (1, .int v1), (2, .int v2)] [] (s, t) :=
  it2_ind (b := (lb_X8_isEvenWith_2 n v1)) (E := E_X8_isEvenWith_2 F G Q s v1) (P := fun v2 t => P_X8_isEvenWith_2 F G Q s v1 v2 t) (fun v2 t res hf hK => w_X8_isEvenWith_2 C hR n s v1   v2 t res hf hK) n v2 t x h hE
def P_X8_isEvenWith_28 (F : FX) (G : GX) (Q : State → Prop) (s : MM) (v1 : Int32) (v2 : Int32) (t : SR) : Prop := At F G Q 3 28 [(0, .ref (G.2.1 39)), (1, .int v1), (2, .int v2)] [] (s, t)
def E_X8_isEvenWith_28 (F : FX) (G : GX) (Q : State → Prop) (s : MM) (v1 : Int32) : SR → Prop := fun q => match q with
  | t => At F G Q 3 70 [(0, .ref (G.2.1 39))] [] (s, t)
def lb_X8_isEvenWith_28 (n : Nat) (v1 : Int32) (v2 : Int32) (t : SR) : Option ((SR) ⊕ (Int32 × SR)) :=
  (if (t.1 39 4) ≤ v2 then some (.inl t) else b1 (f_X8_has v1 v2) (fun y_4 => (if y_4 = 0 then nm (v2 + 1) (fun v2_5 => some (.inr (v2_5, t))) else ix v2 10 (ix (t.1 42 v2.toNatClampNeg) 12 (ix v2 10 (ix (t.1 42 v2.toNatClampNeg) 12 (nm (sr1 t 45 ((t.1 42 v2.toNatClampNeg).toNatClampNeg) ((t.1 45 ((t.1 42 v2.toNatClampNeg).toNatClampNeg)) + (t.1 41 v2.toNatClampNeg))) (fun t_6 => nm (v2 + 1) (fun v2_7 => some (.inr (v2_7, t_6)))))))))))
set_option maxHeartbeats 4000000 in
theorem w_X8_isEvenWith_28 {F : FX} {G : GX} {Q : State → Prop} (C : Cx F G cX8_isEvenWith 3 RX8) (hR : Rm F 5) (n : Nat) (s : MM) (v1 : Int32)  (v2 : Int32) (t : SR) (res : (SR) ⊕ (Int32 × SR)) (hf : lb_X8_isEvenWith_28 n v1 v2 t = some res) (hK : Sum.elim (E_X8_isEvenWith_28 F G Q s v1) (fun q => match q with | (v2, t) => P_X8_isEvenWith_28 F G Q s v1 v2 t) res) : P_X8_isEvenWith_28 F G Q s v1 v2 t := by
  unfold lb_X8_isEvenWith_28 at hf
  show At F G Q 3 28 [(0, .ref (G.2.1 39)), (1, .int v1), (2, .int v2)] [] (s, t)
  refine a_iload_n C (i := 2) (q := 29) dX8_isEvenWith_28 rfl 2 rfl rfl ?_
  refine a_aload_n C (i := 0) (q := 30) dX8_isEvenWith_29 rfl 0 rfl rfl ?_
  refine a_get8 C (q := 33) dX8_isEvenWith_30 4 (by decide) k_772 (by decide) rfl rfl rfl ?_
  refine a_icmp_ge C (tgt := 70) (q := 36) dX8_isEvenWith_33 hf (by decide) rfl (fun hf => ?_) (fun hf => ?_)
  · have hf := Option.some.inj hf; subst hf
    exact a_sub [0] rfl (show At F G Q 3 70 [(0, .ref (G.2.1 39))] [] (s, t) from hK)
  · refine a_iload_n C (i := 1) (q := 37) dX8_isEvenWith_36 rfl 1 rfl rfl ?_
    refine a_iload_n C (i := 2) (q := 38) dX8_isEvenWith_37 rfl 2 rfl rfl ?_
    refine a_callSI C (q := 41) (As := [.int v1, .int v2]) (st := []) dX8_isEvenWith_38 hR (by decide) hf (fun b => b) (fun _ => (s, t)) cw_X8_has (fun b hb => c_X8_has _ G s t v1 v2 b hb) rfl rfl (Nat.le_of_ble_eq_true rfl) k_912 rfl (fun y_4 hf => ?_)
    refine a_if_eq C (tgt := 64) (q := 44) dX8_isEvenWith_41 hf (by decide) rfl (fun hf => ?_) (fun hf => ?_)
    · refine a_iincN C (i := 2) (k := 2) (q := 67) (lv' := fun z => [(2, .int z), (0, .ref (G.2.1 39)), (1, .int v1)]) dX8_isEvenWith_64 hf rfl rfl (by decide) (fun _ => rfl) rfl (fun v2_5 hf => ?_)
      refine a_goto C (q := 28) dX8_isEvenWith_67 (by decide) ?_
      have hf := Option.some.inj hf; subst hf
      exact a_sub [1, 2, 0] rfl (show At F G Q 3 28 [(0, .ref (G.2.1 39)), (1, .int v1), (2, .int v2_5)] [] (s, t) from hK)
    · refine a_aload_n C (i := 0) (q := 45) dX8_isEvenWith_44 rfl 0 rfl rfl ?_
      refine a_get8 C (q := 48) dX8_isEvenWith_45 9 (by decide) k_777 (by decide) rfl rfl rfl ?_
      refine a_aload_n C (i := 0) (q := 49) dX8_isEvenWith_48 rfl 0 rfl rfl ?_
      refine a_get8 C (q := 52) dX8_isEvenWith_49 2 (by decide) k_770 (by decide) rfl rfl rfl ?_
      refine a_iload_n C (i := 2) (q := 53) dX8_isEvenWith_52 rfl 2 rfl rfl ?_
      refine a_iald C (q := 54) (g := t.1 42) dX8_isEvenWith_53 hf (by decide) rfl rfl (fun hf => ?_)
      refine a_dup2 C (q := 55) dX8_isEvenWith_54 rfl rfl rfl ?_
      refine a_iald C (q := 56) (g := t.1 45) dX8_isEvenWith_55 hf (by decide) rfl rfl (fun hf => ?_)
      refine a_aload_n C (i := 0) (q := 57) dX8_isEvenWith_56 rfl 0 rfl rfl ?_
      refine a_get8 C (q := 60) dX8_isEvenWith_57 1 (by decide) k_769 (by decide) rfl rfl rfl ?_
      refine a_iload_n C (i := 2) (q := 61) dX8_isEvenWith_60 rfl 2 rfl rfl ?_
      refine a_iald C (q := 62) (g := t.1 41) dX8_isEvenWith_61 hf (by decide) rfl rfl (fun hf => ?_)
      refine a_iadd C (q := 63) dX8_isEvenWith_62 rfl ?_
      refine a_iastN C (q := 64) (mk := (fun z => (s, z))) dX8_isEvenWith_63 hf (by decide) rfl rfl cellE_R1 rfl (fun t_6 hf => ?_)
      refine a_iincN C (i := 2) (k := 2) (q := 67) (lv' := fun z => [(2, .int z), (0, .ref (G.2.1 39)), (1, .int v1)]) dX8_isEvenWith_64 hf rfl rfl (by decide) (fun _ => rfl) rfl (fun v2_7 hf => ?_)
      refine a_goto C (q := 28) dX8_isEvenWith_67 (by decide) ?_
      have hf := Option.some.inj hf; subst hf
      exact a_sub [1, 2, 0] rfl (show At F G Q 3 28 [(0, .ref (G.2.1 39)), (1, .int v1), (2, .int v2_7)] [] (s, t_6) from hK)
theorem lp_X8_isEvenWith_28 {F : FX} {G : GX} {Q : State → Prop} (C : Cx F G cX8_isEvenWith 3 RX8) (hR : Rm F 5) (n : Nat) (s : MM) (v1 : Int32)  (v2 : Int32) (t : SR) (x : SR) (h : it2 (lb_X8_isEvenWith_28 n v1) n v2 t = some x) (hE : E_X8_isEvenWith_28 F G Q s v1 x) : At F G Q 3 28 [(0, .ref (G.2.1 39)), (1, .int v1), (2, .int v2)] [] (s, t) :=
  it2_ind (b := (lb_X8_isEvenWith_28 n v1)) (E := E_X8_isEvenWith_28 F G Q s v1) (P := fun v2 t => P_X8_isEvenWith_28 F G Q s v1 v2 t) (fun v2 t res hf hK => w_X8_isEvenWith_28 C hR n s v1   v2 t res hf hK) n v2 t x h hE
def f_X8_isEvenWith (n : Nat) (t : SR) (v1 : Int32) : Option (Int32 × SR) :=
  b1 (it2 (lb_X8_isEvenWith_2 n v1) n (0 : Int32) t) (fun t_3 => b1 (it2 (lb_X8_isEvenWith_28 n v1) n (0 : Int32) t_3) (fun t_8 => b1 (f_X8_isEvenNow n t_8) (fun y_9 => bz y_9.1 (some (y_9.1, y_9.2)))))
set_option maxHeartbeats 4000000 in
theorem w_X8_isEvenWith_e {F : FX} {G : GX} {Q : State → Prop} (C : Cx F G cX8_isEvenWith 3 RX8) (hR : Rm F 5) (n : Nat) (s : MM) (t : SR)  (v1 : Int32) (res : Int32 × SR) (hf : f_X8_isEvenWith n t v1 = some res) (hK : RetI F G Q cX8_isEvenWith 3 .boolean res.1 (s, res.2)) : At F G Q 3 0 [(0, .ref (G.2.1 39)), (1, .int v1)] [] (s, t) := by
  unfold f_X8_isEvenWith at hf
  refine a_iconst C (v := (0 : Int32)) (q := 1) dX8_isEvenWith_0 rfl (by decide) ?_
  refine a_istore_n C (i := 2) (q := 2) (lv' := [(2, .int (0 : Int32)), (0, .ref (G.2.1 39)), (1, .int v1)]) dX8_isEvenWith_1 rfl (by decide) rfl rfl ?_
  obtain ⟨t_3, h1, hf⟩ := b1_some hf
  refine a_sub [1, 2, 0] rfl (lp_X8_isEvenWith_2 C hR n s v1  (0 : Int32) t _ h1 ?_)
  show At F G Q 3 26 [(0, .ref (G.2.1 39)), (1, .int v1)] [] (s, t_3)
  refine a_iconst C (v := (0 : Int32)) (q := 27) dX8_isEvenWith_26 rfl (by decide) ?_
  refine a_istore_n C (i := 2) (q := 28) (lv' := [(2, .int (0 : Int32)), (0, .ref (G.2.1 39)), (1, .int v1)]) dX8_isEvenWith_27 rfl (by decide) rfl rfl ?_
  obtain ⟨t_8, h1, hf⟩ := b1_some hf
  refine a_sub [1, 2, 0] rfl (lp_X8_isEvenWith_28 C hR n s v1  (0 : Int32) t_3 _ h1 ?_)
  show At F G Q 3 70 [(0, .ref (G.2.1 39))] [] (s, t_8)
  refine a_aload_n C (i := 0) (q := 71) dX8_isEvenWith_70 rfl 0 rfl rfl ?_
  refine a_callVI C (q := 74) (As := []) (st := []) dX8_isEvenWith_71 hR (by decide) hf (fun b => b.1) (fun b => (s, b.2)) (by decide) rfl rfl cw_X8_isEvenNow (fun b hb => c_X8_isEvenNow _ G n s t_8 b hb) rfl rfl (Nat.le_of_ble_eq_true rfl) k_932 rfl (fun y_9 hf => ?_)
  obtain ⟨hz, hf⟩ := bz_some hf
  have hf := Option.some.inj hf; subst hf
  exact (show RetI F G Q cX8_isEvenWith 3 .boolean y_9.1 (s, y_9.2) from hK) hz _ _ dX8_isEvenWith_74
theorem c_X8_isEvenWith (l : Launch) (G : GX) (n : Nat) (s : MM) (t : SR) (v1 : Int32) (res : Int32 × SR) (hf : f_X8_isEvenWith n t v1 = some res) : MetC l G yX8_isEvenWith cX8_isEvenWith 3 (some .boolean) 5 (s, t) [.ref (G.2.1 39), .int v1] (PostI G res.1 (s, res.2)) :=
  m_I (by decide) (Nat.le_of_ble_eq_true rfl) (fun F Q C h1 h2 h3 hK => w_X8_isEvenWith_e C (Rm.of h1 h3) n s t v1 res hf hK)
theorem cw_X8_getOut : CwV RX8 yX8_getOut cX8_getOut 6 1 none := ⟨k_1081, k_1080, kp_43, k_9, by decide +kernel, by decide⟩
def P_X8_getOut_2 (F : FX) (G : GX) (Q : State → Prop) (s : MM) (v1 : Int32) (v2 : Int32) (t : SR) : Prop := At F G Q 6 2 [(0, .ref (G.2.1 39)), (1, .int v1), (2, .int v2)] [] (s, t)
def E_X8_getOut_2 (F : FX) (G : GX) (Q : State → Prop) (s : MM) (v1 : Int32) : SR → Prop := fun q => match q with
  | t => At F G Q 6 30 [(0, .ref (G.2.1 39)), (1, .int v1)] [] (s, t)
def lb_X8_getOut_2 (n : Nat) (v1 : Int32) (v2 : Int32) (t : SR) : Option ((SR) ⊕ (Int32 × SR)) :=
  (if ((1 : Int32) <<< ((t.1 39 4) &&& 31)) ≤ v2 then some (.inl t) else ix v2 1024 (ix v2 1024 (nm (sr1 t 52 v2.toNatClampNeg (vp_nar .boolean (t.1 51 v2.toNatClampNeg))) (fun t_1 => nm (v2 + 1) (fun v2_2 => some (.inr (v2_2, t_1)))))))
set_option maxHeartbeats 4000000 in
theorem w_X8_getOut_2 {F : FX} {G : GX} {Q : State → Prop} (C : Cx F G cX8_getOut 6 RX8) (hR : Rm F 6) (n : Nat) (s : MM) (v1 : Int32)  (v2 : Int32) (t : SR) (res : (SR) ⊕ (Int32 × SR)) (hf : lb_X8_getOut_2 n v1 v2 t = some res) (hK : Sum.elim (E_X8_getOut_2 F G Q s v1) (fun q => match q with | (v2, t) => P_X8_getOut_2 F G Q s v1 v2 t) res) : P_X8_getOut_2 F G Q s v1 v2 t := by
  unfold lb_X8_getOut_2 at hf
  show At F G Q 6 2 [(0, .ref (G.2.1 39)), (1, .int v1), (2, .int v2)] [] (s, t)
  refine a_iload_n C (i := 2) (q := 3) dX8_getOut_2 rfl 2 rfl rfl ?_
  refine a_iconst C (v := (1 : Int32)) (q := 4) dX8_getOut_3 rfl (by decide) ?_
  refine a_aload_n C (i := 0) (q := 5) dX8_getOut_4 rfl 0 rfl rfl ?_
  refine a_get8 C (q := 8) dX8_getOut_5 4 (by decide) k_772 (by decide) rfl rfl rfl ?_
  refine a_ishl C (q := 9) dX8_getOut_8 rfl ?_
  refine a_icmp_ge C (tgt := 30) (q := 12) dX8_getOut_9 hf (by decide) rfl (fun hf => ?_) (fun hf => ?_)
  · have hf := Option.some.inj hf; subst hf
    exact a_sub [0, 1] rfl (show At F G Q 6 30 [(0, .ref (G.2.1 39)), (1, .int v1)] [] (s, t) from hK)
  · refine a_aload_n C (i := 0) (q := 13) dX8_getOut_12 rfl 0 rfl rfl ?_
    refine a_get8 C (q := 16) dX8_getOut_13 26 (by decide) k_794 (by decide) rfl rfl rfl ?_
    refine a_iload_n C (i := 2) (q := 17) dX8_getOut_16 rfl 2 rfl rfl ?_
    refine a_aload_n C (i := 0) (q := 18) dX8_getOut_17 rfl 0 rfl rfl ?_
    refine a_get8 C (q := 21) dX8_getOut_18 25 (by decide) k_793 (by decide) rfl rfl rfl ?_
    refine a_iload_n C (i := 2) (q := 22) dX8_getOut_21 rfl 2 rfl rfl ?_
    refine a_zald C (q := 23) (g := t.1 51) dX8_getOut_22 hf (by decide) rfl rfl (fun hf => ?_)
    refine a_zastN C (q := 24) (mk := (fun z => (s, z))) dX8_getOut_23 hf (by decide) rfl rfl cellE_R1 rfl (fun t_1 hf => ?_)
    refine a_iincN C (i := 2) (k := 2) (q := 27) (lv' := fun z => [(2, .int z), (0, .ref (G.2.1 39)), (1, .int v1)]) dX8_getOut_24 hf rfl rfl (by decide) (fun _ => rfl) rfl (fun v2_2 hf => ?_)
    refine a_goto C (q := 2) dX8_getOut_27 (by decide) ?_
    have hf := Option.some.inj hf; subst hf
    exact a_sub [1, 2, 0] rfl (show At F G Q 6 2 [(0, .ref (G.2.1 39)), (1, .int v1), (2, .int v2_2)] [] (s, t_1) from hK)
theorem lp_X8_getOut_2 {F : FX} {G : GX} {Q : State → Prop} (C : Cx F G cX8_getOut 6 RX8) (hR : Rm F 6) (n : Nat) (s : MM) (v1 : Int32)  (v2 : Int32) (t : SR) (x : SR) (h : it2 (lb_X8_getOut_2 n v1) n v2 t = some x) (hE : E_X8_getOut_2 F G Q s v1 x) : At F G Q 6 2 [(0, .ref (G.2.1 39)), (1, .int v1), (2, .int v2)] [] (s, t) :=
  it2_ind (b := (lb_X8_getOut_2 n v1)) (E := E_X8_getOut_2 F G Q s v1) (P := fun v2 t => P_X8_getOut_2 F G Q s v1 v2 t) (fun v2 t res hf hK => w_X8_getOut_2 C hR n s v1   v2 t res hf hK) n v2 t x h hE
def P_X8_getOut_32 (F : FX) (G : GX) (Q : State → Prop) (s : MM) (v1 : Int32) (v2 : Int32) (t : SR) : Prop := At F G Q 6 32 [(0, .ref (G.2.1 39)), (1, .int v1), (2, .int v2)] [] (s, t)
def E_X8_getOut_32 (F : FX) (G : GX) (Q : State → Prop) (s : MM) (v1 : Int32) : SR → Prop := fun q => match q with
  | t => At F G Q 6 134 [(0, .ref (G.2.1 39))] [] (s, t)
def P_X8_getOut_62 (F : FX) (G : GX) (Q : State → Prop) (s : MM) (v1 : Int32) (v2 : Int32) (v3 : Int32) (v4 : Int32) (t : SR) : Prop := At F G Q 6 62 [(0, .ref (G.2.1 39)), (1, .int v1), (2, .int v2), (3, .int v3), (4, .int v4)] [] (s, t)
def E_X8_getOut_62 (F : FX) (G : GX) (Q : State → Prop) (s : MM) (v1 : Int32) (v2 : Int32) (v3 : Int32) : SR → Prop := fun q => match q with
  | t => At F G Q 6 128 [(0, .ref (G.2.1 39)), (1, .int v1), (2, .int v2)] [] (s, t)
def lb_X8_getOut_62 (n : Nat) (v1 : Int32) (v2 : Int32) (v3 : Int32) (v4 : Int32) (t : SR) : Option ((SR) ⊕ (Int32 × SR)) :=
  (if v4 = 0 then some (.inl t) else nm (v2 &&& (v4 ^^^ (-1 : Int32))) (fun v5_4 => ix v5_4 1024 ((if (t.1 52 v5_4.toNatClampNeg) = 0 then b1 (f_X8_fits n t (v5_4 &&& v1)) (fun y_7 => (if y_7 = 0 then ix v5_4 1024 (nm (sr1 t 52 v5_4.toNatClampNeg (vp_nar .boolean (0 : Int32))) (fun t_8 => nm ((v4 - (1 : Int32)) &&& v3) (fun v4_9 => some (.inr (v4_9, t_8))))) else b1 (f_X8_isEvenWith n t v5_4) (fun y_10 => (if y_10.1 = 0 then ix v5_4 1024 (nm (sr1 y_10.2 52 v5_4.toNatClampNeg (vp_nar .boolean (0 : Int32))) (fun t_11 => nm ((v4 - (1 : Int32)) &&& v3) (fun v4_12 => some (.inr (v4_12, t_11))))) else ix v5_4 1024 (nm (sr1 y_10.2 52 v5_4.toNatClampNeg (vp_nar .boolean (1 : Int32))) (fun t_13 => nm ((v4 - (1 : Int32)) &&& v3) (fun v4_14 => some (.inr (v4_14, t_13))))))))) else ix v5_4 1024 (nm (sr1 t 52 v5_4.toNatClampNeg (vp_nar .boolean (1 : Int32))) (fun t_5 => nm ((v4 - (1 : Int32)) &&& v3) (fun v4_6 => some (.inr (v4_6, t_5)))))))))
set_option maxHeartbeats 4000000 in
theorem w_X8_getOut_62 {F : FX} {G : GX} {Q : State → Prop} (C : Cx F G cX8_getOut 6 RX8) (hR : Rm F 6) (n : Nat) (s : MM) (v1 : Int32) (v2 : Int32) (v3 : Int32)  (v4 : Int32) (t : SR) (res : (SR) ⊕ (Int32 × SR)) (hf : lb_X8_getOut_62 n v1 v2 v3 v4 t = some res) (hK : Sum.elim (E_X8_getOut_62 F G Q s v1 v2 v3) (fun q => match q with | (v4, t) => P_X8_getOut_62 F G Q s v1 v2 v3 v4 t) res) : P_X8_getOut_62 F G Q s v1 v2 v3 v4 t := by
  unfold lb_X8_getOut_62 at hf
  show At F G Q 6 62 [(0, .ref (G.2.1 39)), (1, .int v1), (2, .int v2), (3, .int v3), (4, .int v4)] [] (s, t)
  refine a_iload C (i := 4) (q := 64) dX8_getOut_62 rfl 4 rfl ?_
  refine a_if_eq C (tgt := 128) (q := 67) dX8_getOut_64 hf (by decide) rfl (fun hf => ?_) (fun hf => ?_)
  · have hf := Option.some.inj hf; subst hf
    exact a_sub [0, 1, 2] rfl (show At F G Q 6 128 [(0, .ref (G.2.1 39)), (1, .int v1), (2, .int v2)] [] (s, t) from hK)
  · refine a_iload_n C (i := 2) (q := 68) dX8_getOut_67 rfl 2 rfl rfl ?_
    refine a_iload C (i := 4) (q := 70) dX8_getOut_68 rfl 4 rfl ?_
    refine a_iconst C (v := (-1 : Int32)) (q := 71) dX8_getOut_70 rfl (by decide) ?_
    refine a_ixor C (q := 72) dX8_getOut_71 rfl ?_
    refine a_iand C (q := 73) dX8_getOut_72 rfl ?_
    refine a_istoreN C (i := 5) (q := 75) (lv' := fun z => [(5, .int z), (0, .ref (G.2.1 39)), (1, .int v1), (2, .int v2), (3, .int v3), (4, .int v4)]) dX8_getOut_73 hf (by decide) (fun _ => rfl) rfl (fun v5_4 hf => ?_)
    refine a_aload_n C (i := 0) (q := 76) dX8_getOut_75 rfl 1 rfl rfl ?_
    refine a_get8 C (q := 79) dX8_getOut_76 26 (by decide) k_794 (by decide) rfl rfl rfl ?_
    refine a_iload C (i := 5) (q := 81) dX8_getOut_79 rfl 0 rfl ?_
    refine a_aload_n C (i := 0) (q := 82) dX8_getOut_81 rfl 1 rfl rfl ?_
    refine a_get8 C (q := 85) dX8_getOut_82 26 (by decide) k_794 (by decide) rfl rfl rfl ?_
    refine a_iload C (i := 5) (q := 87) dX8_getOut_85 rfl 0 rfl ?_
    refine a_zald C (q := 88) (g := t.1 52) dX8_getOut_87 hf (by decide) rfl rfl (fun hf => ?_)
    refine a_if_ne C (tgt := 111) (q := 91) dX8_getOut_88 hf (by decide) rfl (fun hf => ?_) (fun hf => ?_)
    · refine a_iconst C (v := (1 : Int32)) (q := 112) dX8_getOut_111 rfl (by decide) ?_
      refine a_goto C (q := 116) dX8_getOut_112 (by decide) ?_
      refine a_zastN C (q := 117) (mk := (fun z => (s, z))) dX8_getOut_116 hf (by decide) rfl rfl cellE_R1 rfl (fun t_5 hf => ?_)
      refine a_iload C (i := 4) (q := 119) dX8_getOut_117 rfl 5 rfl ?_
      refine a_iconst C (v := (1 : Int32)) (q := 120) dX8_getOut_119 rfl (by decide) ?_
      refine a_isub C (q := 121) dX8_getOut_120 rfl ?_
      refine a_iload_n C (i := 3) (q := 122) dX8_getOut_121 rfl 4 rfl rfl ?_
      refine a_iand C (q := 123) dX8_getOut_122 rfl ?_
      refine a_istoreN C (i := 4) (q := 125) (lv' := fun z => [(4, .int z), (5, .int v5_4), (0, .ref (G.2.1 39)), (1, .int v1), (2, .int v2), (3, .int v3)]) dX8_getOut_123 hf (by decide) (fun _ => rfl) rfl (fun v4_6 hf => ?_)
      refine a_goto C (q := 62) dX8_getOut_125 (by decide) ?_
      have hf := Option.some.inj hf; subst hf
      exact a_sub [2, 3, 4, 5, 0] rfl (show At F G Q 6 62 [(0, .ref (G.2.1 39)), (1, .int v1), (2, .int v2), (3, .int v3), (4, .int v4_6)] [] (s, t_5) from hK)
    · refine a_aload_n C (i := 0) (q := 92) dX8_getOut_91 rfl 1 rfl rfl ?_
      refine a_iload C (i := 5) (q := 94) dX8_getOut_92 rfl 0 rfl ?_
      refine a_iload_n C (i := 1) (q := 95) dX8_getOut_94 rfl 2 rfl rfl ?_
      refine a_iand C (q := 96) dX8_getOut_95 rfl ?_
      refine a_callVI C (q := 99) (As := [.int (v5_4 &&& v1)]) (st := [.int v5_4, .ref (G.2.1 52)]) dX8_getOut_96 hR (by decide) hf (fun b => b) (fun _ => (s, t)) (by decide) rfl rfl cw_X8_fits (fun b hb => c_X8_fits _ G n s t (v5_4 &&& v1) b hb) rfl rfl (Nat.le_of_ble_eq_true rfl) k_1013 rfl (fun y_7 hf => ?_)
      refine a_if_eq C (tgt := 115) (q := 102) dX8_getOut_99 hf (by decide) rfl (fun hf => ?_) (fun hf => ?_)
      · refine a_iconst C (v := (0 : Int32)) (q := 116) dX8_getOut_115 rfl (by decide) ?_
        refine a_zastN C (q := 117) (mk := (fun z => (s, z))) dX8_getOut_116 hf (by decide) rfl rfl cellE_R1 rfl (fun t_8 hf => ?_)
        refine a_iload C (i := 4) (q := 119) dX8_getOut_117 rfl 5 rfl ?_
        refine a_iconst C (v := (1 : Int32)) (q := 120) dX8_getOut_119 rfl (by decide) ?_
        refine a_isub C (q := 121) dX8_getOut_120 rfl ?_
        refine a_iload_n C (i := 3) (q := 122) dX8_getOut_121 rfl 4 rfl rfl ?_
        refine a_iand C (q := 123) dX8_getOut_122 rfl ?_
        refine a_istoreN C (i := 4) (q := 125) (lv' := fun z => [(4, .int z), (5, .int v5_4), (0, .ref (G.2.1 39)), (1, .int v1), (2, .int v2), (3, .int v3)]) dX8_getOut_123 hf (by decide) (fun _ => rfl) rfl (fun v4_9 hf => ?_)
        refine a_goto C (q := 62) dX8_getOut_125 (by decide) ?_
        have hf := Option.some.inj hf; subst hf
        exact a_sub [2, 3, 4, 5, 0] rfl (show At F G Q 6 62 [(0, .ref (G.2.1 39)), (1, .int v1), (2, .int v2), (3, .int v3), (4, .int v4_9)] [] (s, t_8) from hK)
      · refine a_aload_n C (i := 0) (q := 103) dX8_getOut_102 rfl 1 rfl rfl ?_
        refine a_iload C (i := 5) (q := 105) dX8_getOut_103 rfl 0 rfl ?_
        refine a_callVI C (q := 108) (As := [.int v5_4]) (st := [.int v5_4, .ref (G.2.1 52)]) dX8_getOut_105 hR (by decide) hf (fun b => b.1) (fun b => (s, b.2)) (by decide) rfl rfl cw_X8_isEvenWith (fun b hb => c_X8_isEvenWith _ G n s t v5_4 b hb) rfl rfl (Nat.le_of_ble_eq_true rfl) k_1082 rfl (fun y_10 hf => ?_)
        refine a_if_eq C (tgt := 115) (q := 111) dX8_getOut_108 hf (by decide) rfl (fun hf => ?_) (fun hf => ?_)
        · refine a_iconst C (v := (0 : Int32)) (q := 116) dX8_getOut_115 rfl (by decide) ?_
          refine a_zastN C (q := 117) (mk := (fun z => (s, z))) dX8_getOut_116 hf (by decide) rfl rfl cellE_R1 rfl (fun t_11 hf => ?_)
          refine a_iload C (i := 4) (q := 119) dX8_getOut_117 rfl 5 rfl ?_
          refine a_iconst C (v := (1 : Int32)) (q := 120) dX8_getOut_119 rfl (by decide) ?_
          refine a_isub C (q := 121) dX8_getOut_120 rfl ?_
          refine a_iload_n C (i := 3) (q := 122) dX8_getOut_121 rfl 4 rfl rfl ?_
          refine a_iand C (q := 123) dX8_getOut_122 rfl ?_
          refine a_istoreN C (i := 4) (q := 125) (lv' := fun z => [(4, .int z), (5, .int v5_4), (0, .ref (G.2.1 39)), (1, .int v1), (2, .int v2), (3, .int v3)]) dX8_getOut_123 hf (by decide) (fun _ => rfl) rfl (fun v4_12 hf => ?_)
          refine a_goto C (q := 62) dX8_getOut_125 (by decide) ?_
          have hf := Option.some.inj hf; subst hf
          exact a_sub [2, 3, 4, 5, 0] rfl (show At F G Q 6 62 [(0, .ref (G.2.1 39)), (1, .int v1), (2, .int v2), (3, .int v3), (4, .int v4_12)] [] (s, t_11) from hK)
        · refine a_iconst C (v := (1 : Int32)) (q := 112) dX8_getOut_111 rfl (by decide) ?_
          refine a_goto C (q := 116) dX8_getOut_112 (by decide) ?_
          refine a_zastN C (q := 117) (mk := (fun z => (s, z))) dX8_getOut_116 hf (by decide) rfl rfl cellE_R1 rfl (fun t_13 hf => ?_)
          refine a_iload C (i := 4) (q := 119) dX8_getOut_117 rfl 5 rfl ?_
          refine a_iconst C (v := (1 : Int32)) (q := 120) dX8_getOut_119 rfl (by decide) ?_
          refine a_isub C (q := 121) dX8_getOut_120 rfl ?_
          refine a_iload_n C (i := 3) (q := 122) dX8_getOut_121 rfl 4 rfl rfl ?_
          refine a_iand C (q := 123) dX8_getOut_122 rfl ?_
          refine a_istoreN C (i := 4) (q := 125) (lv' := fun z => [(4, .int z), (5, .int v5_4), (0, .ref (G.2.1 39)), (1, .int v1), (2, .int v2), (3, .int v3)]) dX8_getOut_123 hf (by decide) (fun _ => rfl) rfl (fun v4_14 hf => ?_)
          refine a_goto C (q := 62) dX8_getOut_125 (by decide) ?_
          have hf := Option.some.inj hf; subst hf
          exact a_sub [2, 3, 4, 5, 0] rfl (show At F G Q 6 62 [(0, .ref (G.2.1 39)), (1, .int v1), (2, .int v2), (3, .int v3), (4, .int v4_14)] [] (s, t_13) from hK)
theorem lp_X8_getOut_62 {F : FX} {G : GX} {Q : State → Prop} (C : Cx F G cX8_getOut 6 RX8) (hR : Rm F 6) (n : Nat) (s : MM) (v1 : Int32) (v2 : Int32) (v3 : Int32)  (v4 : Int32) (t : SR) (x : SR) (h : it2 (lb_X8_getOut_62 n v1 v2 v3) n v4 t = some x) (hE : E_X8_getOut_62 F G Q s v1 v2 v3 x) : At F G Q 6 62 [(0, .ref (G.2.1 39)), (1, .int v1), (2, .int v2), (3, .int v3), (4, .int v4)] [] (s, t) :=
  it2_ind (b := (lb_X8_getOut_62 n v1 v2 v3)) (E := E_X8_getOut_62 F G Q s v1 v2 v3) (P := fun v4 t => P_X8_getOut_62 F G Q s v1 v2 v3 v4 t) (fun v4 t res hf hK => w_X8_getOut_62 C hR n s v1 v2 v3   v4 t res hf hK) n v4 t x h hE
def lb_X8_getOut_32 (n : Nat) (v1 : Int32) (v2 : Int32) (t : SR) : Option ((SR) ⊕ (Int32 × SR)) :=
  (if ((1 : Int32) <<< ((t.1 39 4) &&& 31)) ≤ v2 then some (.inl t) else ix v2 1024 ((if (t.1 51 v2.toNatClampNeg) = 0 then b1 (it2 (lb_X8_getOut_62 n v1 v2 (0 : Int32)) n (0 : Int32) t) (fun t_15 => nm (v2 + 1) (fun v2_16 => some (.inr (v2_16, t_15)))) else nm (v2 &&& v1) (fun v3_17 => b1 (it2 (lb_X8_getOut_62 n v1 v2 v3_17) n v3_17 t) (fun t_18 => nm (v2 + 1) (fun v2_19 => some (.inr (v2_19, t_18))))))))
set_option maxHeartbeats 4000000 in
theorem w_X8_getOut_32 {F : FX} {G : GX} {Q : State → Prop} (C : Cx F G cX8_getOut 6 RX8) (hR : Rm F 6) (n : Nat) (s : MM) (v1 : Int32)  (v2 : Int32) (t : SR) (res : (SR) ⊕ (Int32 × SR)) (hf : lb_X8_getOut_32 n v1 v2 t = some res) (hK : Sum.elim (E_X8_getOut_32 F G Q s v1) (fun q => match q with | (v2, t) => P_X8_getOut_32 F G Q s v1 v2 t) res) : P_X8_getOut_32 F G Q s v1 v2 t := by
  unfold lb_X8_getOut_32 at hf
  show At F G Q 6 32 [(0, .ref (G.2.1 39)), (1, .int v1), (2, .int v2)] [] (s, t)
  refine a_iload_n C (i := 2) (q := 33) dX8_getOut_32 rfl 2 rfl rfl ?_
  refine a_iconst C (v := (1 : Int32)) (q := 34) dX8_getOut_33 rfl (by decide) ?_
  refine a_aload_n C (i := 0) (q := 35) dX8_getOut_34 rfl 0 rfl rfl ?_
  refine a_get8 C (q := 38) dX8_getOut_35 4 (by decide) k_772 (by decide) rfl rfl rfl ?_
  refine a_ishl C (q := 39) dX8_getOut_38 rfl ?_
  refine a_icmp_ge C (tgt := 134) (q := 42) dX8_getOut_39 hf (by decide) rfl (fun hf => ?_) (fun hf => ?_)
  · have hf := Option.some.inj hf; subst hf
    exact a_sub [0] rfl (show At F G Q 6 134 [(0, .ref (G.2.1 39))] [] (s, t) from hK)
  · refine a_aload_n C (i := 0) (q := 43) dX8_getOut_42 rfl 0 rfl rfl ?_
    refine a_get8 C (q := 46) dX8_getOut_43 25 (by decide) k_793 (by decide) rfl rfl rfl ?_
    refine a_iload_n C (i := 2) (q := 47) dX8_getOut_46 rfl 2 rfl rfl ?_
    refine a_zald C (q := 48) (g := t.1 51) dX8_getOut_47 hf (by decide) rfl rfl (fun hf => ?_)
    refine a_if_eq C (tgt := 57) (q := 51) dX8_getOut_48 hf (by decide) rfl (fun hf => ?_) (fun hf => ?_)
    · refine a_iconst C (v := (0 : Int32)) (q := 58) dX8_getOut_57 rfl (by decide) ?_
      refine a_istore_n C (i := 3) (q := 59) (lv' := [(3, .int (0 : Int32)), (0, .ref (G.2.1 39)), (1, .int v1), (2, .int v2)]) dX8_getOut_58 rfl (by decide) rfl rfl ?_
      refine a_iload_n C (i := 3) (q := 60) dX8_getOut_59 rfl 0 rfl rfl ?_
      refine a_istore C (i := 4) (q := 62) (lv' := [(4, .int (0 : Int32)), (3, .int (0 : Int32)), (0, .ref (G.2.1 39)), (1, .int v1), (2, .int v2)]) dX8_getOut_60 (by decide) rfl rfl ?_
      obtain ⟨t_15, h1, hf⟩ := b1_some hf
      refine a_sub [2, 3, 4, 1, 0] rfl (lp_X8_getOut_62 C hR n s v1 v2 (0 : Int32)  (0 : Int32) t _ h1 ?_)
      show At F G Q 6 128 [(0, .ref (G.2.1 39)), (1, .int v1), (2, .int v2)] [] (s, t_15)
      refine a_iincN C (i := 2) (k := 2) (q := 131) (lv' := fun z => [(2, .int z), (0, .ref (G.2.1 39)), (1, .int v1)]) dX8_getOut_128 hf rfl rfl (by decide) (fun _ => rfl) rfl (fun v2_16 hf => ?_)
      refine a_goto C (q := 32) dX8_getOut_131 (by decide) ?_
      have hf := Option.some.inj hf; subst hf
      exact a_sub [1, 2, 0] rfl (show At F G Q 6 32 [(0, .ref (G.2.1 39)), (1, .int v1), (2, .int v2_16)] [] (s, t_15) from hK)
    · refine a_iload_n C (i := 2) (q := 52) dX8_getOut_51 rfl 2 rfl rfl ?_
      refine a_iload_n C (i := 1) (q := 53) dX8_getOut_52 rfl 1 rfl rfl ?_
      refine a_iand C (q := 54) dX8_getOut_53 rfl ?_
      refine a_goto C (q := 58) dX8_getOut_54 (by decide) ?_
      refine a_istore_nN C (i := 3) (q := 59) (lv' := fun z => [(3, .int z), (0, .ref (G.2.1 39)), (1, .int v1), (2, .int v2)]) dX8_getOut_58 hf rfl (by decide) (fun _ => rfl) rfl (fun v3_17 hf => ?_)
      refine a_iload_n C (i := 3) (q := 60) dX8_getOut_59 rfl 0 rfl rfl ?_
      refine a_istore C (i := 4) (q := 62) (lv' := [(4, .int v3_17), (3, .int v3_17), (0, .ref (G.2.1 39)), (1, .int v1), (2, .int v2)]) dX8_getOut_60 (by decide) rfl rfl ?_
      obtain ⟨t_18, h1, hf⟩ := b1_some hf
      refine a_sub [2, 3, 4, 1, 0] rfl (lp_X8_getOut_62 C hR n s v1 v2 v3_17  v3_17 t _ h1 ?_)
      show At F G Q 6 128 [(0, .ref (G.2.1 39)), (1, .int v1), (2, .int v2)] [] (s, t_18)
      refine a_iincN C (i := 2) (k := 2) (q := 131) (lv' := fun z => [(2, .int z), (0, .ref (G.2.1 39)), (1, .int v1)]) dX8_getOut_128 hf rfl rfl (by decide) (fun _ => rfl) rfl (fun v2_19 hf => ?_)
      refine a_goto C (q := 32) dX8_getOut_131 (by decide) ?_
      have hf := Option.some.inj hf; subst hf
      exact a_sub [1, 2, 0] rfl (show At F G Q 6 32 [(0, .ref (G.2.1 39)), (1, .int v1), (2, .int v2_19)] [] (s, t_18) from hK)
theorem lp_X8_getOut_32 {F : FX} {G : GX} {Q : State → Prop} (C : Cx F G cX8_getOut 6 RX8) (hR : Rm F 6) (n : Nat) (s : MM) (v1 : Int32)  (v2 : Int32) (t : SR) (x : SR) (h : it2 (lb_X8_getOut_32 n v1) n v2 t = some x) (hE : E_X8_getOut_32 F G Q s v1 x) : At F G Q 6 32 [(0, .ref (G.2.1 39)), (1, .int v1), (2, .int v2)] [] (s, t) :=
  it2_ind (b := (lb_X8_getOut_32 n v1)) (E := E_X8_getOut_32 F G Q s v1) (P := fun v2 t => P_X8_getOut_32 F G Q s v1 v2 t) (fun v2 t res hf hK => w_X8_getOut_32 C hR n s v1   v2 t res hf hK) n v2 t x h hE
def P_X8_getOut_136 (F : FX) (G : GX) (Q : State → Prop) (s : MM) (v2 : Int32) (t : SR) : Prop := At F G Q 6 136 [(0, .ref (G.2.1 39)), (2, .int v2)] [] (s, t)
def E_X8_getOut_136 (F : FX) (G : GX) (Q : State → Prop) (s : MM) : SR → Prop := fun q => match q with
  | t => At F G Q 6 164 [] [] (s, t)
def lb_X8_getOut_136 (n : Nat) (v2 : Int32) (t : SR) : Option ((SR) ⊕ (Int32 × SR)) :=
  (if ((1 : Int32) <<< ((t.1 39 4) &&& 31)) ≤ v2 then some (.inl t) else ix v2 1024 (ix v2 1024 (nm (sr1 t 51 v2.toNatClampNeg (vp_nar .boolean (t.1 52 v2.toNatClampNeg))) (fun t_21 => nm (v2 + 1) (fun v2_22 => some (.inr (v2_22, t_21)))))))
set_option maxHeartbeats 4000000 in
theorem w_X8_getOut_136 {F : FX} {G : GX} {Q : State → Prop} (C : Cx F G cX8_getOut 6 RX8) (hR : Rm F 6) (n : Nat) (s : MM)  (v2 : Int32) (t : SR) (res : (SR) ⊕ (Int32 × SR)) (hf : lb_X8_getOut_136 n v2 t = some res) (hK : Sum.elim (E_X8_getOut_136 F G Q s) (fun q => match q with | (v2, t) => P_X8_getOut_136 F G Q s v2 t) res) : P_X8_getOut_136 F G Q s v2 t := by
  unfold lb_X8_getOut_136 at hf
  show At F G Q 6 136 [(0, .ref (G.2.1 39)), (2, .int v2)] [] (s, t)
  refine a_iload_n C (i := 2) (q := 137) dX8_getOut_136 rfl 1 rfl rfl ?_
  refine a_iconst C (v := (1 : Int32)) (q := 138) dX8_getOut_137 rfl (by decide) ?_
  refine a_aload_n C (i := 0) (q := 139) dX8_getOut_138 rfl 0 rfl rfl ?_
  refine a_get8 C (q := 142) dX8_getOut_139 4 (by decide) k_772 (by decide) rfl rfl rfl ?_
  refine a_ishl C (q := 143) dX8_getOut_142 rfl ?_
  refine a_icmp_ge C (tgt := 164) (q := 146) dX8_getOut_143 hf (by decide) rfl (fun hf => ?_) (fun hf => ?_)
  · have hf := Option.some.inj hf; subst hf
    exact a_sub [] rfl (show At F G Q 6 164 [] [] (s, t) from hK)
  · refine a_aload_n C (i := 0) (q := 147) dX8_getOut_146 rfl 0 rfl rfl ?_
    refine a_get8 C (q := 150) dX8_getOut_147 25 (by decide) k_793 (by decide) rfl rfl rfl ?_
    refine a_iload_n C (i := 2) (q := 151) dX8_getOut_150 rfl 1 rfl rfl ?_
    refine a_aload_n C (i := 0) (q := 152) dX8_getOut_151 rfl 0 rfl rfl ?_
    refine a_get8 C (q := 155) dX8_getOut_152 26 (by decide) k_794 (by decide) rfl rfl rfl ?_
    refine a_iload_n C (i := 2) (q := 156) dX8_getOut_155 rfl 1 rfl rfl ?_
    refine a_zald C (q := 157) (g := t.1 52) dX8_getOut_156 hf (by decide) rfl rfl (fun hf => ?_)
    refine a_zastN C (q := 158) (mk := (fun z => (s, z))) dX8_getOut_157 hf (by decide) rfl rfl cellE_R1 rfl (fun t_21 hf => ?_)
    refine a_iincN C (i := 2) (k := 1) (q := 161) (lv' := fun z => [(2, .int z), (0, .ref (G.2.1 39))]) dX8_getOut_158 hf rfl rfl (by decide) (fun _ => rfl) rfl (fun v2_22 hf => ?_)
    refine a_goto C (q := 136) dX8_getOut_161 (by decide) ?_
    have hf := Option.some.inj hf; subst hf
    exact a_sub [1, 0] rfl (show At F G Q 6 136 [(0, .ref (G.2.1 39)), (2, .int v2_22)] [] (s, t_21) from hK)
theorem lp_X8_getOut_136 {F : FX} {G : GX} {Q : State → Prop} (C : Cx F G cX8_getOut 6 RX8) (hR : Rm F 6) (n : Nat) (s : MM)  (v2 : Int32) (t : SR) (x : SR) (h : it2 (lb_X8_getOut_136 n ) n v2 t = some x) (hE : E_X8_getOut_136 F G Q s x) : At F G Q 6 136 [(0, .ref (G.2.1 39)), (2, .int v2)] [] (s, t) :=
  it2_ind (b := (lb_X8_getOut_136 n )) (E := E_X8_getOut_136 F G Q s) (P := fun v2 t => P_X8_getOut_136 F G Q s v2 t) (fun v2 t res hf hK => w_X8_getOut_136 C hR n s   v2 t res hf hK) n v2 t x h hE
def f_X8_getOut (n : Nat) (t : SR) (v1 : Int32) : Option (SR) :=
  b1 (it2 (lb_X8_getOut_2 n v1) n (0 : Int32) t) (fun t_3 => b1 (it2 (lb_X8_getOut_32 n v1) n (0 : Int32) t_3) (fun t_20 => b1 (it2 (lb_X8_getOut_136 n ) n (0 : Int32) t_20) (fun t_23 => some t_23)))
set_option maxHeartbeats 4000000 in
theorem w_X8_getOut_e {F : FX} {G : GX} {Q : State → Prop} (C : Cx F G cX8_getOut 6 RX8) (hR : Rm F 6) (n : Nat) (s : MM) (t : SR)  (v1 : Int32) (res : SR) (hf : f_X8_getOut n t v1 = some res) (hK : RetV F G Q cX8_getOut 6 (s, res)) : At F G Q 6 0 [(0, .ref (G.2.1 39)), (1, .int v1)] [] (s, t) := by
  unfold f_X8_getOut at hf
  refine a_iconst C (v := (0 : Int32)) (q := 1) dX8_getOut_0 rfl (by decide) ?_
  refine a_istore_n C (i := 2) (q := 2) (lv' := [(2, .int (0 : Int32)), (0, .ref (G.2.1 39)), (1, .int v1)]) dX8_getOut_1 rfl (by decide) rfl rfl ?_
  obtain ⟨t_3, h1, hf⟩ := b1_some hf
  refine a_sub [1, 2, 0] rfl (lp_X8_getOut_2 C hR n s v1  (0 : Int32) t _ h1 ?_)
  show At F G Q 6 30 [(0, .ref (G.2.1 39)), (1, .int v1)] [] (s, t_3)
  refine a_iconst C (v := (0 : Int32)) (q := 31) dX8_getOut_30 rfl (by decide) ?_
  refine a_istore_n C (i := 2) (q := 32) (lv' := [(2, .int (0 : Int32)), (0, .ref (G.2.1 39)), (1, .int v1)]) dX8_getOut_31 rfl (by decide) rfl rfl ?_
  obtain ⟨t_20, h1, hf⟩ := b1_some hf
  refine a_sub [1, 2, 0] rfl (lp_X8_getOut_32 C hR n s v1  (0 : Int32) t_3 _ h1 ?_)
  show At F G Q 6 134 [(0, .ref (G.2.1 39))] [] (s, t_20)
  refine a_iconst C (v := (0 : Int32)) (q := 135) dX8_getOut_134 rfl (by decide) ?_
  refine a_istore_n C (i := 2) (q := 136) (lv' := [(2, .int (0 : Int32)), (0, .ref (G.2.1 39))]) dX8_getOut_135 rfl (by decide) rfl rfl ?_
  obtain ⟨t_23, h1, hf⟩ := b1_some hf
  refine a_sub [1, 0] rfl (lp_X8_getOut_136 C hR n s  (0 : Int32) t_20 _ h1 ?_)
  show At F G Q 6 164 [] [] (s, t_23)
  have hf := Option.some.inj hf; subst hf
  exact (show RetV F G Q cX8_getOut 6 (s, t_23) from hK) _ _ dX8_getOut_164
theorem c_X8_getOut (l : Launch) (G : GX) (n : Nat) (s : MM) (t : SR) (v1 : Int32) (res : SR) (hf : f_X8_getOut n t v1 = some res) : MetC l G yX8_getOut cX8_getOut 6 none 6 (s, t) [.ref (G.2.1 39), .int v1] (PostV G (s, res)) :=
  m_V (by decide) (Nat.le_of_ble_eq_true rfl) (fun F Q C h1 h2 h3 hK => w_X8_getOut_e C (Rm.of h1 h3) n s t v1 res hf hK)
theorem cw_X8_empty : CwV RX8 yX8_empty cX8_empty 3 0 (some .int) := ⟨k_1076, k_1074, k_1075, k_9, by decide +kernel, by decide⟩
def P_X8_empty_8 (F : FX) (G : GX) (Q : State → Prop) (s : MM) (v1 : Int32) (v2 : Int32) (t : SR) : Prop := At F G Q 3 8 [(0, .ref (G.2.1 39)), (1, .int v1), (2, .int v2)] [] (s, t)
def E_X8_empty_8 (F : FX) (G : GX) (Q : State → Prop) (s : MM) (v1 : Int32) : SR → Prop := fun q => match q with
  | t => At F G Q 3 37 [(0, .ref (G.2.1 39))] [] (s, t)
def lb_X8_empty_8 (n : Nat) (v1 : Int32) (v2 : Int32) (t : SR) : Option ((SR) ⊕ (Int32 × SR)) :=
  (if (1024 : Int32) ≤ v2 then some (.inl t) else (if v2 = v1 then ix v2 1024 (nm (sr1 t 51 v2.toNatClampNeg (vp_nar .boolean (1 : Int32))) (fun t_4 => nm (v2 + 1) (fun v2_5 => some (.inr (v2_5, t_4))))) else ix v2 1024 (nm (sr1 t 51 v2.toNatClampNeg (vp_nar .boolean (0 : Int32))) (fun t_2 => nm (v2 + 1) (fun v2_3 => some (.inr (v2_3, t_2)))))))
set_option maxHeartbeats 4000000 in
theorem w_X8_empty_8 {F : FX} {G : GX} {Q : State → Prop} (C : Cx F G cX8_empty 3 RX8) (hR : Rm F 7) (n : Nat) (s : MM) (v1 : Int32)  (v2 : Int32) (t : SR) (res : (SR) ⊕ (Int32 × SR)) (hf : lb_X8_empty_8 n v1 v2 t = some res) (hK : Sum.elim (E_X8_empty_8 F G Q s v1) (fun q => match q with | (v2, t) => P_X8_empty_8 F G Q s v1 v2 t) res) : P_X8_empty_8 F G Q s v1 v2 t := by
  unfold lb_X8_empty_8 at hf
  show At F G Q 3 8 [(0, .ref (G.2.1 39)), (1, .int v1), (2, .int v2)] [] (s, t)
  refine a_iload_n C (i := 2) (q := 9) dX8_empty_8 rfl 2 rfl rfl ?_
  refine a_sipush C (v := (1024 : Int32)) (q := 12) dX8_empty_9 rfl (by decide) ?_
  refine a_icmp_ge C (tgt := 37) (q := 15) dX8_empty_12 hf (by decide) rfl (fun hf => ?_) (fun hf => ?_)
  · have hf := Option.some.inj hf; subst hf
    exact a_sub [0] rfl (show At F G Q 3 37 [(0, .ref (G.2.1 39))] [] (s, t) from hK)
  · refine a_aload_n C (i := 0) (q := 16) dX8_empty_15 rfl 0 rfl rfl ?_
    refine a_get8 C (q := 19) dX8_empty_16 25 (by decide) k_793 (by decide) rfl rfl rfl ?_
    refine a_iload_n C (i := 2) (q := 20) dX8_empty_19 rfl 2 rfl rfl ?_
    refine a_iload_n C (i := 2) (q := 21) dX8_empty_20 rfl 2 rfl rfl ?_
    refine a_iload_n C (i := 1) (q := 22) dX8_empty_21 rfl 1 rfl rfl ?_
    refine a_icmp_ne C (tgt := 29) (q := 25) dX8_empty_22 hf (by decide) rfl (fun hf => ?_) (fun hf => ?_)
    · refine a_iconst C (v := (0 : Int32)) (q := 30) dX8_empty_29 rfl (by decide) ?_
      refine a_zastN C (q := 31) (mk := (fun z => (s, z))) dX8_empty_30 hf (by decide) rfl rfl cellE_R1 rfl (fun t_2 hf => ?_)
      refine a_iincN C (i := 2) (k := 2) (q := 34) (lv' := fun z => [(2, .int z), (0, .ref (G.2.1 39)), (1, .int v1)]) dX8_empty_31 hf rfl rfl (by decide) (fun _ => rfl) rfl (fun v2_3 hf => ?_)
      refine a_goto C (q := 8) dX8_empty_34 (by decide) ?_
      have hf := Option.some.inj hf; subst hf
      exact a_sub [1, 2, 0] rfl (show At F G Q 3 8 [(0, .ref (G.2.1 39)), (1, .int v1), (2, .int v2_3)] [] (s, t_2) from hK)
    · refine a_iconst C (v := (1 : Int32)) (q := 26) dX8_empty_25 rfl (by decide) ?_
      refine a_goto C (q := 30) dX8_empty_26 (by decide) ?_
      refine a_zastN C (q := 31) (mk := (fun z => (s, z))) dX8_empty_30 hf (by decide) rfl rfl cellE_R1 rfl (fun t_4 hf => ?_)
      refine a_iincN C (i := 2) (k := 2) (q := 34) (lv' := fun z => [(2, .int z), (0, .ref (G.2.1 39)), (1, .int v1)]) dX8_empty_31 hf rfl rfl (by decide) (fun _ => rfl) rfl (fun v2_5 hf => ?_)
      refine a_goto C (q := 8) dX8_empty_34 (by decide) ?_
      have hf := Option.some.inj hf; subst hf
      exact a_sub [1, 2, 0] rfl (show At F G Q 3 8 [(0, .ref (G.2.1 39)), (1, .int v1), (2, .int v2_5)] [] (s, t_4) from hK)
theorem lp_X8_empty_8 {F : FX} {G : GX} {Q : State → Prop} (C : Cx F G cX8_empty 3 RX8) (hR : Rm F 7) (n : Nat) (s : MM) (v1 : Int32)  (v2 : Int32) (t : SR) (x : SR) (h : it2 (lb_X8_empty_8 n v1) n v2 t = some x) (hE : E_X8_empty_8 F G Q s v1 x) : At F G Q 3 8 [(0, .ref (G.2.1 39)), (1, .int v1), (2, .int v2)] [] (s, t) :=
  it2_ind (b := (lb_X8_empty_8 n v1)) (E := E_X8_empty_8 F G Q s v1) (P := fun v2 t => P_X8_empty_8 F G Q s v1 v2 t) (fun v2 t res hf hK => w_X8_empty_8 C hR n s v1   v2 t res hf hK) n v2 t x h hE
def P_X8_empty_39 (F : FX) (G : GX) (Q : State → Prop) (s : MM) (v2 : Int32) (t : SR) : Prop := At F G Q 3 39 [(0, .ref (G.2.1 39)), (2, .int v2)] [] (s, t)
def E_X8_empty_39 (F : FX) (G : GX) (Q : State → Prop) (s : MM) : (Int32 × SR) ⊕ (SR) → Prop := fun q => match q with
  | .inl y => RetI F G Q cX8_empty 3 .int y.1 (s, y.2)
  | .inr t => At F G Q 3 94 [] [] (s, t)
def f_X8_empty_60_in39 (n : Nat) (t : SR) (v2 : Int32) : Option (((Int32 × SR) ⊕ (SR)) ⊕ (Int32 × SR)) :=
  b1 (f_X8_whoIn n t (((t.1 39 8) + v2) - ((t.1 39 8) + v2) / (12 : Int32) * (12 : Int32))) (fun y_7 => b1 (f_X8_getOut n t y_7) (fun y_8 => ix (0 : Int32) 1024 ((if (y_8.1 51 ((0 : Int32).toNatClampNeg)) = 0 then nm (v2 + 1) (fun v2_9 => some (.inr (v2_9, y_8))) else some (.inl (.inl (v2, y_8)))))))
set_option maxHeartbeats 4000000 in
theorem w_X8_empty_60_in39 {F : FX} {G : GX} {Q : State → Prop} (C : Cx F G cX8_empty 3 RX8) (hR : Rm F 7) (n : Nat) (s : MM) (t : SR)  (v2 : Int32) (res : ((Int32 × SR) ⊕ (SR)) ⊕ (Int32 × SR)) (hf : f_X8_empty_60_in39 n t v2 = some res) (hK : Sum.elim (E_X8_empty_39 F G Q s) (fun q => match q with | (v2, t) => P_X8_empty_39 F G Q s v2 t) res) : At F G Q 3 60 [(0, .ref (G.2.1 39)), (2, .int v2)] [] (s, t) := by
  unfold f_X8_empty_60_in39 at hf
  refine a_aload_n C (i := 0) (q := 61) dX8_empty_60 rfl 0 rfl rfl ?_
  refine a_aload_n C (i := 0) (q := 62) dX8_empty_61 rfl 0 rfl rfl ?_
  refine a_aload_n C (i := 0) (q := 63) dX8_empty_62 rfl 0 rfl rfl ?_
  refine a_get8 C (q := 66) dX8_empty_63 8 (by decide) k_776 (by decide) rfl rfl rfl ?_
  refine a_iload_n C (i := 2) (q := 67) dX8_empty_66 rfl 1 rfl rfl ?_
  refine a_iadd C (q := 68) dX8_empty_67 rfl ?_
  refine a_bipush C (v := (12 : Int32)) (q := 70) dX8_empty_68 rfl (by decide) ?_
  refine a_irem C (q := 71) dX8_empty_70 rfl (by decide) ?_
  refine a_callVI C (q := 74) (As := [.int (((t.1 39 8) + v2) - ((t.1 39 8) + v2) / (12 : Int32) * (12 : Int32))]) (st := [.ref (G.2.1 39)]) dX8_empty_71 hR (by decide) hf (fun b => b) (fun _ => (s, t)) (by decide) rfl rfl cw_X8_whoIn (fun b hb => c_X8_whoIn _ G n s t (((t.1 39 8) + v2) - ((t.1 39 8) + v2) / (12 : Int32) * (12 : Int32)) b hb) rfl rfl (Nat.le_of_ble_eq_true rfl) k_904 rfl (fun y_7 hf => ?_)
  refine a_callVV C (q := 77) (As := [.int y_7]) (st := []) dX8_empty_74 hR (by decide) hf (fun b => (s, b)) (by decide) rfl rfl cw_X8_getOut (fun b hb => c_X8_getOut _ G n s t y_7 b hb) rfl rfl (Nat.le_of_ble_eq_true rfl) k_1078 rfl (fun y_8 hf => ?_)
  refine a_aload_n C (i := 0) (q := 78) dX8_empty_77 rfl 0 rfl rfl ?_
  refine a_get8 C (q := 81) dX8_empty_78 25 (by decide) k_793 (by decide) rfl rfl rfl ?_
  refine a_iconst C (v := (0 : Int32)) (q := 82) dX8_empty_81 rfl (by decide) ?_
  refine a_zald C (q := 83) (g := y_8.1 51) dX8_empty_82 hf (by decide) rfl rfl (fun hf => ?_)
  refine a_if_eq C (tgt := 88) (q := 86) dX8_empty_83 hf (by decide) rfl (fun hf => ?_) (fun hf => ?_)
  · refine a_iincN C (i := 2) (k := 1) (q := 91) (lv' := fun z => [(2, .int z), (0, .ref (G.2.1 39))]) dX8_empty_88 hf rfl rfl (by decide) (fun _ => rfl) rfl (fun v2_9 hf => ?_)
    refine a_goto C (q := 39) dX8_empty_91 (by decide) ?_
    have hf := Option.some.inj hf; subst hf
    exact a_sub [1, 0] rfl (show At F G Q 3 39 [(0, .ref (G.2.1 39)), (2, .int v2_9)] [] (s, y_8) from hK)
  · refine a_iload_n C (i := 2) (q := 87) dX8_empty_86 rfl 1 rfl rfl ?_
    have hf := Option.some.inj hf; subst hf
    exact (show RetI F G Q cX8_empty 3 .int v2 (s, y_8) from hK) rfl _ _ dX8_empty_87
def lb_X8_empty_39 (n : Nat) (v2 : Int32) (t : SR) : Option (((Int32 × SR) ⊕ (SR)) ⊕ (Int32 × SR)) :=
  (if (24 : Int32) ≤ v2 then some (.inl (.inr t)) else (if v2 = 0 then ix (0 : Int32) 1024 ((if (t.1 51 ((0 : Int32).toNatClampNeg)) = 0 then f_X8_empty_60_in39 n t v2 else some (.inl (.inl ((0 : Int32), t))))) else f_X8_empty_60_in39 n t v2))
set_option maxHeartbeats 4000000 in
theorem w_X8_empty_39 {F : FX} {G : GX} {Q : State → Prop} (C : Cx F G cX8_empty 3 RX8) (hR : Rm F 7) (n : Nat) (s : MM)  (v2 : Int32) (t : SR) (res : ((Int32 × SR) ⊕ (SR)) ⊕ (Int32 × SR)) (hf : lb_X8_empty_39 n v2 t = some res) (hK : Sum.elim (E_X8_empty_39 F G Q s) (fun q => match q with | (v2, t) => P_X8_empty_39 F G Q s v2 t) res) : P_X8_empty_39 F G Q s v2 t := by
  unfold lb_X8_empty_39 at hf
  show At F G Q 3 39 [(0, .ref (G.2.1 39)), (2, .int v2)] [] (s, t)
  refine a_iload_n C (i := 2) (q := 40) dX8_empty_39 rfl 1 rfl rfl ?_
  refine a_bipush C (v := (24 : Int32)) (q := 42) dX8_empty_40 rfl (by decide) ?_
  refine a_icmp_ge C (tgt := 94) (q := 45) dX8_empty_42 hf (by decide) rfl (fun hf => ?_) (fun hf => ?_)
  · have hf := Option.some.inj hf; subst hf
    exact a_sub [] rfl (show At F G Q 3 94 [] [] (s, t) from hK)
  · refine a_iload_n C (i := 2) (q := 46) dX8_empty_45 rfl 1 rfl rfl ?_
    refine a_if_ne C (tgt := 60) (q := 49) dX8_empty_46 hf (by decide) rfl (fun hf => ?_) (fun hf => ?_)
    · exact a_sub [0, 1] rfl (w_X8_empty_60_in39 C hR n s t v2 res hf hK)
    · refine a_aload_n C (i := 0) (q := 50) dX8_empty_49 rfl 0 rfl rfl ?_
      refine a_get8 C (q := 53) dX8_empty_50 25 (by decide) k_793 (by decide) rfl rfl rfl ?_
      refine a_iconst C (v := (0 : Int32)) (q := 54) dX8_empty_53 rfl (by decide) ?_
      refine a_zald C (q := 55) (g := t.1 51) dX8_empty_54 hf (by decide) rfl rfl (fun hf => ?_)
      refine a_if_eq C (tgt := 60) (q := 58) dX8_empty_55 hf (by decide) rfl (fun hf => ?_) (fun hf => ?_)
      · exact a_sub [0, 1] rfl (w_X8_empty_60_in39 C hR n s t v2 res hf hK)
      · refine a_iconst C (v := (0 : Int32)) (q := 59) dX8_empty_58 rfl (by decide) ?_
        have hf := Option.some.inj hf; subst hf
        exact (show RetI F G Q cX8_empty 3 .int (0 : Int32) (s, t) from hK) rfl _ _ dX8_empty_59
theorem lp_X8_empty_39 {F : FX} {G : GX} {Q : State → Prop} (C : Cx F G cX8_empty 3 RX8) (hR : Rm F 7) (n : Nat) (s : MM)  (v2 : Int32) (t : SR) (x : (Int32 × SR) ⊕ (SR)) (h : it2 (lb_X8_empty_39 n ) n v2 t = some x) (hE : E_X8_empty_39 F G Q s x) : At F G Q 3 39 [(0, .ref (G.2.1 39)), (2, .int v2)] [] (s, t) :=
  it2_ind (b := (lb_X8_empty_39 n )) (E := E_X8_empty_39 F G Q s) (P := fun v2 t => P_X8_empty_39 F G Q s v2 t) (fun v2 t res hf hK => w_X8_empty_39 C hR n s   v2 t res hf hK) n v2 t x h hE
def f_X8_empty (n : Nat) (t : SR) : Option (Int32 × SR) :=
  b1 (f_X8_count n t (4 : Int32)) (fun y_1 => b1 (it2 (lb_X8_empty_8 n y_1) n (0 : Int32) t) (fun t_6 => bR (it2 (lb_X8_empty_39 n ) n (0 : Int32) t_6) (fun y => some y) (fun t_10 => some ((-4 : Int32), t_10))))
set_option maxHeartbeats 4000000 in
theorem w_X8_empty_e {F : FX} {G : GX} {Q : State → Prop} (C : Cx F G cX8_empty 3 RX8) (hR : Rm F 7) (n : Nat) (s : MM) (t : SR)   (res : Int32 × SR) (hf : f_X8_empty n t = some res) (hK : RetI F G Q cX8_empty 3 .int res.1 (s, res.2)) : At F G Q 3 0 [(0, .ref (G.2.1 39))] [] (s, t) := by
  unfold f_X8_empty at hf
  refine a_aload_n C (i := 0) (q := 1) dX8_empty_0 rfl 0 rfl rfl ?_
  refine a_iconst C (v := (4 : Int32)) (q := 2) dX8_empty_1 rfl (by decide) ?_
  refine a_callVI C (q := 5) (As := [.int (4 : Int32)]) (st := []) dX8_empty_2 hR (by decide) hf (fun b => b) (fun _ => (s, t)) (by decide) rfl rfl cw_X8_count (fun b hb => c_X8_count _ G n s t (4 : Int32) b hb) rfl rfl (Nat.le_of_ble_eq_true rfl) k_1077 rfl (fun y_1 hf => ?_)
  refine a_istore_n C (i := 1) (q := 6) (lv' := [(1, .int y_1), (0, .ref (G.2.1 39))]) dX8_empty_5 rfl (by decide) rfl rfl ?_
  refine a_iconst C (v := (0 : Int32)) (q := 7) dX8_empty_6 rfl (by decide) ?_
  refine a_istore_n C (i := 2) (q := 8) (lv' := [(2, .int (0 : Int32)), (1, .int y_1), (0, .ref (G.2.1 39))]) dX8_empty_7 rfl (by decide) rfl rfl ?_
  obtain ⟨t_6, h1, hf⟩ := b1_some hf
  refine a_sub [2, 1, 0] rfl (lp_X8_empty_8 C hR n s y_1  (0 : Int32) t _ h1 ?_)
  show At F G Q 3 37 [(0, .ref (G.2.1 39))] [] (s, t_6)
  refine a_iconst C (v := (0 : Int32)) (q := 38) dX8_empty_37 rfl (by decide) ?_
  refine a_istore_n C (i := 2) (q := 39) (lv' := [(2, .int (0 : Int32)), (0, .ref (G.2.1 39))]) dX8_empty_38 rfl (by decide) rfl rfl ?_
  rcases bR_some hf with ⟨y, h1, hf⟩ | ⟨t_10, h1, hf⟩
  · refine a_sub [1, 0] rfl (lp_X8_empty_39 C hR n s  (0 : Int32) t_6 _ h1 ?_)
    have hf := Option.some.inj hf; subst hf
    exact hK
  · refine a_sub [1, 0] rfl (lp_X8_empty_39 C hR n s  (0 : Int32) t_6 _ h1 ?_)
    show At F G Q 3 94 [] [] (s, t_10)
    refine a_bipush C (v := (-4 : Int32)) (q := 96) dX8_empty_94 rfl (by decide) ?_
    have hf := Option.some.inj hf; subst hf
    exact (show RetI F G Q cX8_empty 3 .int (-4 : Int32) (s, t_10) from hK) rfl _ _ dX8_empty_96
theorem c_X8_empty (l : Launch) (G : GX) (n : Nat) (s : MM) (t : SR)  (res : Int32 × SR) (hf : f_X8_empty n t = some res) : MetC l G yX8_empty cX8_empty 3 (some .int) 7 (s, t) [.ref (G.2.1 39)] (PostI G res.1 (s, res.2)) :=
  m_I (by decide) (Nat.le_of_ble_eq_true rfl) (fun F Q C h1 h2 h3 hK => w_X8_empty_e C (Rm.of h1 h3) n s t res hf hK)
theorem cw_X8_least : CwV RX8 yX8_least cX8_least 8 2 (some .int) := ⟨k_1089, k_1087, k_1088, k_9, by decide +kernel, by decide⟩
def P_X8_least_65 (F : FX) (G : GX) (Q : State → Prop) (s : MM) (v1 : Int32) (v2 : Int32) (v3 : Int32) (v4 : Int32) (v5 : Int32) (v6 : Int32) (t : SR) : Prop := At F G Q 8 65 [(0, .ref (G.2.1 39)), (1, .int v1), (2, .int v2), (3, .int v3), (4, .int v4), (5, .int v5), (6, .int v6)] [] (s, t)
def E_X8_least_65 (F : FX) (G : GX) (Q : State → Prop) (s : MM) (v1 : Int32) (v2 : Int32) (v3 : Int32) : Int32 × Int32 × SR → Prop := fun q => match q with
  | (v4, v5, t) => At F G Q 8 144 [(0, .ref (G.2.1 39)), (1, .int v1), (2, .int v2), (4, .int v4), (5, .int v5)] [] (s, t)
def P_X8_least_79 (F : FX) (G : GX) (Q : State → Prop) (s : MM) (v1 : Int32) (v2 : Int32) (v3 : Int32) (v6 : Int32) (v4 : Int32) (v5 : Int32) (v7 : Int32) (t : SR) : Prop := At F G Q 8 79 [(0, .ref (G.2.1 39)), (1, .int v1), (2, .int v2), (3, .int v3), (4, .int v4), (5, .int v5), (6, .int v6), (7, .int v7)] [] (s, t)
def E_X8_least_79 (F : FX) (G : GX) (Q : State → Prop) (s : MM) (v1 : Int32) (v2 : Int32) (v3 : Int32) (v6 : Int32) : Int32 × Int32 × SR → Prop := fun q => match q with
  | (v4, v5, t) => At F G Q 8 138 [(0, .ref (G.2.1 39)), (1, .int v1), (2, .int v2), (3, .int v3), (4, .int v4), (5, .int v5), (6, .int v6)] [] (s, t)
def lb_X8_least_79 (n : Nat) (v1 : Int32) (v2 : Int32) (v3 : Int32) (v6 : Int32) (v4 : Int32) (v5 : Int32) (v7 : Int32) (t : SR) : Option ((Int32 × Int32 × SR) ⊕ (Int32 × Int32 × Int32 × SR)) :=
  (if v5 ≤ v7 then some (.inl (v4, v5, t)) else ix v6 12 ((if (100 : Int32) ≤ ((t.1 44 v6.toNatClampNeg) + v7) then some (.inl (v4, v5, t)) else b1 (f_X8_findLoads n t) (fun y_6 => ix v6 12 (ix v6 12 (nm (sr1 y_6 45 v6.toNatClampNeg ((y_6.1 45 v6.toNatClampNeg) + v7)) (fun t_7 => b1 (f_X8_isEvenNow n t_7) (fun y_8 => (if y_8.1 = 0 then nm (v7 + 1) (fun v7_9 => some (.inr (v4, v5, v7_9, y_8.2))) else nm (v7 + 1) (fun v7_10 => some (.inr (v6, v7, v7_10, y_8.2))))))))))))
set_option maxHeartbeats 4000000 in
theorem w_X8_least_79 {F : FX} {G : GX} {Q : State → Prop} (C : Cx F G cX8_least 8 RX8) (hR : Rm F 5) (n : Nat) (s : MM) (v1 : Int32) (v2 : Int32) (v3 : Int32) (v6 : Int32)  (v4 : Int32) (v5 : Int32) (v7 : Int32) (t : SR) (res : (Int32 × Int32 × SR) ⊕ (Int32 × Int32 × Int32 × SR)) (hf : lb_X8_least_79 n v1 v2 v3 v6 v4 v5 v7 t = some res) (hK : Sum.elim (E_X8_least_79 F G Q s v1 v2 v3 v6) (fun q => match q with | (v4, v5, v7, t) => P_X8_least_79 F G Q s v1 v2 v3 v6 v4 v5 v7 t) res) : P_X8_least_79 F G Q s v1 v2 v3 v6 v4 v5 v7 t := by
  unfold lb_X8_least_79 at hf
  show At F G Q 8 79 [(0, .ref (G.2.1 39)), (1, .int v1), (2, .int v2), (3, .int v3), (4, .int v4), (5, .int v5), (6, .int v6), (7, .int v7)] [] (s, t)
  refine a_iload C (i := 7) (q := 81) dX8_least_79 rfl 7 rfl ?_
  refine a_iload C (i := 5) (q := 83) dX8_least_81 rfl 5 rfl ?_
  refine a_icmp_ge C (tgt := 138) (q := 86) dX8_least_83 hf (by decide) rfl (fun hf => ?_) (fun hf => ?_)
  · have hf := Option.some.inj hf; subst hf
    exact a_sub [0, 1, 2, 3, 4, 5, 6] rfl (show At F G Q 8 138 [(0, .ref (G.2.1 39)), (1, .int v1), (2, .int v2), (3, .int v3), (4, .int v4), (5, .int v5), (6, .int v6)] [] (s, t) from hK)
  · refine a_aload_n C (i := 0) (q := 87) dX8_least_86 rfl 0 rfl rfl ?_
    refine a_get8 C (q := 90) dX8_least_87 5 (by decide) k_773 (by decide) rfl rfl rfl ?_
    refine a_iload C (i := 6) (q := 92) dX8_least_90 rfl 6 rfl ?_
    refine a_iald C (q := 93) (g := t.1 44) dX8_least_92 hf (by decide) rfl rfl (fun hf => ?_)
    refine a_iload C (i := 7) (q := 95) dX8_least_93 rfl 7 rfl ?_
    refine a_iadd C (q := 96) dX8_least_95 rfl ?_
    refine a_bipush C (v := (100 : Int32)) (q := 98) dX8_least_96 rfl (by decide) ?_
    refine a_icmp_ge C (tgt := 138) (q := 101) dX8_least_98 hf (by decide) rfl (fun hf => ?_) (fun hf => ?_)
    · have hf := Option.some.inj hf; subst hf
      exact a_sub [0, 1, 2, 3, 4, 5, 6] rfl (show At F G Q 8 138 [(0, .ref (G.2.1 39)), (1, .int v1), (2, .int v2), (3, .int v3), (4, .int v4), (5, .int v5), (6, .int v6)] [] (s, t) from hK)
    · refine a_aload_n C (i := 0) (q := 102) dX8_least_101 rfl 0 rfl rfl ?_
      refine a_callVV C (q := 105) (As := []) (st := []) dX8_least_102 hR (by decide) hf (fun b => (s, b)) (by decide) rfl rfl cw_X8_findLoads (fun b hb => c_X8_findLoads _ G n s t b hb) rfl rfl (Nat.le_of_ble_eq_true rfl) k_928 rfl (fun y_6 hf => ?_)
      refine a_aload_n C (i := 0) (q := 106) dX8_least_105 rfl 0 rfl rfl ?_
      refine a_get8 C (q := 109) dX8_least_106 9 (by decide) k_777 (by decide) rfl rfl rfl ?_
      refine a_iload C (i := 6) (q := 111) dX8_least_109 rfl 6 rfl ?_
      refine a_dup2 C (q := 112) dX8_least_111 rfl rfl rfl ?_
      refine a_iald C (q := 113) (g := y_6.1 45) dX8_least_112 hf (by decide) rfl rfl (fun hf => ?_)
      refine a_iload C (i := 7) (q := 115) dX8_least_113 rfl 7 rfl ?_
      refine a_iadd C (q := 116) dX8_least_115 rfl ?_
      refine a_iastN C (q := 117) (mk := (fun z => (s, z))) dX8_least_116 hf (by decide) rfl rfl cellE_R1 rfl (fun t_7 hf => ?_)
      refine a_aload_n C (i := 0) (q := 118) dX8_least_117 rfl 0 rfl rfl ?_
      refine a_callVI C (q := 121) (As := []) (st := []) dX8_least_118 hR (by decide) hf (fun b => b.1) (fun b => (s, b.2)) (by decide) rfl rfl cw_X8_isEvenNow (fun b hb => c_X8_isEvenNow _ G n s t_7 b hb) rfl rfl (Nat.le_of_ble_eq_true rfl) k_932 rfl (fun y_8 hf => ?_)
      refine a_if_eq C (tgt := 132) (q := 124) dX8_least_121 hf (by decide) rfl (fun hf => ?_) (fun hf => ?_)
      · refine a_iincN C (i := 7) (k := 7) (q := 135) (lv' := fun z => [(7, .int z), (0, .ref (G.2.1 39)), (1, .int v1), (2, .int v2), (3, .int v3), (4, .int v4), (5, .int v5), (6, .int v6)]) dX8_least_132 hf rfl rfl (by decide) (fun _ => rfl) rfl (fun v7_9 hf => ?_)
        refine a_goto C (q := 79) dX8_least_135 (by decide) ?_
        have hf := Option.some.inj hf; subst hf
        exact a_sub [1, 2, 3, 4, 5, 6, 7, 0] rfl (show At F G Q 8 79 [(0, .ref (G.2.1 39)), (1, .int v1), (2, .int v2), (3, .int v3), (4, .int v4), (5, .int v5), (6, .int v6), (7, .int v7_9)] [] (s, y_8.2) from hK)
      · refine a_iload C (i := 6) (q := 126) dX8_least_124 rfl 6 rfl ?_
        refine a_istore C (i := 4) (q := 128) (lv' := [(4, .int v6), (0, .ref (G.2.1 39)), (1, .int v1), (2, .int v2), (3, .int v3), (5, .int v5), (6, .int v6), (7, .int v7)]) dX8_least_126 (by decide) rfl rfl ?_
        refine a_iload C (i := 7) (q := 130) dX8_least_128 rfl 7 rfl ?_
        refine a_istore C (i := 5) (q := 132) (lv' := [(5, .int v7), (4, .int v6), (0, .ref (G.2.1 39)), (1, .int v1), (2, .int v2), (3, .int v3), (6, .int v6), (7, .int v7)]) dX8_least_130 (by decide) rfl rfl ?_
        refine a_iincN C (i := 7) (k := 7) (q := 135) (lv' := fun z => [(7, .int z), (5, .int v7), (4, .int v6), (0, .ref (G.2.1 39)), (1, .int v1), (2, .int v2), (3, .int v3), (6, .int v6)]) dX8_least_132 hf rfl rfl (by decide) (fun _ => rfl) rfl (fun v7_10 hf => ?_)
        refine a_goto C (q := 79) dX8_least_135 (by decide) ?_
        have hf := Option.some.inj hf; subst hf
        exact a_sub [3, 4, 5, 6, 2, 1, 7, 0] rfl (show At F G Q 8 79 [(0, .ref (G.2.1 39)), (1, .int v1), (2, .int v2), (3, .int v3), (4, .int v6), (5, .int v7), (6, .int v6), (7, .int v7_10)] [] (s, y_8.2) from hK)
theorem lp_X8_least_79 {F : FX} {G : GX} {Q : State → Prop} (C : Cx F G cX8_least 8 RX8) (hR : Rm F 5) (n : Nat) (s : MM) (v1 : Int32) (v2 : Int32) (v3 : Int32) (v6 : Int32)  (v4 : Int32) (v5 : Int32) (v7 : Int32) (t : SR) (x : Int32 × Int32 × SR) (h : it4 (lb_X8_least_79 n v1 v2 v3 v6) n v4 v5 v7 t = some x) (hE : E_X8_least_79 F G Q s v1 v2 v3 v6 x) : At F G Q 8 79 [(0, .ref (G.2.1 39)), (1, .int v1), (2, .int v2), (3, .int v3), (4, .int v4), (5, .int v5), (6, .int v6), (7, .int v7)] [] (s, t) :=
  it4_ind (b := (lb_X8_least_79 n v1 v2 v3 v6)) (E := E_X8_least_79 F G Q s v1 v2 v3 v6) (P := fun v4 v5 v7 t => P_X8_least_79 F G Q s v1 v2 v3 v6 v4 v5 v7 t) (fun v4 v5 v7 t res hf hK => w_X8_least_79 C hR n s v1 v2 v3 v6   v4 v5 v7 t res hf hK) n v4 v5 v7 t x h hE
def lb_X8_least_65 (n : Nat) (v1 : Int32) (v2 : Int32) (v3 : Int32) (v4 : Int32) (v5 : Int32) (v6 : Int32) (t : SR) : Option ((Int32 × Int32 × SR) ⊕ (Int32 × Int32 × Int32 × SR)) :=
  (if (12 : Int32) ≤ v6 then some (.inl (v4, v5, t)) else (if v3 = 0 then some (.inl (v4, v5, t)) else b3 (it4 (lb_X8_least_79 n v1 v2 v3 v6) n v4 v5 (0 : Int32) t) (fun v4_11 v5_12 t_13 => nm (v6 + 1) (fun v6_14 => some (.inr (v4_11, v5_12, v6_14, t_13))))))
set_option maxHeartbeats 4000000 in
theorem w_X8_least_65 {F : FX} {G : GX} {Q : State → Prop} (C : Cx F G cX8_least 8 RX8) (hR : Rm F 5) (n : Nat) (s : MM) (v1 : Int32) (v2 : Int32) (v3 : Int32)  (v4 : Int32) (v5 : Int32) (v6 : Int32) (t : SR) (res : (Int32 × Int32 × SR) ⊕ (Int32 × Int32 × Int32 × SR)) (hf : lb_X8_least_65 n v1 v2 v3 v4 v5 v6 t = some res) (hK : Sum.elim (E_X8_least_65 F G Q s v1 v2 v3) (fun q => match q with | (v4, v5, v6, t) => P_X8_least_65 F G Q s v1 v2 v3 v4 v5 v6 t) res) : P_X8_least_65 F G Q s v1 v2 v3 v4 v5 v6 t := by
  unfold lb_X8_least_65 at hf
  show At F G Q 8 65 [(0, .ref (G.2.1 39)), (1, .int v1), (2, .int v2), (3, .int v3), (4, .int v4), (5, .int v5), (6, .int v6)] [] (s, t)
  refine a_iload C (i := 6) (q := 67) dX8_least_65 rfl 6 rfl ?_
  refine a_bipush C (v := (12 : Int32)) (q := 69) dX8_least_67 rfl (by decide) ?_
  refine a_icmp_ge C (tgt := 144) (q := 72) dX8_least_69 hf (by decide) rfl (fun hf => ?_) (fun hf => ?_)
  · have hf := Option.some.inj hf; subst hf
    exact a_sub [0, 1, 2, 4, 5] rfl (show At F G Q 8 144 [(0, .ref (G.2.1 39)), (1, .int v1), (2, .int v2), (4, .int v4), (5, .int v5)] [] (s, t) from hK)
  · refine a_iload_n C (i := 3) (q := 73) dX8_least_72 rfl 3 rfl rfl ?_
    refine a_if_eq C (tgt := 144) (q := 76) dX8_least_73 hf (by decide) rfl (fun hf => ?_) (fun hf => ?_)
    · have hf := Option.some.inj hf; subst hf
      exact a_sub [0, 1, 2, 4, 5] rfl (show At F G Q 8 144 [(0, .ref (G.2.1 39)), (1, .int v1), (2, .int v2), (4, .int v4), (5, .int v5)] [] (s, t) from hK)
    · refine a_iconst C (v := (0 : Int32)) (q := 77) dX8_least_76 rfl (by decide) ?_
      refine a_istore C (i := 7) (q := 79) (lv' := [(7, .int (0 : Int32)), (0, .ref (G.2.1 39)), (1, .int v1), (2, .int v2), (3, .int v3), (4, .int v4), (5, .int v5), (6, .int v6)]) dX8_least_77 (by decide) rfl rfl ?_
      obtain ⟨v4_11, v5_12, t_13, h1, hf⟩ := b3_some hf
      refine a_sub [1, 2, 3, 4, 5, 6, 7, 0] rfl (lp_X8_least_79 C hR n s v1 v2 v3 v6  v4 v5 (0 : Int32) t _ h1 ?_)
      show At F G Q 8 138 [(0, .ref (G.2.1 39)), (1, .int v1), (2, .int v2), (3, .int v3), (4, .int v4_11), (5, .int v5_12), (6, .int v6)] [] (s, t_13)
      refine a_iincN C (i := 6) (k := 6) (q := 141) (lv' := fun z => [(6, .int z), (0, .ref (G.2.1 39)), (1, .int v1), (2, .int v2), (3, .int v3), (4, .int v4_11), (5, .int v5_12)]) dX8_least_138 hf rfl rfl (by decide) (fun _ => rfl) rfl (fun v6_14 hf => ?_)
      refine a_goto C (q := 65) dX8_least_141 (by decide) ?_
      have hf := Option.some.inj hf; subst hf
      exact a_sub [1, 2, 3, 4, 5, 6, 0] rfl (show At F G Q 8 65 [(0, .ref (G.2.1 39)), (1, .int v1), (2, .int v2), (3, .int v3), (4, .int v4_11), (5, .int v5_12), (6, .int v6_14)] [] (s, t_13) from hK)
theorem lp_X8_least_65 {F : FX} {G : GX} {Q : State → Prop} (C : Cx F G cX8_least 8 RX8) (hR : Rm F 5) (n : Nat) (s : MM) (v1 : Int32) (v2 : Int32) (v3 : Int32)  (v4 : Int32) (v5 : Int32) (v6 : Int32) (t : SR) (x : Int32 × Int32 × SR) (h : it4 (lb_X8_least_65 n v1 v2 v3) n v4 v5 v6 t = some x) (hE : E_X8_least_65 F G Q s v1 v2 v3 x) : At F G Q 8 65 [(0, .ref (G.2.1 39)), (1, .int v1), (2, .int v2), (3, .int v3), (4, .int v4), (5, .int v5), (6, .int v6)] [] (s, t) :=
  it4_ind (b := (lb_X8_least_65 n v1 v2 v3)) (E := E_X8_least_65 F G Q s v1 v2 v3) (P := fun v4 v5 v6 t => P_X8_least_65 F G Q s v1 v2 v3 v4 v5 v6 t) (fun v4 v5 v6 t res hf hK => w_X8_least_65 C hR n s v1 v2 v3   v4 v5 v6 t res hf hK) n v4 v5 v6 t x h hE
def f_X8_least_144 (n : Nat) (t : SR) (v1 : Int32) (v2 : Int32) (v4 : Int32) (v5 : Int32) : Option (Int32 × SR) :=
  ix v1 10 (nm (sr1 t 42 v1.toNatClampNeg (12 : Int32)) (fun t_18 => (if 0 ≤ v4 then (if v2 = 0 then some (v5, t_18) else some (v4, t_18)) else some ((-4 : Int32), t_18))))
set_option maxHeartbeats 4000000 in
theorem w_X8_least_144 {F : FX} {G : GX} {Q : State → Prop} (C : Cx F G cX8_least 8 RX8) (hR : Rm F 5) (n : Nat) (s : MM) (t : SR)  (v1 : Int32) (v2 : Int32) (v4 : Int32) (v5 : Int32) (res : Int32 × SR) (hf : f_X8_least_144 n t v1 v2 v4 v5 = some res) (hK : RetI F G Q cX8_least 8 .int res.1 (s, res.2)) : At F G Q 8 144 [(0, .ref (G.2.1 39)), (1, .int v1), (2, .int v2), (4, .int v4), (5, .int v5)] [] (s, t) := by
  unfold f_X8_least_144 at hf
  refine a_aload_n C (i := 0) (q := 145) dX8_least_144 rfl 0 rfl rfl ?_
  refine a_get8 C (q := 148) dX8_least_145 2 (by decide) k_770 (by decide) rfl rfl rfl ?_
  refine a_iload_n C (i := 1) (q := 149) dX8_least_148 rfl 1 rfl rfl ?_
  refine a_bipush C (v := (12 : Int32)) (q := 151) dX8_least_149 rfl (by decide) ?_
  refine a_iastN C (q := 152) (mk := (fun z => (s, z))) dX8_least_151 hf (by decide) rfl rfl cellE_R1 rfl (fun t_18 hf => ?_)
  refine a_iload C (i := 4) (q := 154) dX8_least_152 rfl 3 rfl ?_
  refine a_if_ge C (tgt := 162) (q := 157) dX8_least_154 hf (by decide) rfl (fun hf => ?_) (fun hf => ?_)
  · refine a_iload_n C (i := 2) (q := 163) dX8_least_162 rfl 2 rfl rfl ?_
    refine a_if_ne C (tgt := 171) (q := 166) dX8_least_163 hf (by decide) rfl (fun hf => ?_) (fun hf => ?_)
    · refine a_iload C (i := 4) (q := 173) dX8_least_171 rfl 3 rfl ?_
      have hf := Option.some.inj hf; subst hf
      exact (show RetI F G Q cX8_least 8 .int v4 (s, t_18) from hK) rfl _ _ dX8_least_173
    · refine a_iload C (i := 5) (q := 168) dX8_least_166 rfl 4 rfl ?_
      refine a_goto C (q := 173) dX8_least_168 (by decide) ?_
      have hf := Option.some.inj hf; subst hf
      exact (show RetI F G Q cX8_least 8 .int v5 (s, t_18) from hK) rfl _ _ dX8_least_173
  · refine a_bipush C (v := (-4 : Int32)) (q := 159) dX8_least_157 rfl (by decide) ?_
    refine a_goto C (q := 173) dX8_least_159 (by decide) ?_
    have hf := Option.some.inj hf; subst hf
    exact (show RetI F G Q cX8_least 8 .int (-4 : Int32) (s, t_18) from hK) rfl _ _ dX8_least_173
def f_X8_least (n : Nat) (t : SR) (v1 : Int32) (v2 : Int32) : Option (Int32 × SR) :=
  b1 (f_X8_isOne t v1) (fun y_1 => (if y_1 = 0 then some ((-1 : Int32), t) else ix v1 10 ((if (t.1 42 v1.toNatClampNeg) = (12 : Int32) then b1 (f_X8_in v2.toInt64 (0 : Int64) (1 : Int64)) (fun y_2 => (if y_2 = 0 then some ((-1 : Int32), t) else ix v1 10 (nm (sr1 t 42 v1.toNatClampNeg (t.1 39 8)) (fun t_3 => b1 (f_X8_whoIn n t_3 (t_3.1 39 8)) (fun y_4 => b1 (f_X8_fits n t_3 y_4) (fun y_5 => b3 (it4 (lb_X8_least_65 n v1 v2 y_5) n (-4 : Int32) (100 : Int32) (0 : Int32) t_3) (fun v4_15 v5_16 t_17 => f_X8_least_144 n t_17 v1 v2 v4_15 v5_16))))))) else some ((-1 : Int32), t)))))
set_option maxHeartbeats 4000000 in
theorem w_X8_least_e {F : FX} {G : GX} {Q : State → Prop} (C : Cx F G cX8_least 8 RX8) (hR : Rm F 5) (n : Nat) (s : MM) (t : SR)  (v1 : Int32) (v2 : Int32) (res : Int32 × SR) (hf : f_X8_least n t v1 v2 = some res) (hK : RetI F G Q cX8_least 8 .int res.1 (s, res.2)) : At F G Q 8 0 [(0, .ref (G.2.1 39)), (1, .int v1), (2, .int v2)] [] (s, t) := by
  unfold f_X8_least at hf
  refine a_aload_n C (i := 0) (q := 1) dX8_least_0 rfl 0 rfl rfl ?_
  refine a_iload_n C (i := 1) (q := 2) dX8_least_1 rfl 1 rfl rfl ?_
  refine a_callVI C (q := 5) (As := [.int v1]) (st := []) dX8_least_2 hR (by decide) hf (fun b => b) (fun _ => (s, t)) (by decide) rfl rfl cw_X8_isOne (fun b hb => c_X8_isOne _ G s t v1 b hb) rfl rfl (Nat.le_of_ble_eq_true rfl) k_892 rfl (fun y_1 hf => ?_)
  refine a_if_eq C (tgt := 29) (q := 8) dX8_least_5 hf (by decide) rfl (fun hf => ?_) (fun hf => ?_)
  · refine a_iconst C (v := (-1 : Int32)) (q := 30) dX8_least_29 rfl (by decide) ?_
    have hf := Option.some.inj hf; subst hf
    exact (show RetI F G Q cX8_least 8 .int (-1 : Int32) (s, t) from hK) rfl _ _ dX8_least_30
  · refine a_aload_n C (i := 0) (q := 9) dX8_least_8 rfl 0 rfl rfl ?_
    refine a_get8 C (q := 12) dX8_least_9 2 (by decide) k_770 (by decide) rfl rfl rfl ?_
    refine a_iload_n C (i := 1) (q := 13) dX8_least_12 rfl 1 rfl rfl ?_
    refine a_iald C (q := 14) (g := t.1 42) dX8_least_13 hf (by decide) rfl rfl (fun hf => ?_)
    refine a_bipush C (v := (12 : Int32)) (q := 16) dX8_least_14 rfl (by decide) ?_
    refine a_icmp_ne C (tgt := 29) (q := 19) dX8_least_16 hf (by decide) rfl (fun hf => ?_) (fun hf => ?_)
    · refine a_iconst C (v := (-1 : Int32)) (q := 30) dX8_least_29 rfl (by decide) ?_
      have hf := Option.some.inj hf; subst hf
      exact (show RetI F G Q cX8_least 8 .int (-1 : Int32) (s, t) from hK) rfl _ _ dX8_least_30
    · refine a_iload_n C (i := 2) (q := 20) dX8_least_19 rfl 2 rfl rfl ?_
      refine a_i2l C (q := 21) dX8_least_20 rfl ?_
      refine a_lconst C (v := (0 : Int64)) (q := 22) dX8_least_21 rfl (by decide) ?_
      refine a_lconst C (v := (1 : Int64)) (q := 23) dX8_least_22 rfl (by decide) ?_
      refine a_callSI C (q := 26) (As := [.long v2.toInt64, .long (0 : Int64), .long (1 : Int64)]) (st := []) dX8_least_23 hR (by decide) hf (fun b => b) (fun _ => (s, t)) cw_X8_in (fun b hb => c_X8_in _ G s t v2.toInt64 (0 : Int64) (1 : Int64) b hb) rfl rfl (Nat.le_of_ble_eq_true rfl) k_880 rfl (fun y_2 hf => ?_)
      refine a_if_ne C (tgt := 31) (q := 29) dX8_least_26 hf (by decide) rfl (fun hf => ?_) (fun hf => ?_)
      · refine a_aload_n C (i := 0) (q := 32) dX8_least_31 rfl 0 rfl rfl ?_
        refine a_get8 C (q := 35) dX8_least_32 2 (by decide) k_770 (by decide) rfl rfl rfl ?_
        refine a_iload_n C (i := 1) (q := 36) dX8_least_35 rfl 1 rfl rfl ?_
        refine a_aload_n C (i := 0) (q := 37) dX8_least_36 rfl 0 rfl rfl ?_
        refine a_get8 C (q := 40) dX8_least_37 8 (by decide) k_776 (by decide) rfl rfl rfl ?_
        refine a_iastN C (q := 41) (mk := (fun z => (s, z))) dX8_least_40 hf (by decide) rfl rfl cellE_R1 rfl (fun t_3 hf => ?_)
        refine a_aload_n C (i := 0) (q := 42) dX8_least_41 rfl 0 rfl rfl ?_
        refine a_aload_n C (i := 0) (q := 43) dX8_least_42 rfl 0 rfl rfl ?_
        refine a_aload_n C (i := 0) (q := 44) dX8_least_43 rfl 0 rfl rfl ?_
        refine a_get8 C (q := 47) dX8_least_44 8 (by decide) k_776 (by decide) rfl rfl rfl ?_
        refine a_callVI C (q := 50) (As := [.int (t_3.1 39 8)]) (st := [.ref (G.2.1 39)]) dX8_least_47 hR (by decide) hf (fun b => b) (fun _ => (s, t_3)) (by decide) rfl rfl cw_X8_whoIn (fun b hb => c_X8_whoIn _ G n s t_3 (t_3.1 39 8) b hb) rfl rfl (Nat.le_of_ble_eq_true rfl) k_904 rfl (fun y_4 hf => ?_)
        refine a_callVI C (q := 53) (As := [.int y_4]) (st := []) dX8_least_50 hR (by decide) hf (fun b => b) (fun _ => (s, t_3)) (by decide) rfl rfl cw_X8_fits (fun b hb => c_X8_fits _ G n s t_3 y_4 b hb) rfl rfl (Nat.le_of_ble_eq_true rfl) k_1013 rfl (fun y_5 hf => ?_)
        refine a_istore_n C (i := 3) (q := 54) (lv' := [(3, .int y_5), (0, .ref (G.2.1 39)), (1, .int v1), (2, .int v2)]) dX8_least_53 rfl (by decide) rfl rfl ?_
        refine a_bipush C (v := (-4 : Int32)) (q := 56) dX8_least_54 rfl (by decide) ?_
        refine a_istore C (i := 4) (q := 58) (lv' := [(4, .int (-4 : Int32)), (3, .int y_5), (0, .ref (G.2.1 39)), (1, .int v1), (2, .int v2)]) dX8_least_56 (by decide) rfl rfl ?_
        refine a_bipush C (v := (100 : Int32)) (q := 60) dX8_least_58 rfl (by decide) ?_
        refine a_istore C (i := 5) (q := 62) (lv' := [(5, .int (100 : Int32)), (4, .int (-4 : Int32)), (3, .int y_5), (0, .ref (G.2.1 39)), (1, .int v1), (2, .int v2)]) dX8_least_60 (by decide) rfl rfl ?_
        refine a_iconst C (v := (0 : Int32)) (q := 63) dX8_least_62 rfl (by decide) ?_
        refine a_istore C (i := 6) (q := 65) (lv' := [(6, .int (0 : Int32)), (5, .int (100 : Int32)), (4, .int (-4 : Int32)), (3, .int y_5), (0, .ref (G.2.1 39)), (1, .int v1), (2, .int v2)]) dX8_least_63 (by decide) rfl rfl ?_
        obtain ⟨v4_15, v5_16, t_17, h1, hf⟩ := b3_some hf
        refine a_sub [4, 5, 6, 3, 2, 1, 0] rfl (lp_X8_least_65 C hR n s v1 v2 y_5  (-4 : Int32) (100 : Int32) (0 : Int32) t_3 _ h1 ?_)
        show At F G Q 8 144 [(0, .ref (G.2.1 39)), (1, .int v1), (2, .int v2), (4, .int v4_15), (5, .int v5_16)] [] (s, t_17)
        exact a_sub [0, 1, 2, 3, 4] rfl (w_X8_least_144 C hR n s t_17 v1 v2 v4_15 v5_16 res hf hK)
      · refine a_iconst C (v := (-1 : Int32)) (q := 30) dX8_least_29 rfl (by decide) ?_
        have hf := Option.some.inj hf; subst hf
        exact (show RetI F G Q cX8_least 8 .int (-1 : Int32) (s, t) from hK) rfl _ _ dX8_least_30
theorem c_X8_least (l : Launch) (G : GX) (n : Nat) (s : MM) (t : SR) (v1 : Int32) (v2 : Int32) (res : Int32 × SR) (hf : f_X8_least n t v1 v2 = some res) : MetC l G yX8_least cX8_least 8 (some .int) 5 (s, t) [.ref (G.2.1 39), .int v1, .int v2] (PostI G res.1 (s, res.2)) :=
  m_I (by decide) (Nat.le_of_ble_eq_true rfl) (fun F Q C h1 h2 h3 hK => w_X8_least_e C (Rm.of h1 h3) n s t v1 v2 res hf hK)
theorem cw_X8_findWorst : CwV RX8 yX8_findWorst cX8_findWorst 8 1 none := ⟨k_1097, k_1096, kp_45, k_9, by decide +kernel, by decide⟩
def P_X8_findWorst_26 (F : FX) (G : GX) (Q : State → Prop) (s : MM) (v1 : Int32) (v2 : Int32) (v3 : Int32) (v4 : Int32) (t : SR) : Prop := At F G Q 8 26 [(0, .ref (G.2.1 39)), (1, .int v1), (2, .int v2), (3, .int v3), (4, .int v4)] [] (s, t)
def E_X8_findWorst_26 (F : FX) (G : GX) (Q : State → Prop) (s : MM) (v1 : Int32) (v2 : Int32) (v3 : Int32) : SR → Prop := fun q => match q with
  | t => At F G Q 8 221 [] [] (s, t)
def P_X8_findWorst_37 (F : FX) (G : GX) (Q : State → Prop) (s : MM) (v1 : Int32) (v2 : Int32) (v3 : Int32) (v4 : Int32) (v5 : Int32) (t : SR) : Prop := At F G Q 8 37 [(0, .ref (G.2.1 39)), (1, .int v1), (2, .int v2), (3, .int v3), (4, .int v4), (5, .int v5)] [] (s, t)
def E_X8_findWorst_37 (F : FX) (G : GX) (Q : State → Prop) (s : MM) (v1 : Int32) (v2 : Int32) (v3 : Int32) (v4 : Int32) : SR → Prop := fun q => match q with
  | t => At F G Q 8 64 [(0, .ref (G.2.1 39)), (1, .int v1), (2, .int v2), (3, .int v3), (4, .int v4)] [] (s, t)
def lb_X8_findWorst_37 (n : Nat) (v1 : Int32) (v2 : Int32) (v3 : Int32) (v4 : Int32) (v5 : Int32) (t : SR) : Option ((SR) ⊕ (Int32 × SR)) :=
  (if (12 : Int32) ≤ v5 then some (.inl t) else ix v5 12 (ix v5 12 (nm (sr1 t 45 v5.toNatClampNeg (t.1 44 v5.toNatClampNeg)) (fun t_5 => nm (v5 + 1) (fun v5_6 => some (.inr (v5_6, t_5)))))))
set_option maxHeartbeats 4000000 in
theorem w_X8_findWorst_37 {F : FX} {G : GX} {Q : State → Prop} (C : Cx F G cX8_findWorst 8 RX8) (hR : Rm F 4) (n : Nat) (s : MM) (v1 : Int32) (v2 : Int32) (v3 : Int32) (v4 : Int32)  (v5 : Int32) (t : SR) (res : (SR) ⊕ (Int32 × SR)) (hf : lb_X8_findWorst_37 n v1 v2 v3 v4 v5 t = some res) (hK : Sum.elim (E_X8_findWorst_37 F G Q s v1 v2 v3 v4) (fun q => match q with | (v5, t) => P_X8_findWorst_37 F G Q s v1 v2 v3 v4 v5 t) res) : P_X8_findWorst_37 F G Q s v1 v2 v3 v4 v5 t := by
  unfold lb_X8_findWorst_37 at hf
  show At F G Q 8 37 [(0, .ref (G.2.1 39)), (1, .int v1), (2, .int v2), (3, .int v3), (4, .int v4), (5, .int v5)] [] (s, t)
  refine a_iload C (i := 5) (q := 39) dX8_findWorst_37 rfl 5 rfl ?_
  refine a_bipush C (v := (12 : Int32)) (q := 41) dX8_findWorst_39 rfl (by decide) ?_
  refine a_icmp_ge C (tgt := 64) (q := 44) dX8_findWorst_41 hf (by decide) rfl (fun hf => ?_) (fun hf => ?_)
  · have hf := Option.some.inj hf; subst hf
    exact a_sub [0, 1, 2, 3, 4] rfl (show At F G Q 8 64 [(0, .ref (G.2.1 39)), (1, .int v1), (2, .int v2), (3, .int v3), (4, .int v4)] [] (s, t) from hK)
  · refine a_aload_n C (i := 0) (q := 45) dX8_findWorst_44 rfl 0 rfl rfl ?_
    refine a_get8 C (q := 48) dX8_findWorst_45 9 (by decide) k_777 (by decide) rfl rfl rfl ?_
    refine a_iload C (i := 5) (q := 50) dX8_findWorst_48 rfl 5 rfl ?_
    refine a_aload_n C (i := 0) (q := 51) dX8_findWorst_50 rfl 0 rfl rfl ?_
    refine a_get8 C (q := 54) dX8_findWorst_51 5 (by decide) k_773 (by decide) rfl rfl rfl ?_
    refine a_iload C (i := 5) (q := 56) dX8_findWorst_54 rfl 5 rfl ?_
    refine a_iald C (q := 57) (g := t.1 44) dX8_findWorst_56 hf (by decide) rfl rfl (fun hf => ?_)
    refine a_iastN C (q := 58) (mk := (fun z => (s, z))) dX8_findWorst_57 hf (by decide) rfl rfl cellE_R1 rfl (fun t_5 hf => ?_)
    refine a_iincN C (i := 5) (k := 5) (q := 61) (lv' := fun z => [(5, .int z), (0, .ref (G.2.1 39)), (1, .int v1), (2, .int v2), (3, .int v3), (4, .int v4)]) dX8_findWorst_58 hf rfl rfl (by decide) (fun _ => rfl) rfl (fun v5_6 hf => ?_)
    refine a_goto C (q := 37) dX8_findWorst_61 (by decide) ?_
    have hf := Option.some.inj hf; subst hf
    exact a_sub [1, 2, 3, 4, 5, 0] rfl (show At F G Q 8 37 [(0, .ref (G.2.1 39)), (1, .int v1), (2, .int v2), (3, .int v3), (4, .int v4), (5, .int v5_6)] [] (s, t_5) from hK)
theorem lp_X8_findWorst_37 {F : FX} {G : GX} {Q : State → Prop} (C : Cx F G cX8_findWorst 8 RX8) (hR : Rm F 4) (n : Nat) (s : MM) (v1 : Int32) (v2 : Int32) (v3 : Int32) (v4 : Int32)  (v5 : Int32) (t : SR) (x : SR) (h : it2 (lb_X8_findWorst_37 n v1 v2 v3 v4) n v5 t = some x) (hE : E_X8_findWorst_37 F G Q s v1 v2 v3 v4 x) : At F G Q 8 37 [(0, .ref (G.2.1 39)), (1, .int v1), (2, .int v2), (3, .int v3), (4, .int v4), (5, .int v5)] [] (s, t) :=
  it2_ind (b := (lb_X8_findWorst_37 n v1 v2 v3 v4)) (E := E_X8_findWorst_37 F G Q s v1 v2 v3 v4) (P := fun v5 t => P_X8_findWorst_37 F G Q s v1 v2 v3 v4 v5 t) (fun v5 t res hf hK => w_X8_findWorst_37 C hR n s v1 v2 v3 v4   v5 t res hf hK) n v5 t x h hE
def P_X8_findWorst_70 (F : FX) (G : GX) (Q : State → Prop) (s : MM) (v1 : Int32) (v2 : Int32) (v3 : Int32) (v4 : Int32) (v5 : Int32) (v6 : Int32) (t : SR) : Prop := At F G Q 8 70 [(0, .ref (G.2.1 39)), (1, .int v1), (2, .int v2), (3, .int v3), (4, .int v4), (5, .int v5), (6, .int v6)] [] (s, t)
def E_X8_findWorst_70 (F : FX) (G : GX) (Q : State → Prop) (s : MM) (v1 : Int32) (v2 : Int32) (v3 : Int32) (v4 : Int32) : SR → Prop := fun q => match q with
  | t => At F G Q 8 162 [(0, .ref (G.2.1 39)), (1, .int v1), (2, .int v2), (3, .int v3), (4, .int v4)] [] (s, t)
def f_X8_findWorst_112_in70 (n : Nat) (t : SR) (v1 : Int32) (v2 : Int32) (v3 : Int32) (v4 : Int32) (v5 : Int32) (v6 : Int32) (w0 : Int32) : Option ((SR) ⊕ (Int32 × Int32 × SR)) :=
  ix v6 10 (ix (t.1 42 v6.toNatClampNeg) 12 (b1 (f_X8_has v4 v5) (fun y_10 => (if y_10 = 0 then ix (t.1 42 v6.toNatClampNeg) 12 (nm (sr1 t 45 ((t.1 42 v6.toNatClampNeg).toNatClampNeg) ((t.1 45 ((t.1 42 v6.toNatClampNeg).toNatClampNeg)) + w0)) (fun t_11 => nm (v5 + 1) (fun v5_12 => nm (v6 + 1) (fun v6_13 => some (.inr (v5_12, v6_13, t_11)))))) else ix v6 10 (ix (t.1 42 v6.toNatClampNeg) 12 (nm (sr1 t 45 ((t.1 42 v6.toNatClampNeg).toNatClampNeg) ((t.1 45 ((t.1 42 v6.toNatClampNeg).toNatClampNeg)) + ((t.1 41 v6.toNatClampNeg) + v1))) (fun t_14 => nm (v5 + 1) (fun v5_15 => nm (v6 + 1) (fun v6_16 => some (.inr (v5_15, v6_16, t_14)))))))))))
set_option maxHeartbeats 4000000 in
theorem w_X8_findWorst_112_in70 {F : FX} {G : GX} {Q : State → Prop} (C : Cx F G cX8_findWorst 8 RX8) (hR : Rm F 4) (n : Nat) (s : MM) (t : SR)  (v1 : Int32) (v2 : Int32) (v3 : Int32) (v4 : Int32) (v5 : Int32) (v6 : Int32) (w0 : Int32) (res : (SR) ⊕ (Int32 × Int32 × SR)) (hf : f_X8_findWorst_112_in70 n t v1 v2 v3 v4 v5 v6 w0 = some res) (hK : Sum.elim (E_X8_findWorst_70 F G Q s v1 v2 v3 v4) (fun q => match q with | (v5, v6, t) => P_X8_findWorst_70 F G Q s v1 v2 v3 v4 v5 v6 t) res) : At F G Q 8 112 [(0, .ref (G.2.1 39)), (1, .int v1), (2, .int v2), (3, .int v3), (4, .int v4), (5, .int v5), (6, .int v6)] [.int w0] (s, t) := by
  unfold f_X8_findWorst_112_in70 at hf
  refine a_istore C (i := 7) (q := 114) (lv' := [(7, .int w0), (0, .ref (G.2.1 39)), (1, .int v1), (2, .int v2), (3, .int v3), (4, .int v4), (5, .int v5), (6, .int v6)]) dX8_findWorst_112 (by decide) rfl rfl ?_
  refine a_aload_n C (i := 0) (q := 115) dX8_findWorst_114 rfl 1 rfl rfl ?_
  refine a_get8 C (q := 118) dX8_findWorst_115 9 (by decide) k_777 (by decide) rfl rfl rfl ?_
  refine a_aload_n C (i := 0) (q := 119) dX8_findWorst_118 rfl 1 rfl rfl ?_
  refine a_get8 C (q := 122) dX8_findWorst_119 2 (by decide) k_770 (by decide) rfl rfl rfl ?_
  refine a_iload C (i := 6) (q := 124) dX8_findWorst_122 rfl 7 rfl ?_
  refine a_iald C (q := 125) (g := t.1 42) dX8_findWorst_124 hf (by decide) rfl rfl (fun hf => ?_)
  refine a_dup2 C (q := 126) dX8_findWorst_125 rfl rfl rfl ?_
  refine a_iald C (q := 127) (g := t.1 45) dX8_findWorst_126 hf (by decide) rfl rfl (fun hf => ?_)
  refine a_iload C (i := 4) (q := 129) dX8_findWorst_127 rfl 5 rfl ?_
  refine a_iload C (i := 5) (q := 131) dX8_findWorst_129 rfl 6 rfl ?_
  refine a_callSI C (q := 134) (As := [.int v4, .int v5]) (st := [.int (t.1 45 ((t.1 42 v6.toNatClampNeg).toNatClampNeg)), .int (t.1 42 v6.toNatClampNeg), .ref (G.2.1 45)]) dX8_findWorst_131 hR (by decide) hf (fun b => b) (fun _ => (s, t)) cw_X8_has (fun b hb => c_X8_has _ G s t v4 v5 b hb) rfl rfl (Nat.le_of_ble_eq_true rfl) k_912 rfl (fun y_10 hf => ?_)
  refine a_if_eq C (tgt := 149) (q := 137) dX8_findWorst_134 hf (by decide) rfl (fun hf => ?_) (fun hf => ?_)
  · refine a_iload C (i := 7) (q := 151) dX8_findWorst_149 rfl 0 rfl ?_
    refine a_iadd C (q := 152) dX8_findWorst_151 rfl ?_
    refine a_iastN C (q := 153) (mk := (fun z => (s, z))) dX8_findWorst_152 hf (by decide) rfl rfl cellE_R1 rfl (fun t_11 hf => ?_)
    refine a_iincN C (i := 5) (k := 6) (q := 156) (lv' := fun z => [(5, .int z), (7, .int w0), (0, .ref (G.2.1 39)), (1, .int v1), (2, .int v2), (3, .int v3), (4, .int v4), (6, .int v6)]) dX8_findWorst_153 hf rfl rfl (by decide) (fun _ => rfl) rfl (fun v5_12 hf => ?_)
    refine a_iincN C (i := 6) (k := 7) (q := 159) (lv' := fun z => [(6, .int z), (5, .int v5_12), (7, .int w0), (0, .ref (G.2.1 39)), (1, .int v1), (2, .int v2), (3, .int v3), (4, .int v4)]) dX8_findWorst_156 hf rfl rfl (by decide) (fun _ => rfl) rfl (fun v6_13 hf => ?_)
    refine a_goto C (q := 70) dX8_findWorst_159 (by decide) ?_
    have hf := Option.some.inj hf; subst hf
    exact a_sub [3, 4, 5, 6, 7, 1, 0] rfl (show At F G Q 8 70 [(0, .ref (G.2.1 39)), (1, .int v1), (2, .int v2), (3, .int v3), (4, .int v4), (5, .int v5_12), (6, .int v6_13)] [] (s, t_11) from hK)
  · refine a_aload_n C (i := 0) (q := 138) dX8_findWorst_137 rfl 1 rfl rfl ?_
    refine a_get8 C (q := 141) dX8_findWorst_138 1 (by decide) k_769 (by decide) rfl rfl rfl ?_
    refine a_iload C (i := 6) (q := 143) dX8_findWorst_141 rfl 7 rfl ?_
    refine a_iald C (q := 144) (g := t.1 41) dX8_findWorst_143 hf (by decide) rfl rfl (fun hf => ?_)
    refine a_iload_n C (i := 1) (q := 145) dX8_findWorst_144 rfl 2 rfl rfl ?_
    refine a_iadd C (q := 146) dX8_findWorst_145 rfl ?_
    refine a_goto C (q := 151) dX8_findWorst_146 (by decide) ?_
    refine a_iadd C (q := 152) dX8_findWorst_151 rfl ?_
    refine a_iastN C (q := 153) (mk := (fun z => (s, z))) dX8_findWorst_152 hf (by decide) rfl rfl cellE_R1 rfl (fun t_14 hf => ?_)
    refine a_iincN C (i := 5) (k := 6) (q := 156) (lv' := fun z => [(5, .int z), (7, .int w0), (0, .ref (G.2.1 39)), (1, .int v1), (2, .int v2), (3, .int v3), (4, .int v4), (6, .int v6)]) dX8_findWorst_153 hf rfl rfl (by decide) (fun _ => rfl) rfl (fun v5_15 hf => ?_)
    refine a_iincN C (i := 6) (k := 7) (q := 159) (lv' := fun z => [(6, .int z), (5, .int v5_15), (7, .int w0), (0, .ref (G.2.1 39)), (1, .int v1), (2, .int v2), (3, .int v3), (4, .int v4)]) dX8_findWorst_156 hf rfl rfl (by decide) (fun _ => rfl) rfl (fun v6_16 hf => ?_)
    refine a_goto C (q := 70) dX8_findWorst_159 (by decide) ?_
    have hf := Option.some.inj hf; subst hf
    exact a_sub [3, 4, 5, 6, 7, 1, 0] rfl (show At F G Q 8 70 [(0, .ref (G.2.1 39)), (1, .int v1), (2, .int v2), (3, .int v3), (4, .int v4), (5, .int v5_15), (6, .int v6_16)] [] (s, t_14) from hK)
def lb_X8_findWorst_70 (n : Nat) (v1 : Int32) (v2 : Int32) (v3 : Int32) (v4 : Int32) (v5 : Int32) (v6 : Int32) (t : SR) : Option ((SR) ⊕ (Int32 × Int32 × SR)) :=
  (if (t.1 39 4) ≤ v6 then some (.inl t) else b1 (f_X8_has v2 v6) (fun y_8 => (if y_8 = 0 then nm (v6 + 1) (fun v6_9 => some (.inr (v5, v6_9, t))) else ix v6 10 ((if (t.1 41 v6.toNatClampNeg) ≤ v1 then f_X8_findWorst_112_in70 n t v1 v2 v3 v4 v5 v6 (0 : Int32) else ix v6 10 (f_X8_findWorst_112_in70 n t v1 v2 v3 v4 v5 v6 ((t.1 41 v6.toNatClampNeg) - v1)))))))
set_option maxHeartbeats 4000000 in
theorem w_X8_findWorst_70 {F : FX} {G : GX} {Q : State → Prop} (C : Cx F G cX8_findWorst 8 RX8) (hR : Rm F 4) (n : Nat) (s : MM) (v1 : Int32) (v2 : Int32) (v3 : Int32) (v4 : Int32)  (v5 : Int32) (v6 : Int32) (t : SR) (res : (SR) ⊕ (Int32 × Int32 × SR)) (hf : lb_X8_findWorst_70 n v1 v2 v3 v4 v5 v6 t = some res) (hK : Sum.elim (E_X8_findWorst_70 F G Q s v1 v2 v3 v4) (fun q => match q with | (v5, v6, t) => P_X8_findWorst_70 F G Q s v1 v2 v3 v4 v5 v6 t) res) : P_X8_findWorst_70 F G Q s v1 v2 v3 v4 v5 v6 t := by
  unfold lb_X8_findWorst_70 at hf
  show At F G Q 8 70 [(0, .ref (G.2.1 39)), (1, .int v1), (2, .int v2), (3, .int v3), (4, .int v4), (5, .int v5), (6, .int v6)] [] (s, t)
  refine a_iload C (i := 6) (q := 72) dX8_findWorst_70 rfl 6 rfl ?_
  refine a_aload_n C (i := 0) (q := 73) dX8_findWorst_72 rfl 0 rfl rfl ?_
  refine a_get8 C (q := 76) dX8_findWorst_73 4 (by decide) k_772 (by decide) rfl rfl rfl ?_
  refine a_icmp_ge C (tgt := 162) (q := 79) dX8_findWorst_76 hf (by decide) rfl (fun hf => ?_) (fun hf => ?_)
  · have hf := Option.some.inj hf; subst hf
    exact a_sub [0, 1, 2, 3, 4] rfl (show At F G Q 8 162 [(0, .ref (G.2.1 39)), (1, .int v1), (2, .int v2), (3, .int v3), (4, .int v4)] [] (s, t) from hK)
  · refine a_iload_n C (i := 2) (q := 80) dX8_findWorst_79 rfl 2 rfl rfl ?_
    refine a_iload C (i := 6) (q := 82) dX8_findWorst_80 rfl 6 rfl ?_
    refine a_callSI C (q := 85) (As := [.int v2, .int v6]) (st := []) dX8_findWorst_82 hR (by decide) hf (fun b => b) (fun _ => (s, t)) cw_X8_has (fun b hb => c_X8_has _ G s t v2 v6 b hb) rfl rfl (Nat.le_of_ble_eq_true rfl) k_912 rfl (fun y_8 hf => ?_)
    refine a_if_eq C (tgt := 156) (q := 88) dX8_findWorst_85 hf (by decide) rfl (fun hf => ?_) (fun hf => ?_)
    · refine a_iincN C (i := 6) (k := 6) (q := 159) (lv' := fun z => [(6, .int z), (0, .ref (G.2.1 39)), (1, .int v1), (2, .int v2), (3, .int v3), (4, .int v4), (5, .int v5)]) dX8_findWorst_156 hf rfl rfl (by decide) (fun _ => rfl) rfl (fun v6_9 hf => ?_)
      refine a_goto C (q := 70) dX8_findWorst_159 (by decide) ?_
      have hf := Option.some.inj hf; subst hf
      exact a_sub [1, 2, 3, 4, 5, 6, 0] rfl (show At F G Q 8 70 [(0, .ref (G.2.1 39)), (1, .int v1), (2, .int v2), (3, .int v3), (4, .int v4), (5, .int v5), (6, .int v6_9)] [] (s, t) from hK)
    · refine a_aload_n C (i := 0) (q := 89) dX8_findWorst_88 rfl 0 rfl rfl ?_
      refine a_get8 C (q := 92) dX8_findWorst_89 1 (by decide) k_769 (by decide) rfl rfl rfl ?_
      refine a_iload C (i := 6) (q := 94) dX8_findWorst_92 rfl 6 rfl ?_
      refine a_iald C (q := 95) (g := t.1 41) dX8_findWorst_94 hf (by decide) rfl rfl (fun hf => ?_)
      refine a_iload_n C (i := 1) (q := 96) dX8_findWorst_95 rfl 1 rfl rfl ?_
      refine a_icmp_le C (tgt := 111) (q := 99) dX8_findWorst_96 hf (by decide) rfl (fun hf => ?_) (fun hf => ?_)
      · refine a_iconst C (v := (0 : Int32)) (q := 112) dX8_findWorst_111 rfl (by decide) ?_
        exact a_sub [0, 1, 2, 3, 4, 5, 6] rfl (w_X8_findWorst_112_in70 C hR n s t v1 v2 v3 v4 v5 v6 (0 : Int32) res hf hK)
      · refine a_aload_n C (i := 0) (q := 100) dX8_findWorst_99 rfl 0 rfl rfl ?_
        refine a_get8 C (q := 103) dX8_findWorst_100 1 (by decide) k_769 (by decide) rfl rfl rfl ?_
        refine a_iload C (i := 6) (q := 105) dX8_findWorst_103 rfl 6 rfl ?_
        refine a_iald C (q := 106) (g := t.1 41) dX8_findWorst_105 hf (by decide) rfl rfl (fun hf => ?_)
        refine a_iload_n C (i := 1) (q := 107) dX8_findWorst_106 rfl 1 rfl rfl ?_
        refine a_isub C (q := 108) dX8_findWorst_107 rfl ?_
        refine a_goto C (q := 112) dX8_findWorst_108 (by decide) ?_
        exact a_sub [0, 1, 2, 3, 4, 5, 6] rfl (w_X8_findWorst_112_in70 C hR n s t v1 v2 v3 v4 v5 v6 ((t.1 41 v6.toNatClampNeg) - v1) res hf hK)
theorem lp_X8_findWorst_70 {F : FX} {G : GX} {Q : State → Prop} (C : Cx F G cX8_findWorst 8 RX8) (hR : Rm F 4) (n : Nat) (s : MM) (v1 : Int32) (v2 : Int32) (v3 : Int32) (v4 : Int32)  (v5 : Int32) (v6 : Int32) (t : SR) (x : SR) (h : it3 (lb_X8_findWorst_70 n v1 v2 v3 v4) n v5 v6 t = some x) (hE : E_X8_findWorst_70 F G Q s v1 v2 v3 v4 x) : At F G Q 8 70 [(0, .ref (G.2.1 39)), (1, .int v1), (2, .int v2), (3, .int v3), (4, .int v4), (5, .int v5), (6, .int v6)] [] (s, t) :=
  it3_ind (b := (lb_X8_findWorst_70 n v1 v2 v3 v4)) (E := E_X8_findWorst_70 F G Q s v1 v2 v3 v4) (P := fun v5 v6 t => P_X8_findWorst_70 F G Q s v1 v2 v3 v4 v5 v6 t) (fun v5 v6 t res hf hK => w_X8_findWorst_70 C hR n s v1 v2 v3 v4   v5 v6 t res hf hK) n v5 v6 t x h hE
def lb_X8_findWorst_26 (n : Nat) (v1 : Int32) (v2 : Int32) (v3 : Int32) (v4 : Int32) (t : SR) : Option ((SR) ⊕ (Int32 × SR)) :=
  (if ((1 : Int32) <<< (v3 &&& 31)) ≤ v4 then some (.inl t) else b1 (it2 (lb_X8_findWorst_37 n v1 v2 v3 v4) n (0 : Int32) t) (fun t_7 => b1 (it3 (lb_X8_findWorst_70 n v1 v2 v3 v4) n (0 : Int32) (0 : Int32) t_7) (fun t_17 => b1 (f_X8_findSquare n t_17) (fun y_18 => (if (lg_cmp (y_18.2 27) (0 : Int64)) < 0 then nm (srL y_18 27 (y_18.2 14)) (fun t_19 => nm (srL t_19 28 (t_19.2 15)) (fun t_20 => nm (v4 + 1) (fun v4_21 => some (.inr (v4_21, t_20))))) else b1 (f_X8_isNoMore ((y_18.2 14) - (y_18.2 27)) ((y_18.2 15) - (y_18.2 28))) (fun y_22 => (if y_22 = 0 then nm (srL y_18 27 (y_18.2 14)) (fun t_24 => nm (srL t_24 28 (t_24.2 15)) (fun t_25 => nm (v4 + 1) (fun v4_26 => some (.inr (v4_26, t_25))))) else nm (v4 + 1) (fun v4_23 => some (.inr (v4_23, y_18))))))))))
set_option maxHeartbeats 4000000 in
theorem w_X8_findWorst_26 {F : FX} {G : GX} {Q : State → Prop} (C : Cx F G cX8_findWorst 8 RX8) (hR : Rm F 4) (n : Nat) (s : MM) (v1 : Int32) (v2 : Int32) (v3 : Int32)  (v4 : Int32) (t : SR) (res : (SR) ⊕ (Int32 × SR)) (hf : lb_X8_findWorst_26 n v1 v2 v3 v4 t = some res) (hK : Sum.elim (E_X8_findWorst_26 F G Q s v1 v2 v3) (fun q => match q with | (v4, t) => P_X8_findWorst_26 F G Q s v1 v2 v3 v4 t) res) : P_X8_findWorst_26 F G Q s v1 v2 v3 v4 t := by
  unfold lb_X8_findWorst_26 at hf
  show At F G Q 8 26 [(0, .ref (G.2.1 39)), (1, .int v1), (2, .int v2), (3, .int v3), (4, .int v4)] [] (s, t)
  refine a_iload C (i := 4) (q := 28) dX8_findWorst_26 rfl 4 rfl ?_
  refine a_iconst C (v := (1 : Int32)) (q := 29) dX8_findWorst_28 rfl (by decide) ?_
  refine a_iload_n C (i := 3) (q := 30) dX8_findWorst_29 rfl 3 rfl rfl ?_
  refine a_ishl C (q := 31) dX8_findWorst_30 rfl ?_
  refine a_icmp_ge C (tgt := 221) (q := 34) dX8_findWorst_31 hf (by decide) rfl (fun hf => ?_) (fun hf => ?_)
  · have hf := Option.some.inj hf; subst hf
    exact a_sub [] rfl (show At F G Q 8 221 [] [] (s, t) from hK)
  · refine a_iconst C (v := (0 : Int32)) (q := 35) dX8_findWorst_34 rfl (by decide) ?_
    refine a_istore C (i := 5) (q := 37) (lv' := [(5, .int (0 : Int32)), (0, .ref (G.2.1 39)), (1, .int v1), (2, .int v2), (3, .int v3), (4, .int v4)]) dX8_findWorst_35 (by decide) rfl rfl ?_
    obtain ⟨t_7, h1, hf⟩ := b1_some hf
    refine a_sub [1, 2, 3, 4, 5, 0] rfl (lp_X8_findWorst_37 C hR n s v1 v2 v3 v4  (0 : Int32) t _ h1 ?_)
    show At F G Q 8 64 [(0, .ref (G.2.1 39)), (1, .int v1), (2, .int v2), (3, .int v3), (4, .int v4)] [] (s, t_7)
    refine a_iconst C (v := (0 : Int32)) (q := 65) dX8_findWorst_64 rfl (by decide) ?_
    refine a_istore C (i := 5) (q := 67) (lv' := [(5, .int (0 : Int32)), (0, .ref (G.2.1 39)), (1, .int v1), (2, .int v2), (3, .int v3), (4, .int v4)]) dX8_findWorst_65 (by decide) rfl rfl ?_
    refine a_iconst C (v := (0 : Int32)) (q := 68) dX8_findWorst_67 rfl (by decide) ?_
    refine a_istore C (i := 6) (q := 70) (lv' := [(6, .int (0 : Int32)), (5, .int (0 : Int32)), (0, .ref (G.2.1 39)), (1, .int v1), (2, .int v2), (3, .int v3), (4, .int v4)]) dX8_findWorst_68 (by decide) rfl rfl ?_
    obtain ⟨t_17, h1, hf⟩ := b1_some hf
    refine a_sub [2, 3, 4, 5, 6, 1, 0] rfl (lp_X8_findWorst_70 C hR n s v1 v2 v3 v4  (0 : Int32) (0 : Int32) t_7 _ h1 ?_)
    show At F G Q 8 162 [(0, .ref (G.2.1 39)), (1, .int v1), (2, .int v2), (3, .int v3), (4, .int v4)] [] (s, t_17)
    refine a_aload_n C (i := 0) (q := 163) dX8_findWorst_162 rfl 0 rfl rfl ?_
    refine a_callVV C (q := 166) (As := []) (st := []) dX8_findWorst_163 hR (by decide) hf (fun b => (s, b)) (by decide) rfl rfl cw_X8_findSquare (fun b hb => c_X8_findSquare _ G n s t_17 b hb) rfl rfl (Nat.le_of_ble_eq_true rfl) k_936 rfl (fun y_18 hf => ?_)
    refine a_aload_n C (i := 0) (q := 167) dX8_findWorst_166 rfl 0 rfl rfl ?_
    refine a_get8 C (q := 170) dX8_findWorst_167 27 (by decide) k_795 (by decide) rfl rfl rfl ?_
    refine a_lconst C (v := (0 : Int64)) (q := 171) dX8_findWorst_170 rfl (by decide) ?_
    refine a_lcmp C (q := 172) dX8_findWorst_171 rfl ?_
    refine a_if_lt C (tgt := 199) (q := 175) dX8_findWorst_172 hf (by decide) rfl (fun hf => ?_) (fun hf => ?_)
    · refine a_aload_n C (i := 0) (q := 200) dX8_findWorst_199 rfl 0 rfl rfl ?_
      refine a_aload_n C (i := 0) (q := 201) dX8_findWorst_200 rfl 0 rfl rfl ?_
      refine a_get8 C (q := 204) dX8_findWorst_201 14 (by decide) k_782 (by decide) rfl rfl rfl ?_
      refine a_put8N C (q := 207) (mk := (fun z => (s, z))) dX8_findWorst_204 hf 27 (by decide) k_795 (by decide) rfl rfl cellE_L rfl rfl rfl (Nat.le_of_ble_eq_true rfl) rfl (fun t_19 hf => ?_)
      refine a_aload_n C (i := 0) (q := 208) dX8_findWorst_207 rfl 0 rfl rfl ?_
      refine a_aload_n C (i := 0) (q := 209) dX8_findWorst_208 rfl 0 rfl rfl ?_
      refine a_get8 C (q := 212) dX8_findWorst_209 15 (by decide) k_783 (by decide) rfl rfl rfl ?_
      refine a_put8N C (q := 215) (mk := (fun z => (s, z))) dX8_findWorst_212 hf 28 (by decide) k_796 (by decide) rfl rfl cellE_L rfl rfl rfl (Nat.le_of_ble_eq_true rfl) rfl (fun t_20 hf => ?_)
      refine a_iincN C (i := 4) (k := 4) (q := 218) (lv' := fun z => [(4, .int z), (0, .ref (G.2.1 39)), (1, .int v1), (2, .int v2), (3, .int v3)]) dX8_findWorst_215 hf rfl rfl (by decide) (fun _ => rfl) rfl (fun v4_21 hf => ?_)
      refine a_goto C (q := 26) dX8_findWorst_218 (by decide) ?_
      have hf := Option.some.inj hf; subst hf
      exact a_sub [1, 2, 3, 4, 0] rfl (show At F G Q 8 26 [(0, .ref (G.2.1 39)), (1, .int v1), (2, .int v2), (3, .int v3), (4, .int v4_21)] [] (s, t_20) from hK)
    · refine a_aload_n C (i := 0) (q := 176) dX8_findWorst_175 rfl 0 rfl rfl ?_
      refine a_get8 C (q := 179) dX8_findWorst_176 14 (by decide) k_782 (by decide) rfl rfl rfl ?_
      refine a_aload_n C (i := 0) (q := 180) dX8_findWorst_179 rfl 0 rfl rfl ?_
      refine a_get8 C (q := 183) dX8_findWorst_180 27 (by decide) k_795 (by decide) rfl rfl rfl ?_
      refine a_lsub C (q := 184) dX8_findWorst_183 rfl ?_
      refine a_aload_n C (i := 0) (q := 185) dX8_findWorst_184 rfl 0 rfl rfl ?_
      refine a_get8 C (q := 188) dX8_findWorst_185 15 (by decide) k_783 (by decide) rfl rfl rfl ?_
      refine a_aload_n C (i := 0) (q := 189) dX8_findWorst_188 rfl 0 rfl rfl ?_
      refine a_get8 C (q := 192) dX8_findWorst_189 28 (by decide) k_796 (by decide) rfl rfl rfl ?_
      refine a_lsub C (q := 193) dX8_findWorst_192 rfl ?_
      refine a_callSI C (q := 196) (As := [.long ((y_18.2 14) - (y_18.2 27)), .long ((y_18.2 15) - (y_18.2 28))]) (st := []) dX8_findWorst_193 hR (by decide) hf (fun b => b) (fun _ => (s, y_18)) cw_X8_isNoMore (fun b hb => c_X8_isNoMore _ G s y_18 ((y_18.2 14) - (y_18.2 27)) ((y_18.2 15) - (y_18.2 28)) b hb) rfl rfl (Nat.le_of_ble_eq_true rfl) k_945 rfl (fun y_22 hf => ?_)
      refine a_if_ne C (tgt := 215) (q := 199) dX8_findWorst_196 hf (by decide) rfl (fun hf => ?_) (fun hf => ?_)
      · refine a_iincN C (i := 4) (k := 4) (q := 218) (lv' := fun z => [(4, .int z), (0, .ref (G.2.1 39)), (1, .int v1), (2, .int v2), (3, .int v3)]) dX8_findWorst_215 hf rfl rfl (by decide) (fun _ => rfl) rfl (fun v4_23 hf => ?_)
        refine a_goto C (q := 26) dX8_findWorst_218 (by decide) ?_
        have hf := Option.some.inj hf; subst hf
        exact a_sub [1, 2, 3, 4, 0] rfl (show At F G Q 8 26 [(0, .ref (G.2.1 39)), (1, .int v1), (2, .int v2), (3, .int v3), (4, .int v4_23)] [] (s, y_18) from hK)
      · refine a_aload_n C (i := 0) (q := 200) dX8_findWorst_199 rfl 0 rfl rfl ?_
        refine a_aload_n C (i := 0) (q := 201) dX8_findWorst_200 rfl 0 rfl rfl ?_
        refine a_get8 C (q := 204) dX8_findWorst_201 14 (by decide) k_782 (by decide) rfl rfl rfl ?_
        refine a_put8N C (q := 207) (mk := (fun z => (s, z))) dX8_findWorst_204 hf 27 (by decide) k_795 (by decide) rfl rfl cellE_L rfl rfl rfl (Nat.le_of_ble_eq_true rfl) rfl (fun t_24 hf => ?_)
        refine a_aload_n C (i := 0) (q := 208) dX8_findWorst_207 rfl 0 rfl rfl ?_
        refine a_aload_n C (i := 0) (q := 209) dX8_findWorst_208 rfl 0 rfl rfl ?_
        refine a_get8 C (q := 212) dX8_findWorst_209 15 (by decide) k_783 (by decide) rfl rfl rfl ?_
        refine a_put8N C (q := 215) (mk := (fun z => (s, z))) dX8_findWorst_212 hf 28 (by decide) k_796 (by decide) rfl rfl cellE_L rfl rfl rfl (Nat.le_of_ble_eq_true rfl) rfl (fun t_25 hf => ?_)
        refine a_iincN C (i := 4) (k := 4) (q := 218) (lv' := fun z => [(4, .int z), (0, .ref (G.2.1 39)), (1, .int v1), (2, .int v2), (3, .int v3)]) dX8_findWorst_215 hf rfl rfl (by decide) (fun _ => rfl) rfl (fun v4_26 hf => ?_)
        refine a_goto C (q := 26) dX8_findWorst_218 (by decide) ?_
        have hf := Option.some.inj hf; subst hf
        exact a_sub [1, 2, 3, 4, 0] rfl (show At F G Q 8 26 [(0, .ref (G.2.1 39)), (1, .int v1), (2, .int v2), (3, .int v3), (4, .int v4_26)] [] (s, t_25) from hK)
theorem lp_X8_findWorst_26 {F : FX} {G : GX} {Q : State → Prop} (C : Cx F G cX8_findWorst 8 RX8) (hR : Rm F 4) (n : Nat) (s : MM) (v1 : Int32) (v2 : Int32) (v3 : Int32)  (v4 : Int32) (t : SR) (x : SR) (h : it2 (lb_X8_findWorst_26 n v1 v2 v3) n v4 t = some x) (hE : E_X8_findWorst_26 F G Q s v1 v2 v3 x) : At F G Q 8 26 [(0, .ref (G.2.1 39)), (1, .int v1), (2, .int v2), (3, .int v3), (4, .int v4)] [] (s, t) :=
  it2_ind (b := (lb_X8_findWorst_26 n v1 v2 v3)) (E := E_X8_findWorst_26 F G Q s v1 v2 v3) (P := fun v4 t => P_X8_findWorst_26 F G Q s v1 v2 v3 v4 t) (fun v4 t res hf hK => w_X8_findWorst_26 C hR n s v1 v2 v3   v4 t res hf hK) n v4 t x h hE
def f_X8_findWorst (n : Nat) (t : SR) (v1 : Int32) : Option (SR) :=
  nm (srL t 27 (-1 : Int64)) (fun t_1 => nm (srL t_1 28 (0 : Int64)) (fun t_2 => b1 (f_X8_count n t_2 (4 : Int32)) (fun y_3 => b1 (f_X8_ones n y_3) (fun y_4 => b1 (it2 (lb_X8_findWorst_26 n v1 y_3 y_4) n (0 : Int32) t_2) (fun t_27 => some t_27)))))
set_option maxHeartbeats 4000000 in
theorem w_X8_findWorst_e {F : FX} {G : GX} {Q : State → Prop} (C : Cx F G cX8_findWorst 8 RX8) (hR : Rm F 4) (n : Nat) (s : MM) (t : SR)  (v1 : Int32) (res : SR) (hf : f_X8_findWorst n t v1 = some res) (hK : RetV F G Q cX8_findWorst 8 (s, res)) : At F G Q 8 0 [(0, .ref (G.2.1 39)), (1, .int v1)] [] (s, t) := by
  unfold f_X8_findWorst at hf
  refine a_aload_n C (i := 0) (q := 1) dX8_findWorst_0 rfl 0 rfl rfl ?_
  refine a_ldc2 C (v := (-1 : Int64)) (q := 4) dX8_findWorst_1 rfl k_1098 ?_
  refine a_put8N C (q := 7) (mk := (fun z => (s, z))) dX8_findWorst_4 hf 27 (by decide) k_795 (by decide) rfl rfl cellE_L rfl rfl rfl (Nat.le_of_ble_eq_true rfl) rfl (fun t_1 hf => ?_)
  refine a_aload_n C (i := 0) (q := 8) dX8_findWorst_7 rfl 0 rfl rfl ?_
  refine a_lconst C (v := (0 : Int64)) (q := 9) dX8_findWorst_8 rfl (by decide) ?_
  refine a_put8N C (q := 12) (mk := (fun z => (s, z))) dX8_findWorst_9 hf 28 (by decide) k_796 (by decide) rfl rfl cellE_L rfl rfl rfl (Nat.le_of_ble_eq_true rfl) rfl (fun t_2 hf => ?_)
  refine a_aload_n C (i := 0) (q := 13) dX8_findWorst_12 rfl 0 rfl rfl ?_
  refine a_iconst C (v := (4 : Int32)) (q := 14) dX8_findWorst_13 rfl (by decide) ?_
  refine a_callVI C (q := 17) (As := [.int (4 : Int32)]) (st := []) dX8_findWorst_14 hR (by decide) hf (fun b => b) (fun _ => (s, t_2)) (by decide) rfl rfl cw_X8_count (fun b hb => c_X8_count _ G n s t_2 (4 : Int32) b hb) rfl rfl (Nat.le_of_ble_eq_true rfl) k_1077 rfl (fun y_3 hf => ?_)
  refine a_istore_n C (i := 2) (q := 18) (lv' := [(2, .int y_3), (0, .ref (G.2.1 39)), (1, .int v1)]) dX8_findWorst_17 rfl (by decide) rfl rfl ?_
  refine a_iload_n C (i := 2) (q := 19) dX8_findWorst_18 rfl 0 rfl rfl ?_
  refine a_callSI C (q := 22) (As := [.int y_3]) (st := []) dX8_findWorst_19 hR (by decide) hf (fun b => b) (fun _ => (s, t_2)) cw_X8_ones (fun b hb => c_X8_ones _ G n s t_2 y_3 b hb) rfl rfl (Nat.le_of_ble_eq_true rfl) k_1050 rfl (fun y_4 hf => ?_)
  refine a_istore_n C (i := 3) (q := 23) (lv' := [(3, .int y_4), (2, .int y_3), (0, .ref (G.2.1 39)), (1, .int v1)]) dX8_findWorst_22 rfl (by decide) rfl rfl ?_
  refine a_iconst C (v := (0 : Int32)) (q := 24) dX8_findWorst_23 rfl (by decide) ?_
  refine a_istore C (i := 4) (q := 26) (lv' := [(4, .int (0 : Int32)), (3, .int y_4), (2, .int y_3), (0, .ref (G.2.1 39)), (1, .int v1)]) dX8_findWorst_24 (by decide) rfl rfl ?_
  obtain ⟨t_27, h1, hf⟩ := b1_some hf
  refine a_sub [3, 4, 2, 1, 0] rfl (lp_X8_findWorst_26 C hR n s v1 y_3 y_4  (0 : Int32) t_2 _ h1 ?_)
  show At F G Q 8 221 [] [] (s, t_27)
  have hf := Option.some.inj hf; subst hf
  exact (show RetV F G Q cX8_findWorst 8 (s, t_27) from hK) _ _ dX8_findWorst_221
theorem c_X8_findWorst (l : Launch) (G : GX) (n : Nat) (s : MM) (t : SR) (v1 : Int32) (res : SR) (hf : f_X8_findWorst n t v1 = some res) : MetC l G yX8_findWorst cX8_findWorst 8 none 4 (s, t) [.ref (G.2.1 39), .int v1] (PostV G (s, res)) :=
  m_V (by decide) (Nat.le_of_ble_eq_true rfl) (fun F Q C h1 h2 h3 hK => w_X8_findWorst_e C (Rm.of h1 h3) n s t v1 res hf hK)
theorem cw_X8_sure : CwV RX8 yX8_sure cX8_sure 2 1 (some .int) := ⟨k_1093, k_1091, k_1092, k_9, by decide +kernel, by decide⟩
def f_X8_sure (n : Nat) (t : SR) (v1 : Int32) : Option (Int32 × SR) :=
  b1 (f_X8_in v1.toInt64 (0 : Int64) (9 : Int64)) (fun y_1 => (if y_1 = 0 then some ((-1 : Int32), t) else b1 (f_X8_count n t (4 : Int32)) (fun y_2 => b1 (f_X8_ones n y_2) (fun y_3 => (if y_3 ≤ (8 : Int32) then b1 (f_X8_findWorst n t v1) (fun y_4 => b1 (f_X8_isNoMore ((y_4.2 27) - (((4 : Int64) * ((y_4.1 39 6).toInt64)) * ((y_4.1 39 6).toInt64))) (y_4.2 28)) (fun y_5 => (if y_5 = 0 then some ((0 : Int32), y_4) else some ((1 : Int32), y_4)))) else some ((-3 : Int32), t))))))
set_option maxHeartbeats 4000000 in
theorem w_X8_sure_e {F : FX} {G : GX} {Q : State → Prop} (C : Cx F G cX8_sure 2 RX8) (hR : Rm F 5) (n : Nat) (s : MM) (t : SR)  (v1 : Int32) (res : Int32 × SR) (hf : f_X8_sure n t v1 = some res) (hK : RetI F G Q cX8_sure 2 .int res.1 (s, res.2)) : At F G Q 2 0 [(0, .ref (G.2.1 39)), (1, .int v1)] [] (s, t) := by
  unfold f_X8_sure at hf
  refine a_iload_n C (i := 1) (q := 1) dX8_sure_0 rfl 1 rfl rfl ?_
  refine a_i2l C (q := 2) dX8_sure_1 rfl ?_
  refine a_lconst C (v := (0 : Int64)) (q := 3) dX8_sure_2 rfl (by decide) ?_
  refine a_ldc2 C (v := (9 : Int64)) (q := 6) dX8_sure_3 rfl k_1000 ?_
  refine a_callSI C (q := 9) (As := [.long v1.toInt64, .long (0 : Int64), .long (9 : Int64)]) (st := []) dX8_sure_6 hR (by decide) hf (fun b => b) (fun _ => (s, t)) cw_X8_in (fun b hb => c_X8_in _ G s t v1.toInt64 (0 : Int64) (9 : Int64) b hb) rfl rfl (Nat.le_of_ble_eq_true rfl) k_880 rfl (fun y_1 hf => ?_)
  refine a_if_ne C (tgt := 14) (q := 12) dX8_sure_9 hf (by decide) rfl (fun hf => ?_) (fun hf => ?_)
  · refine a_aload_n C (i := 0) (q := 15) dX8_sure_14 rfl 0 rfl rfl ?_
    refine a_iconst C (v := (4 : Int32)) (q := 16) dX8_sure_15 rfl (by decide) ?_
    refine a_callVI C (q := 19) (As := [.int (4 : Int32)]) (st := []) dX8_sure_16 hR (by decide) hf (fun b => b) (fun _ => (s, t)) (by decide) rfl rfl cw_X8_count (fun b hb => c_X8_count _ G n s t (4 : Int32) b hb) rfl rfl (Nat.le_of_ble_eq_true rfl) k_1077 rfl (fun y_2 hf => ?_)
    refine a_callSI C (q := 22) (As := [.int y_2]) (st := []) dX8_sure_19 hR (by decide) hf (fun b => b) (fun _ => (s, t)) cw_X8_ones (fun b hb => c_X8_ones _ G n s t y_2 b hb) rfl rfl (Nat.le_of_ble_eq_true rfl) k_1050 rfl (fun y_3 hf => ?_)
    refine a_bipush C (v := (8 : Int32)) (q := 24) dX8_sure_22 rfl (by decide) ?_
    refine a_icmp_le C (tgt := 30) (q := 27) dX8_sure_24 hf (by decide) rfl (fun hf => ?_) (fun hf => ?_)
    · refine a_aload_n C (i := 0) (q := 31) dX8_sure_30 rfl 0 rfl rfl ?_
      refine a_iload_n C (i := 1) (q := 32) dX8_sure_31 rfl 1 rfl rfl ?_
      refine a_callVV C (q := 35) (As := [.int v1]) (st := []) dX8_sure_32 hR (by decide) hf (fun b => (s, b)) (by decide) rfl rfl cw_X8_findWorst (fun b hb => c_X8_findWorst _ G n s t v1 b hb) rfl rfl (Nat.le_of_ble_eq_true rfl) k_1094 rfl (fun y_4 hf => ?_)
      refine a_aload_n C (i := 0) (q := 36) dX8_sure_35 rfl 0 rfl rfl ?_
      refine a_get8 C (q := 39) dX8_sure_36 27 (by decide) k_795 (by decide) rfl rfl rfl ?_
      refine a_ldc2 C (v := (4 : Int64)) (q := 42) dX8_sure_39 rfl k_944 ?_
      refine a_aload_n C (i := 0) (q := 43) dX8_sure_42 rfl 0 rfl rfl ?_
      refine a_get8 C (q := 46) dX8_sure_43 6 (by decide) k_774 (by decide) rfl rfl rfl ?_
      refine a_i2l C (q := 47) dX8_sure_46 rfl ?_
      refine a_lmul C (q := 48) dX8_sure_47 rfl ?_
      refine a_aload_n C (i := 0) (q := 49) dX8_sure_48 rfl 0 rfl rfl ?_
      refine a_get8 C (q := 52) dX8_sure_49 6 (by decide) k_774 (by decide) rfl rfl rfl ?_
      refine a_i2l C (q := 53) dX8_sure_52 rfl ?_
      refine a_lmul C (q := 54) dX8_sure_53 rfl ?_
      refine a_lsub C (q := 55) dX8_sure_54 rfl ?_
      refine a_aload_n C (i := 0) (q := 56) dX8_sure_55 rfl 0 rfl rfl ?_
      refine a_get8 C (q := 59) dX8_sure_56 28 (by decide) k_796 (by decide) rfl rfl rfl ?_
      refine a_callSI C (q := 62) (As := [.long ((y_4.2 27) - (((4 : Int64) * ((y_4.1 39 6).toInt64)) * ((y_4.1 39 6).toInt64))), .long (y_4.2 28)]) (st := []) dX8_sure_59 hR (by decide) hf (fun b => b) (fun _ => (s, y_4)) cw_X8_isNoMore (fun b hb => c_X8_isNoMore _ G s y_4 ((y_4.2 27) - (((4 : Int64) * ((y_4.1 39 6).toInt64)) * ((y_4.1 39 6).toInt64))) (y_4.2 28) b hb) rfl rfl (Nat.le_of_ble_eq_true rfl) k_945 rfl (fun y_5 hf => ?_)
      refine a_if_eq C (tgt := 69) (q := 65) dX8_sure_62 hf (by decide) rfl (fun hf => ?_) (fun hf => ?_)
      · refine a_iconst C (v := (0 : Int32)) (q := 70) dX8_sure_69 rfl (by decide) ?_
        have hf := Option.some.inj hf; subst hf
        exact (show RetI F G Q cX8_sure 2 .int (0 : Int32) (s, y_4) from hK) rfl _ _ dX8_sure_70
      · refine a_iconst C (v := (1 : Int32)) (q := 66) dX8_sure_65 rfl (by decide) ?_
        refine a_goto C (q := 70) dX8_sure_66 (by decide) ?_
        have hf := Option.some.inj hf; subst hf
        exact (show RetI F G Q cX8_sure 2 .int (1 : Int32) (s, y_4) from hK) rfl _ _ dX8_sure_70
    · refine a_bipush C (v := (-3 : Int32)) (q := 29) dX8_sure_27 rfl (by decide) ?_
      have hf := Option.some.inj hf; subst hf
      exact (show RetI F G Q cX8_sure 2 .int (-3 : Int32) (s, t) from hK) rfl _ _ dX8_sure_29
  · refine a_iconst C (v := (-1 : Int32)) (q := 13) dX8_sure_12 rfl (by decide) ?_
    have hf := Option.some.inj hf; subst hf
    exact (show RetI F G Q cX8_sure 2 .int (-1 : Int32) (s, t) from hK) rfl _ _ dX8_sure_13
theorem c_X8_sure (l : Launch) (G : GX) (n : Nat) (s : MM) (t : SR) (v1 : Int32) (res : Int32 × SR) (hf : f_X8_sure n t v1 = some res) : MetC l G yX8_sure cX8_sure 2 (some .int) 5 (s, t) [.ref (G.2.1 39), .int v1] (PostI G res.1 (s, res.2)) :=
  m_I (by decide) (Nat.le_of_ble_eq_true rfl) (fun F Q C h1 h2 h3 hK => w_X8_sure_e C (Rm.of h1 h3) n s t v1 res hf hK)
theorem cw_X8_worst : CwV RX8 yX8_worst cX8_worst 3 2 (some .int) := ⟨k_1102, k_1100, k_1101, k_9, by decide +kernel, by decide⟩
def f_X8_worst (n : Nat) (t : SR) (v1 : Int32) (v2 : Int32) : Option (Int32 × SR) :=
  b1 (f_X8_in v1.toInt64 (0 : Int64) (9 : Int64)) (fun y_1 => (if y_1 = 0 then some ((-100000001 : Int32), t) else b1 (f_X8_in v2.toInt64 (0 : Int64) (1 : Int64)) (fun y_2 => (if y_2 = 0 then some ((-100000001 : Int32), t) else b1 (f_X8_count n t (4 : Int32)) (fun y_3 => b1 (f_X8_ones n y_3) (fun y_4 => (if y_4 ≤ (8 : Int32) then b1 (f_X8_findWorst n t v1) (fun y_5 => (if v2 = 0 then some ((y_5.2 27).toInt32, y_5) else some ((y_5.2 28).toInt32, y_5))) else some ((-100000003 : Int32), t))))))))
set_option maxHeartbeats 4000000 in
theorem w_X8_worst_e {F : FX} {G : GX} {Q : State → Prop} (C : Cx F G cX8_worst 3 RX8) (hR : Rm F 5) (n : Nat) (s : MM) (t : SR)  (v1 : Int32) (v2 : Int32) (res : Int32 × SR) (hf : f_X8_worst n t v1 v2 = some res) (hK : RetI F G Q cX8_worst 3 .int res.1 (s, res.2)) : At F G Q 3 0 [(0, .ref (G.2.1 39)), (1, .int v1), (2, .int v2)] [] (s, t) := by
  unfold f_X8_worst at hf
  refine a_iload_n C (i := 1) (q := 1) dX8_worst_0 rfl 1 rfl rfl ?_
  refine a_i2l C (q := 2) dX8_worst_1 rfl ?_
  refine a_lconst C (v := (0 : Int64)) (q := 3) dX8_worst_2 rfl (by decide) ?_
  refine a_ldc2 C (v := (9 : Int64)) (q := 6) dX8_worst_3 rfl k_1000 ?_
  refine a_callSI C (q := 9) (As := [.long v1.toInt64, .long (0 : Int64), .long (9 : Int64)]) (st := []) dX8_worst_6 hR (by decide) hf (fun b => b) (fun _ => (s, t)) cw_X8_in (fun b hb => c_X8_in _ G s t v1.toInt64 (0 : Int64) (9 : Int64) b hb) rfl rfl (Nat.le_of_ble_eq_true rfl) k_880 rfl (fun y_1 hf => ?_)
  refine a_if_eq C (tgt := 22) (q := 12) dX8_worst_9 hf (by decide) rfl (fun hf => ?_) (fun hf => ?_)
  · refine a_ldc C (v := (-100000001 : Int32)) (q := 24) dX8_worst_22 rfl k_953 ?_
    have hf := Option.some.inj hf; subst hf
    exact (show RetI F G Q cX8_worst 3 .int (-100000001 : Int32) (s, t) from hK) rfl _ _ dX8_worst_24
  · refine a_iload_n C (i := 2) (q := 13) dX8_worst_12 rfl 2 rfl rfl ?_
    refine a_i2l C (q := 14) dX8_worst_13 rfl ?_
    refine a_lconst C (v := (0 : Int64)) (q := 15) dX8_worst_14 rfl (by decide) ?_
    refine a_lconst C (v := (1 : Int64)) (q := 16) dX8_worst_15 rfl (by decide) ?_
    refine a_callSI C (q := 19) (As := [.long v2.toInt64, .long (0 : Int64), .long (1 : Int64)]) (st := []) dX8_worst_16 hR (by decide) hf (fun b => b) (fun _ => (s, t)) cw_X8_in (fun b hb => c_X8_in _ G s t v2.toInt64 (0 : Int64) (1 : Int64) b hb) rfl rfl (Nat.le_of_ble_eq_true rfl) k_880 rfl (fun y_2 hf => ?_)
    refine a_if_ne C (tgt := 25) (q := 22) dX8_worst_19 hf (by decide) rfl (fun hf => ?_) (fun hf => ?_)
    · refine a_aload_n C (i := 0) (q := 26) dX8_worst_25 rfl 0 rfl rfl ?_
      refine a_iconst C (v := (4 : Int32)) (q := 27) dX8_worst_26 rfl (by decide) ?_
      refine a_callVI C (q := 30) (As := [.int (4 : Int32)]) (st := []) dX8_worst_27 hR (by decide) hf (fun b => b) (fun _ => (s, t)) (by decide) rfl rfl cw_X8_count (fun b hb => c_X8_count _ G n s t (4 : Int32) b hb) rfl rfl (Nat.le_of_ble_eq_true rfl) k_1077 rfl (fun y_3 hf => ?_)
      refine a_callSI C (q := 33) (As := [.int y_3]) (st := []) dX8_worst_30 hR (by decide) hf (fun b => b) (fun _ => (s, t)) cw_X8_ones (fun b hb => c_X8_ones _ G n s t y_3 b hb) rfl rfl (Nat.le_of_ble_eq_true rfl) k_1050 rfl (fun y_4 hf => ?_)
      refine a_bipush C (v := (8 : Int32)) (q := 35) dX8_worst_33 rfl (by decide) ?_
      refine a_icmp_le C (tgt := 42) (q := 38) dX8_worst_35 hf (by decide) rfl (fun hf => ?_) (fun hf => ?_)
      · refine a_aload_n C (i := 0) (q := 43) dX8_worst_42 rfl 0 rfl rfl ?_
        refine a_iload_n C (i := 1) (q := 44) dX8_worst_43 rfl 1 rfl rfl ?_
        refine a_callVV C (q := 47) (As := [.int v1]) (st := []) dX8_worst_44 hR (by decide) hf (fun b => (s, b)) (by decide) rfl rfl cw_X8_findWorst (fun b hb => c_X8_findWorst _ G n s t v1 b hb) rfl rfl (Nat.le_of_ble_eq_true rfl) k_1094 rfl (fun y_5 hf => ?_)
        refine a_iload_n C (i := 2) (q := 48) dX8_worst_47 rfl 2 rfl rfl ?_
        refine a_if_ne C (tgt := 58) (q := 51) dX8_worst_48 hf (by decide) rfl (fun hf => ?_) (fun hf => ?_)
        · refine a_aload_n C (i := 0) (q := 59) dX8_worst_58 rfl 0 rfl rfl ?_
          refine a_get8 C (q := 62) dX8_worst_59 28 (by decide) k_796 (by decide) rfl rfl rfl ?_
          refine a_l2i C (q := 63) dX8_worst_62 rfl ?_
          have hf := Option.some.inj hf; subst hf
          exact (show RetI F G Q cX8_worst 3 .int ((y_5.2 28).toInt32) (s, y_5) from hK) rfl _ _ dX8_worst_63
        · refine a_aload_n C (i := 0) (q := 52) dX8_worst_51 rfl 0 rfl rfl ?_
          refine a_get8 C (q := 55) dX8_worst_52 27 (by decide) k_795 (by decide) rfl rfl rfl ?_
          refine a_goto C (q := 62) dX8_worst_55 (by decide) ?_
          refine a_l2i C (q := 63) dX8_worst_62 rfl ?_
          have hf := Option.some.inj hf; subst hf
          exact (show RetI F G Q cX8_worst 3 .int ((y_5.2 27).toInt32) (s, y_5) from hK) rfl _ _ dX8_worst_63
      · refine a_ldcw C (v := (-100000003 : Int32)) (q := 41) dX8_worst_38 rfl k_1103 ?_
        have hf := Option.some.inj hf; subst hf
        exact (show RetI F G Q cX8_worst 3 .int (-100000003 : Int32) (s, t) from hK) rfl _ _ dX8_worst_41
    · refine a_ldc C (v := (-100000001 : Int32)) (q := 24) dX8_worst_22 rfl k_953 ?_
      have hf := Option.some.inj hf; subst hf
      exact (show RetI F G Q cX8_worst 3 .int (-100000001 : Int32) (s, t) from hK) rfl _ _ dX8_worst_24
theorem c_X8_worst (l : Launch) (G : GX) (n : Nat) (s : MM) (t : SR) (v1 : Int32) (v2 : Int32) (res : Int32 × SR) (hf : f_X8_worst n t v1 v2 = some res) : MetC l G yX8_worst cX8_worst 3 (some .int) 5 (s, t) [.ref (G.2.1 39), .int v1, .int v2] (PostI G res.1 (s, res.2)) :=
  m_I (by decide) (Nat.le_of_ble_eq_true rfl) (fun F Q C h1 h2 h3 hK => w_X8_worst_e C (Rm.of h1 h3) n s t v1 v2 res hf hK)
theorem cw_X8_carried : CwV RX8 yX8_carried cX8_carried 6 3 (some .int) := ⟨k_1111, k_1110, kp_46, k_9, by decide +kernel, by decide⟩
def f_X8_carried_311 (t : SR) (v1 : Int32) (w0 : Int32) : Option (Int32 × SR) :=
  nm (sr1 t 39 8 w0) (fun t_4 => (if v1 = (52 : Int32) then some (t_4.1 39 4, t_4) else (if v1 = (53 : Int32) then some (t_4.1 39 6, t_4) else (if v1 = (54 : Int32) then some (t_4.1 39 7, t_4) else some (t_4.1 39 8, t_4)))))
set_option maxHeartbeats 4000000 in
theorem w_X8_carried_311 {F : FX} {G : GX} {Q : State → Prop} (C : Cx F G cX8_carried 6 RX8) (hR : Rm F 2) (s : MM) (t : SR)  (v1 : Int32) (w0 : Int32) (res : Int32 × SR) (hf : f_X8_carried_311 t v1 w0 = some res) (hK : RetI F G Q cX8_carried 6 .int res.1 (s, res.2)) : At F G Q 6 311 [(0, .ref (G.2.1 39)), (1, .int v1)] [.int w0, .ref (G.2.1 39)] (s, t) := by
  unfold f_X8_carried_311 at hf
  refine a_put8N C (q := 314) (mk := (fun z => (s, z))) dX8_carried_311 hf 8 (by decide) k_776 (by decide) rfl rfl cellE_R1 rfl rfl rfl (Nat.le_of_ble_eq_true rfl) rfl (fun t_4 hf => ?_)
  refine a_iload_n C (i := 1) (q := 315) dX8_carried_314 rfl 1 rfl rfl ?_
  refine a_bipush C (v := (52 : Int32)) (q := 317) dX8_carried_315 rfl (by decide) ?_
  refine a_icmp_ne C (tgt := 327) (q := 320) dX8_carried_317 hf (by decide) rfl (fun hf => ?_) (fun hf => ?_)
  · refine a_iload_n C (i := 1) (q := 328) dX8_carried_327 rfl 1 rfl rfl ?_
    refine a_bipush C (v := (53 : Int32)) (q := 330) dX8_carried_328 rfl (by decide) ?_
    refine a_icmp_ne C (tgt := 340) (q := 333) dX8_carried_330 hf (by decide) rfl (fun hf => ?_) (fun hf => ?_)
    · refine a_iload_n C (i := 1) (q := 341) dX8_carried_340 rfl 1 rfl rfl ?_
      refine a_bipush C (v := (54 : Int32)) (q := 343) dX8_carried_341 rfl (by decide) ?_
      refine a_icmp_ne C (tgt := 353) (q := 346) dX8_carried_343 hf (by decide) rfl (fun hf => ?_) (fun hf => ?_)
      · refine a_aload_n C (i := 0) (q := 354) dX8_carried_353 rfl 0 rfl rfl ?_
        refine a_get8 C (q := 357) dX8_carried_354 8 (by decide) k_776 (by decide) rfl rfl rfl ?_
        have hf := Option.some.inj hf; subst hf
        exact (show RetI F G Q cX8_carried 6 .int (t_4.1 39 8) (s, t_4) from hK) rfl _ _ dX8_carried_357
      · refine a_aload_n C (i := 0) (q := 347) dX8_carried_346 rfl 0 rfl rfl ?_
        refine a_get8 C (q := 350) dX8_carried_347 7 (by decide) k_775 (by decide) rfl rfl rfl ?_
        refine a_goto C (q := 357) dX8_carried_350 (by decide) ?_
        have hf := Option.some.inj hf; subst hf
        exact (show RetI F G Q cX8_carried 6 .int (t_4.1 39 7) (s, t_4) from hK) rfl _ _ dX8_carried_357
    · refine a_aload_n C (i := 0) (q := 334) dX8_carried_333 rfl 0 rfl rfl ?_
      refine a_get8 C (q := 337) dX8_carried_334 6 (by decide) k_774 (by decide) rfl rfl rfl ?_
      refine a_goto C (q := 357) dX8_carried_337 (by decide) ?_
      have hf := Option.some.inj hf; subst hf
      exact (show RetI F G Q cX8_carried 6 .int (t_4.1 39 6) (s, t_4) from hK) rfl _ _ dX8_carried_357
  · refine a_aload_n C (i := 0) (q := 321) dX8_carried_320 rfl 0 rfl rfl ?_
    refine a_get8 C (q := 324) dX8_carried_321 4 (by decide) k_772 (by decide) rfl rfl rfl ?_
    refine a_goto C (q := 357) dX8_carried_324 (by decide) ?_
    have hf := Option.some.inj hf; subst hf
    exact (show RetI F G Q cX8_carried 6 .int (t_4.1 39 4) (s, t_4) from hK) rfl _ _ dX8_carried_357
def f_X8_carried_289 (t : SR) (v1 : Int32) (v2 : Int32) (v3 : Int32) (w0 : Int32) : Option (Int32 × SR) :=
  nm (sr1 t 39 7 w0) (fun t_3 => (if v3 = 0 then f_X8_carried_311 t_3 v1 (t_3.1 39 8) else (if v1 = (55 : Int32) then f_X8_carried_311 t_3 v1 v2 else f_X8_carried_311 t_3 v1 (t_3.1 39 8))))
set_option maxHeartbeats 4000000 in
theorem w_X8_carried_289 {F : FX} {G : GX} {Q : State → Prop} (C : Cx F G cX8_carried 6 RX8) (hR : Rm F 2) (s : MM) (t : SR)  (v1 : Int32) (v2 : Int32) (v3 : Int32) (w0 : Int32) (res : Int32 × SR) (hf : f_X8_carried_289 t v1 v2 v3 w0 = some res) (hK : RetI F G Q cX8_carried 6 .int res.1 (s, res.2)) : At F G Q 6 289 [(0, .ref (G.2.1 39)), (1, .int v1), (2, .int v2), (3, .int v3)] [.int w0, .ref (G.2.1 39)] (s, t) := by
  unfold f_X8_carried_289 at hf
  refine a_put8N C (q := 292) (mk := (fun z => (s, z))) dX8_carried_289 hf 7 (by decide) k_775 (by decide) rfl rfl cellE_R1 rfl rfl rfl (Nat.le_of_ble_eq_true rfl) rfl (fun t_3 hf => ?_)
  refine a_aload_n C (i := 0) (q := 293) dX8_carried_292 rfl 0 rfl rfl ?_
  refine a_iload_n C (i := 3) (q := 294) dX8_carried_293 rfl 3 rfl rfl ?_
  refine a_if_eq C (tgt := 307) (q := 297) dX8_carried_294 hf (by decide) rfl (fun hf => ?_) (fun hf => ?_)
  · refine a_aload_n C (i := 0) (q := 308) dX8_carried_307 rfl 0 rfl rfl ?_
    refine a_get8 C (q := 311) dX8_carried_308 8 (by decide) k_776 (by decide) rfl rfl rfl ?_
    exact a_sub [0, 1] rfl (w_X8_carried_311 C hR s t_3 v1 (t_3.1 39 8) res hf hK)
  · refine a_iload_n C (i := 1) (q := 298) dX8_carried_297 rfl 1 rfl rfl ?_
    refine a_bipush C (v := (55 : Int32)) (q := 300) dX8_carried_298 rfl (by decide) ?_
    refine a_icmp_ne C (tgt := 307) (q := 303) dX8_carried_300 hf (by decide) rfl (fun hf => ?_) (fun hf => ?_)
    · refine a_aload_n C (i := 0) (q := 308) dX8_carried_307 rfl 0 rfl rfl ?_
      refine a_get8 C (q := 311) dX8_carried_308 8 (by decide) k_776 (by decide) rfl rfl rfl ?_
      exact a_sub [0, 1] rfl (w_X8_carried_311 C hR s t_3 v1 (t_3.1 39 8) res hf hK)
    · refine a_iload_n C (i := 2) (q := 304) dX8_carried_303 rfl 2 rfl rfl ?_
      refine a_goto C (q := 311) dX8_carried_304 (by decide) ?_
      exact a_sub [0, 1] rfl (w_X8_carried_311 C hR s t_3 v1 v2 res hf hK)
def f_X8_carried_267 (t : SR) (v1 : Int32) (v2 : Int32) (v3 : Int32) (w0 : Int32) : Option (Int32 × SR) :=
  nm (sr1 t 39 6 w0) (fun t_2 => (if v3 = 0 then f_X8_carried_289 t_2 v1 v2 v3 (t_2.1 39 7) else (if v1 = (54 : Int32) then f_X8_carried_289 t_2 v1 v2 v3 v2 else f_X8_carried_289 t_2 v1 v2 v3 (t_2.1 39 7))))
set_option maxHeartbeats 4000000 in
theorem w_X8_carried_267 {F : FX} {G : GX} {Q : State → Prop} (C : Cx F G cX8_carried 6 RX8) (hR : Rm F 2) (s : MM) (t : SR)  (v1 : Int32) (v2 : Int32) (v3 : Int32) (w0 : Int32) (res : Int32 × SR) (hf : f_X8_carried_267 t v1 v2 v3 w0 = some res) (hK : RetI F G Q cX8_carried 6 .int res.1 (s, res.2)) : At F G Q 6 267 [(0, .ref (G.2.1 39)), (1, .int v1), (2, .int v2), (3, .int v3)] [.int w0, .ref (G.2.1 39)] (s, t) := by
  unfold f_X8_carried_267 at hf
  refine a_put8N C (q := 270) (mk := (fun z => (s, z))) dX8_carried_267 hf 6 (by decide) k_774 (by decide) rfl rfl cellE_R1 rfl rfl rfl (Nat.le_of_ble_eq_true rfl) rfl (fun t_2 hf => ?_)
  refine a_aload_n C (i := 0) (q := 271) dX8_carried_270 rfl 0 rfl rfl ?_
  refine a_iload_n C (i := 3) (q := 272) dX8_carried_271 rfl 3 rfl rfl ?_
  refine a_if_eq C (tgt := 285) (q := 275) dX8_carried_272 hf (by decide) rfl (fun hf => ?_) (fun hf => ?_)
  · refine a_aload_n C (i := 0) (q := 286) dX8_carried_285 rfl 0 rfl rfl ?_
    refine a_get8 C (q := 289) dX8_carried_286 7 (by decide) k_775 (by decide) rfl rfl rfl ?_
    exact a_sub [0, 1, 2, 3] rfl (w_X8_carried_289 C hR s t_2 v1 v2 v3 (t_2.1 39 7) res hf hK)
  · refine a_iload_n C (i := 1) (q := 276) dX8_carried_275 rfl 1 rfl rfl ?_
    refine a_bipush C (v := (54 : Int32)) (q := 278) dX8_carried_276 rfl (by decide) ?_
    refine a_icmp_ne C (tgt := 285) (q := 281) dX8_carried_278 hf (by decide) rfl (fun hf => ?_) (fun hf => ?_)
    · refine a_aload_n C (i := 0) (q := 286) dX8_carried_285 rfl 0 rfl rfl ?_
      refine a_get8 C (q := 289) dX8_carried_286 7 (by decide) k_775 (by decide) rfl rfl rfl ?_
      exact a_sub [0, 1, 2, 3] rfl (w_X8_carried_289 C hR s t_2 v1 v2 v3 (t_2.1 39 7) res hf hK)
    · refine a_iload_n C (i := 2) (q := 282) dX8_carried_281 rfl 2 rfl rfl ?_
      refine a_goto C (q := 289) dX8_carried_282 (by decide) ?_
      exact a_sub [0, 1, 2, 3] rfl (w_X8_carried_289 C hR s t_2 v1 v2 v3 v2 res hf hK)
def f_X8_carried_245 (t : SR) (v1 : Int32) (v2 : Int32) (v3 : Int32) (w0 : Int32) : Option (Int32 × SR) :=
  nm (sr1 t 39 4 w0) (fun t_1 => (if v3 = 0 then f_X8_carried_267 t_1 v1 v2 v3 (t_1.1 39 6) else (if v1 = (53 : Int32) then f_X8_carried_267 t_1 v1 v2 v3 v2 else f_X8_carried_267 t_1 v1 v2 v3 (t_1.1 39 6))))
set_option maxHeartbeats 4000000 in
theorem w_X8_carried_245 {F : FX} {G : GX} {Q : State → Prop} (C : Cx F G cX8_carried 6 RX8) (hR : Rm F 2) (s : MM) (t : SR)  (v1 : Int32) (v2 : Int32) (v3 : Int32) (w0 : Int32) (res : Int32 × SR) (hf : f_X8_carried_245 t v1 v2 v3 w0 = some res) (hK : RetI F G Q cX8_carried 6 .int res.1 (s, res.2)) : At F G Q 6 245 [(0, .ref (G.2.1 39)), (1, .int v1), (2, .int v2), (3, .int v3)] [.int w0, .ref (G.2.1 39)] (s, t) := by
  unfold f_X8_carried_245 at hf
  refine a_put8N C (q := 248) (mk := (fun z => (s, z))) dX8_carried_245 hf 4 (by decide) k_772 (by decide) rfl rfl cellE_R1 rfl rfl rfl (Nat.le_of_ble_eq_true rfl) rfl (fun t_1 hf => ?_)
  refine a_aload_n C (i := 0) (q := 249) dX8_carried_248 rfl 0 rfl rfl ?_
  refine a_iload_n C (i := 3) (q := 250) dX8_carried_249 rfl 3 rfl rfl ?_
  refine a_if_eq C (tgt := 263) (q := 253) dX8_carried_250 hf (by decide) rfl (fun hf => ?_) (fun hf => ?_)
  · refine a_aload_n C (i := 0) (q := 264) dX8_carried_263 rfl 0 rfl rfl ?_
    refine a_get8 C (q := 267) dX8_carried_264 6 (by decide) k_774 (by decide) rfl rfl rfl ?_
    exact a_sub [0, 1, 2, 3] rfl (w_X8_carried_267 C hR s t_1 v1 v2 v3 (t_1.1 39 6) res hf hK)
  · refine a_iload_n C (i := 1) (q := 254) dX8_carried_253 rfl 1 rfl rfl ?_
    refine a_bipush C (v := (53 : Int32)) (q := 256) dX8_carried_254 rfl (by decide) ?_
    refine a_icmp_ne C (tgt := 263) (q := 259) dX8_carried_256 hf (by decide) rfl (fun hf => ?_) (fun hf => ?_)
    · refine a_aload_n C (i := 0) (q := 264) dX8_carried_263 rfl 0 rfl rfl ?_
      refine a_get8 C (q := 267) dX8_carried_264 6 (by decide) k_774 (by decide) rfl rfl rfl ?_
      exact a_sub [0, 1, 2, 3] rfl (w_X8_carried_267 C hR s t_1 v1 v2 v3 (t_1.1 39 6) res hf hK)
    · refine a_iload_n C (i := 2) (q := 260) dX8_carried_259 rfl 2 rfl rfl ?_
      refine a_goto C (q := 267) dX8_carried_260 (by decide) ?_
      exact a_sub [0, 1, 2, 3] rfl (w_X8_carried_267 C hR s t_1 v1 v2 v3 v2 res hf hK)
def f_X8_carried_128 (t : SR) (v4 : Int32) (v5 : Int32) (w0 : Int32) (w1 : Int32) : Option (Int32 × SR) :=
  ix w1 10 (nm (sr1 t 43 w1.toNatClampNeg w0) (fun t_12 => (if v5 = 0 then ix v4 10 (some (t_12.1 40 v4.toNatClampNeg, t_12)) else (if v5 = (1 : Int32) then ix v4 10 (some (t_12.1 41 v4.toNatClampNeg, t_12)) else (if v5 = (2 : Int32) then ix v4 10 (some (t_12.1 42 v4.toNatClampNeg, t_12)) else ix v4 10 (some (t_12.1 43 v4.toNatClampNeg, t_12)))))))
set_option maxHeartbeats 4000000 in
theorem w_X8_carried_128 {F : FX} {G : GX} {Q : State → Prop} (C : Cx F G cX8_carried 6 RX8) (hR : Rm F 2) (s : MM) (t : SR)  (v4 : Int32) (v5 : Int32) (w0 : Int32) (w1 : Int32) (res : Int32 × SR) (hf : f_X8_carried_128 t v4 v5 w0 w1 = some res) (hK : RetI F G Q cX8_carried 6 .int res.1 (s, res.2)) : At F G Q 6 128 [(0, .ref (G.2.1 39)), (4, .int v4), (5, .int v5)] [.int w0, .int w1, .ref (G.2.1 43)] (s, t) := by
  unfold f_X8_carried_128 at hf
  refine a_iastN C (q := 129) (mk := (fun z => (s, z))) dX8_carried_128 hf (by decide) rfl rfl cellE_R1 rfl (fun t_12 hf => ?_)
  refine a_iload C (i := 5) (q := 131) dX8_carried_129 rfl 2 rfl ?_
  refine a_if_ne C (tgt := 144) (q := 134) dX8_carried_131 hf (by decide) rfl (fun hf => ?_) (fun hf => ?_)
  · refine a_iload C (i := 5) (q := 146) dX8_carried_144 rfl 2 rfl ?_
    refine a_iconst C (v := (1 : Int32)) (q := 147) dX8_carried_146 rfl (by decide) ?_
    refine a_icmp_ne C (tgt := 160) (q := 150) dX8_carried_147 hf (by decide) rfl (fun hf => ?_) (fun hf => ?_)
    · refine a_iload C (i := 5) (q := 162) dX8_carried_160 rfl 2 rfl ?_
      refine a_iconst C (v := (2 : Int32)) (q := 163) dX8_carried_162 rfl (by decide) ?_
      refine a_icmp_ne C (tgt := 176) (q := 166) dX8_carried_163 hf (by decide) rfl (fun hf => ?_) (fun hf => ?_)
      · refine a_aload_n C (i := 0) (q := 177) dX8_carried_176 rfl 0 rfl rfl ?_
        refine a_get8 C (q := 180) dX8_carried_177 3 (by decide) k_771 (by decide) rfl rfl rfl ?_
        refine a_iload C (i := 4) (q := 182) dX8_carried_180 rfl 1 rfl ?_
        refine a_iald C (q := 183) (g := t_12.1 43) dX8_carried_182 hf (by decide) rfl rfl (fun hf => ?_)
        have hf := Option.some.inj hf; subst hf
        exact (show RetI F G Q cX8_carried 6 .int (t_12.1 43 v4.toNatClampNeg) (s, t_12) from hK) rfl _ _ dX8_carried_183
      · refine a_aload_n C (i := 0) (q := 167) dX8_carried_166 rfl 0 rfl rfl ?_
        refine a_get8 C (q := 170) dX8_carried_167 2 (by decide) k_770 (by decide) rfl rfl rfl ?_
        refine a_iload C (i := 4) (q := 172) dX8_carried_170 rfl 1 rfl ?_
        refine a_iald C (q := 173) (g := t_12.1 42) dX8_carried_172 hf (by decide) rfl rfl (fun hf => ?_)
        refine a_goto C (q := 183) dX8_carried_173 (by decide) ?_
        have hf := Option.some.inj hf; subst hf
        exact (show RetI F G Q cX8_carried 6 .int (t_12.1 42 v4.toNatClampNeg) (s, t_12) from hK) rfl _ _ dX8_carried_183
    · refine a_aload_n C (i := 0) (q := 151) dX8_carried_150 rfl 0 rfl rfl ?_
      refine a_get8 C (q := 154) dX8_carried_151 1 (by decide) k_769 (by decide) rfl rfl rfl ?_
      refine a_iload C (i := 4) (q := 156) dX8_carried_154 rfl 1 rfl ?_
      refine a_iald C (q := 157) (g := t_12.1 41) dX8_carried_156 hf (by decide) rfl rfl (fun hf => ?_)
      refine a_goto C (q := 183) dX8_carried_157 (by decide) ?_
      have hf := Option.some.inj hf; subst hf
      exact (show RetI F G Q cX8_carried 6 .int (t_12.1 41 v4.toNatClampNeg) (s, t_12) from hK) rfl _ _ dX8_carried_183
  · refine a_aload_n C (i := 0) (q := 135) dX8_carried_134 rfl 0 rfl rfl ?_
    refine a_get8 C (q := 138) dX8_carried_135 0 (by decide) k_768 (by decide) rfl rfl rfl ?_
    refine a_iload C (i := 4) (q := 140) dX8_carried_138 rfl 1 rfl ?_
    refine a_iald C (q := 141) (g := t_12.1 40) dX8_carried_140 hf (by decide) rfl rfl (fun hf => ?_)
    refine a_goto C (q := 183) dX8_carried_141 (by decide) ?_
    have hf := Option.some.inj hf; subst hf
    exact (show RetI F G Q cX8_carried 6 .int (t_12.1 40 v4.toNatClampNeg) (s, t_12) from hK) rfl _ _ dX8_carried_183
def f_X8_carried_100 (t : SR) (v2 : Int32) (v3 : Int32) (v4 : Int32) (v5 : Int32) (w0 : Int32) (w1 : Int32) : Option (Int32 × SR) :=
  ix w1 10 (nm (sr1 t 42 w1.toNatClampNeg w0) (fun t_11 => (if v3 = 0 then ix v4 10 (f_X8_carried_128 t_11 v4 v5 (t_11.1 43 v4.toNatClampNeg) v4) else (if v5 = (3 : Int32) then f_X8_carried_128 t_11 v4 v5 v2 v4 else ix v4 10 (f_X8_carried_128 t_11 v4 v5 (t_11.1 43 v4.toNatClampNeg) v4)))))
set_option maxHeartbeats 4000000 in
theorem w_X8_carried_100 {F : FX} {G : GX} {Q : State → Prop} (C : Cx F G cX8_carried 6 RX8) (hR : Rm F 2) (s : MM) (t : SR)  (v2 : Int32) (v3 : Int32) (v4 : Int32) (v5 : Int32) (w0 : Int32) (w1 : Int32) (res : Int32 × SR) (hf : f_X8_carried_100 t v2 v3 v4 v5 w0 w1 = some res) (hK : RetI F G Q cX8_carried 6 .int res.1 (s, res.2)) : At F G Q 6 100 [(0, .ref (G.2.1 39)), (2, .int v2), (3, .int v3), (4, .int v4), (5, .int v5)] [.int w0, .int w1, .ref (G.2.1 42)] (s, t) := by
  unfold f_X8_carried_100 at hf
  refine a_iastN C (q := 101) (mk := (fun z => (s, z))) dX8_carried_100 hf (by decide) rfl rfl cellE_R1 rfl (fun t_11 hf => ?_)
  refine a_aload_n C (i := 0) (q := 102) dX8_carried_101 rfl 0 rfl rfl ?_
  refine a_get8 C (q := 105) dX8_carried_102 3 (by decide) k_771 (by decide) rfl rfl rfl ?_
  refine a_iload C (i := 4) (q := 107) dX8_carried_105 rfl 3 rfl ?_
  refine a_iload_n C (i := 3) (q := 108) dX8_carried_107 rfl 2 rfl rfl ?_
  refine a_if_eq C (tgt := 121) (q := 111) dX8_carried_108 hf (by decide) rfl (fun hf => ?_) (fun hf => ?_)
  · refine a_aload_n C (i := 0) (q := 122) dX8_carried_121 rfl 0 rfl rfl ?_
    refine a_get8 C (q := 125) dX8_carried_122 3 (by decide) k_771 (by decide) rfl rfl rfl ?_
    refine a_iload C (i := 4) (q := 127) dX8_carried_125 rfl 3 rfl ?_
    refine a_iald C (q := 128) (g := t_11.1 43) dX8_carried_127 hf (by decide) rfl rfl (fun hf => ?_)
    exact a_sub [0, 3, 4] rfl (w_X8_carried_128 C hR s t_11 v4 v5 (t_11.1 43 v4.toNatClampNeg) v4 res hf hK)
  · refine a_iload C (i := 5) (q := 113) dX8_carried_111 rfl 4 rfl ?_
    refine a_iconst C (v := (3 : Int32)) (q := 114) dX8_carried_113 rfl (by decide) ?_
    refine a_icmp_ne C (tgt := 121) (q := 117) dX8_carried_114 hf (by decide) rfl (fun hf => ?_) (fun hf => ?_)
    · refine a_aload_n C (i := 0) (q := 122) dX8_carried_121 rfl 0 rfl rfl ?_
      refine a_get8 C (q := 125) dX8_carried_122 3 (by decide) k_771 (by decide) rfl rfl rfl ?_
      refine a_iload C (i := 4) (q := 127) dX8_carried_125 rfl 3 rfl ?_
      refine a_iald C (q := 128) (g := t_11.1 43) dX8_carried_127 hf (by decide) rfl rfl (fun hf => ?_)
      exact a_sub [0, 3, 4] rfl (w_X8_carried_128 C hR s t_11 v4 v5 (t_11.1 43 v4.toNatClampNeg) v4 res hf hK)
    · refine a_iload_n C (i := 2) (q := 118) dX8_carried_117 rfl 1 rfl rfl ?_
      refine a_goto C (q := 128) dX8_carried_118 (by decide) ?_
      exact a_sub [0, 3, 4] rfl (w_X8_carried_128 C hR s t_11 v4 v5 v2 v4 res hf hK)
def f_X8_carried_72 (t : SR) (v2 : Int32) (v3 : Int32) (v4 : Int32) (v5 : Int32) (w0 : Int32) (w1 : Int32) : Option (Int32 × SR) :=
  ix w1 10 (nm (sr1 t 41 w1.toNatClampNeg w0) (fun t_10 => (if v3 = 0 then ix v4 10 (f_X8_carried_100 t_10 v2 v3 v4 v5 (t_10.1 42 v4.toNatClampNeg) v4) else (if v5 = (2 : Int32) then f_X8_carried_100 t_10 v2 v3 v4 v5 v2 v4 else ix v4 10 (f_X8_carried_100 t_10 v2 v3 v4 v5 (t_10.1 42 v4.toNatClampNeg) v4)))))
set_option maxHeartbeats 4000000 in
theorem w_X8_carried_72 {F : FX} {G : GX} {Q : State → Prop} (C : Cx F G cX8_carried 6 RX8) (hR : Rm F 2) (s : MM) (t : SR)  (v2 : Int32) (v3 : Int32) (v4 : Int32) (v5 : Int32) (w0 : Int32) (w1 : Int32) (res : Int32 × SR) (hf : f_X8_carried_72 t v2 v3 v4 v5 w0 w1 = some res) (hK : RetI F G Q cX8_carried 6 .int res.1 (s, res.2)) : At F G Q 6 72 [(0, .ref (G.2.1 39)), (2, .int v2), (3, .int v3), (4, .int v4), (5, .int v5)] [.int w0, .int w1, .ref (G.2.1 41)] (s, t) := by
  unfold f_X8_carried_72 at hf
  refine a_iastN C (q := 73) (mk := (fun z => (s, z))) dX8_carried_72 hf (by decide) rfl rfl cellE_R1 rfl (fun t_10 hf => ?_)
  refine a_aload_n C (i := 0) (q := 74) dX8_carried_73 rfl 0 rfl rfl ?_
  refine a_get8 C (q := 77) dX8_carried_74 2 (by decide) k_770 (by decide) rfl rfl rfl ?_
  refine a_iload C (i := 4) (q := 79) dX8_carried_77 rfl 3 rfl ?_
  refine a_iload_n C (i := 3) (q := 80) dX8_carried_79 rfl 2 rfl rfl ?_
  refine a_if_eq C (tgt := 93) (q := 83) dX8_carried_80 hf (by decide) rfl (fun hf => ?_) (fun hf => ?_)
  · refine a_aload_n C (i := 0) (q := 94) dX8_carried_93 rfl 0 rfl rfl ?_
    refine a_get8 C (q := 97) dX8_carried_94 2 (by decide) k_770 (by decide) rfl rfl rfl ?_
    refine a_iload C (i := 4) (q := 99) dX8_carried_97 rfl 3 rfl ?_
    refine a_iald C (q := 100) (g := t_10.1 42) dX8_carried_99 hf (by decide) rfl rfl (fun hf => ?_)
    exact a_sub [0, 1, 2, 3, 4] rfl (w_X8_carried_100 C hR s t_10 v2 v3 v4 v5 (t_10.1 42 v4.toNatClampNeg) v4 res hf hK)
  · refine a_iload C (i := 5) (q := 85) dX8_carried_83 rfl 4 rfl ?_
    refine a_iconst C (v := (2 : Int32)) (q := 86) dX8_carried_85 rfl (by decide) ?_
    refine a_icmp_ne C (tgt := 93) (q := 89) dX8_carried_86 hf (by decide) rfl (fun hf => ?_) (fun hf => ?_)
    · refine a_aload_n C (i := 0) (q := 94) dX8_carried_93 rfl 0 rfl rfl ?_
      refine a_get8 C (q := 97) dX8_carried_94 2 (by decide) k_770 (by decide) rfl rfl rfl ?_
      refine a_iload C (i := 4) (q := 99) dX8_carried_97 rfl 3 rfl ?_
      refine a_iald C (q := 100) (g := t_10.1 42) dX8_carried_99 hf (by decide) rfl rfl (fun hf => ?_)
      exact a_sub [0, 1, 2, 3, 4] rfl (w_X8_carried_100 C hR s t_10 v2 v3 v4 v5 (t_10.1 42 v4.toNatClampNeg) v4 res hf hK)
    · refine a_iload_n C (i := 2) (q := 90) dX8_carried_89 rfl 1 rfl rfl ?_
      refine a_goto C (q := 100) dX8_carried_90 (by decide) ?_
      exact a_sub [0, 1, 2, 3, 4] rfl (w_X8_carried_100 C hR s t_10 v2 v3 v4 v5 v2 v4 res hf hK)
def f_X8_carried_44 (t : SR) (v2 : Int32) (v3 : Int32) (v4 : Int32) (v5 : Int32) (w0 : Int32) (w1 : Int32) : Option (Int32 × SR) :=
  ix w1 10 (nm (sr1 t 40 w1.toNatClampNeg w0) (fun t_9 => (if v3 = 0 then ix v4 10 (f_X8_carried_72 t_9 v2 v3 v4 v5 (t_9.1 41 v4.toNatClampNeg) v4) else (if v5 = (1 : Int32) then f_X8_carried_72 t_9 v2 v3 v4 v5 v2 v4 else ix v4 10 (f_X8_carried_72 t_9 v2 v3 v4 v5 (t_9.1 41 v4.toNatClampNeg) v4)))))
set_option maxHeartbeats 4000000 in
theorem w_X8_carried_44 {F : FX} {G : GX} {Q : State → Prop} (C : Cx F G cX8_carried 6 RX8) (hR : Rm F 2) (s : MM) (t : SR)  (v2 : Int32) (v3 : Int32) (v4 : Int32) (v5 : Int32) (w0 : Int32) (w1 : Int32) (res : Int32 × SR) (hf : f_X8_carried_44 t v2 v3 v4 v5 w0 w1 = some res) (hK : RetI F G Q cX8_carried 6 .int res.1 (s, res.2)) : At F G Q 6 44 [(0, .ref (G.2.1 39)), (2, .int v2), (3, .int v3), (4, .int v4), (5, .int v5)] [.int w0, .int w1, .ref (G.2.1 40)] (s, t) := by
  unfold f_X8_carried_44 at hf
  refine a_iastN C (q := 45) (mk := (fun z => (s, z))) dX8_carried_44 hf (by decide) rfl rfl cellE_R1 rfl (fun t_9 hf => ?_)
  refine a_aload_n C (i := 0) (q := 46) dX8_carried_45 rfl 0 rfl rfl ?_
  refine a_get8 C (q := 49) dX8_carried_46 1 (by decide) k_769 (by decide) rfl rfl rfl ?_
  refine a_iload C (i := 4) (q := 51) dX8_carried_49 rfl 3 rfl ?_
  refine a_iload_n C (i := 3) (q := 52) dX8_carried_51 rfl 2 rfl rfl ?_
  refine a_if_eq C (tgt := 65) (q := 55) dX8_carried_52 hf (by decide) rfl (fun hf => ?_) (fun hf => ?_)
  · refine a_aload_n C (i := 0) (q := 66) dX8_carried_65 rfl 0 rfl rfl ?_
    refine a_get8 C (q := 69) dX8_carried_66 1 (by decide) k_769 (by decide) rfl rfl rfl ?_
    refine a_iload C (i := 4) (q := 71) dX8_carried_69 rfl 3 rfl ?_
    refine a_iald C (q := 72) (g := t_9.1 41) dX8_carried_71 hf (by decide) rfl rfl (fun hf => ?_)
    exact a_sub [0, 1, 2, 3, 4] rfl (w_X8_carried_72 C hR s t_9 v2 v3 v4 v5 (t_9.1 41 v4.toNatClampNeg) v4 res hf hK)
  · refine a_iload C (i := 5) (q := 57) dX8_carried_55 rfl 4 rfl ?_
    refine a_iconst C (v := (1 : Int32)) (q := 58) dX8_carried_57 rfl (by decide) ?_
    refine a_icmp_ne C (tgt := 65) (q := 61) dX8_carried_58 hf (by decide) rfl (fun hf => ?_) (fun hf => ?_)
    · refine a_aload_n C (i := 0) (q := 66) dX8_carried_65 rfl 0 rfl rfl ?_
      refine a_get8 C (q := 69) dX8_carried_66 1 (by decide) k_769 (by decide) rfl rfl rfl ?_
      refine a_iload C (i := 4) (q := 71) dX8_carried_69 rfl 3 rfl ?_
      refine a_iald C (q := 72) (g := t_9.1 41) dX8_carried_71 hf (by decide) rfl rfl (fun hf => ?_)
      exact a_sub [0, 1, 2, 3, 4] rfl (w_X8_carried_72 C hR s t_9 v2 v3 v4 v5 (t_9.1 41 v4.toNatClampNeg) v4 res hf hK)
    · refine a_iload_n C (i := 2) (q := 62) dX8_carried_61 rfl 1 rfl rfl ?_
      refine a_goto C (q := 72) dX8_carried_62 (by decide) ?_
      exact a_sub [0, 1, 2, 3, 4] rfl (w_X8_carried_72 C hR s t_9 v2 v3 v4 v5 v2 v4 res hf hK)
def f_X8_carried (t : SR) (v1 : Int32) (v2 : Int32) (v3 : Int32) : Option (Int32 × SR) :=
  (if (40 : Int32) ≤ v1 then (if (52 : Int32) ≤ v1 then (if v3 = 0 then f_X8_carried_245 t v1 v2 v3 (t.1 39 4) else (if v1 = (52 : Int32) then f_X8_carried_245 t v1 v2 v3 v2 else f_X8_carried_245 t v1 v2 v3 (t.1 39 4))) else (if v3 = 0 then ix (v1 - (40 : Int32)) 12 (ix (v1 - (40 : Int32)) 12 (nm (sr1 t 44 ((v1 - (40 : Int32)).toNatClampNeg) (t.1 44 ((v1 - (40 : Int32)).toNatClampNeg))) (fun t_5 => ix (v1 - (40 : Int32)) 12 (some (t_5.1 44 ((v1 - (40 : Int32)).toNatClampNeg), t_5))))) else ix (v1 - (40 : Int32)) 12 (nm (sr1 t 44 ((v1 - (40 : Int32)).toNatClampNeg) v2) (fun t_6 => ix (v1 - (40 : Int32)) 12 (some (t_6.1 44 ((v1 - (40 : Int32)).toNatClampNeg), t_6)))))) else nm (v1 - v1 / (10 : Int32) * (10 : Int32)) (fun v4_7 => nm (v1 / (10 : Int32)) (fun v5_8 => (if v3 = 0 then ix v4_7 10 (f_X8_carried_44 t v2 v3 v4_7 v5_8 (t.1 40 v4_7.toNatClampNeg) v4_7) else (if v5_8 = 0 then f_X8_carried_44 t v2 v3 v4_7 v5_8 v2 v4_7 else ix v4_7 10 (f_X8_carried_44 t v2 v3 v4_7 v5_8 (t.1 40 v4_7.toNatClampNeg) v4_7))))))
set_option maxHeartbeats 4000000 in
theorem w_X8_carried_e {F : FX} {G : GX} {Q : State → Prop} (C : Cx F G cX8_carried 6 RX8) (hR : Rm F 2) (s : MM) (t : SR)  (v1 : Int32) (v2 : Int32) (v3 : Int32) (res : Int32 × SR) (hf : f_X8_carried t v1 v2 v3 = some res) (hK : RetI F G Q cX8_carried 6 .int res.1 (s, res.2)) : At F G Q 6 0 [(0, .ref (G.2.1 39)), (1, .int v1), (2, .int v2), (3, .int v3)] [] (s, t) := by
  unfold f_X8_carried at hf
  refine a_iload_n C (i := 1) (q := 1) dX8_carried_0 rfl 1 rfl rfl ?_
  refine a_bipush C (v := (40 : Int32)) (q := 3) dX8_carried_1 rfl (by decide) ?_
  refine a_icmp_ge C (tgt := 184) (q := 6) dX8_carried_3 hf (by decide) rfl (fun hf => ?_) (fun hf => ?_)
  · refine a_iload_n C (i := 1) (q := 185) dX8_carried_184 rfl 1 rfl rfl ?_
    refine a_bipush C (v := (52 : Int32)) (q := 187) dX8_carried_185 rfl (by decide) ?_
    refine a_icmp_ge C (tgt := 226) (q := 190) dX8_carried_187 hf (by decide) rfl (fun hf => ?_) (fun hf => ?_)
    · refine a_aload_n C (i := 0) (q := 227) dX8_carried_226 rfl 0 rfl rfl ?_
      refine a_iload_n C (i := 3) (q := 228) dX8_carried_227 rfl 3 rfl rfl ?_
      refine a_if_eq C (tgt := 241) (q := 231) dX8_carried_228 hf (by decide) rfl (fun hf => ?_) (fun hf => ?_)
      · refine a_aload_n C (i := 0) (q := 242) dX8_carried_241 rfl 0 rfl rfl ?_
        refine a_get8 C (q := 245) dX8_carried_242 4 (by decide) k_772 (by decide) rfl rfl rfl ?_
        exact a_sub [0, 1, 2, 3] rfl (w_X8_carried_245 C hR s t v1 v2 v3 (t.1 39 4) res hf hK)
      · refine a_iload_n C (i := 1) (q := 232) dX8_carried_231 rfl 1 rfl rfl ?_
        refine a_bipush C (v := (52 : Int32)) (q := 234) dX8_carried_232 rfl (by decide) ?_
        refine a_icmp_ne C (tgt := 241) (q := 237) dX8_carried_234 hf (by decide) rfl (fun hf => ?_) (fun hf => ?_)
        · refine a_aload_n C (i := 0) (q := 242) dX8_carried_241 rfl 0 rfl rfl ?_
          refine a_get8 C (q := 245) dX8_carried_242 4 (by decide) k_772 (by decide) rfl rfl rfl ?_
          exact a_sub [0, 1, 2, 3] rfl (w_X8_carried_245 C hR s t v1 v2 v3 (t.1 39 4) res hf hK)
        · refine a_iload_n C (i := 2) (q := 238) dX8_carried_237 rfl 2 rfl rfl ?_
          refine a_goto C (q := 245) dX8_carried_238 (by decide) ?_
          exact a_sub [0, 1, 2, 3] rfl (w_X8_carried_245 C hR s t v1 v2 v3 v2 res hf hK)
    · refine a_aload_n C (i := 0) (q := 191) dX8_carried_190 rfl 0 rfl rfl ?_
      refine a_get8 C (q := 194) dX8_carried_191 5 (by decide) k_773 (by decide) rfl rfl rfl ?_
      refine a_iload_n C (i := 1) (q := 195) dX8_carried_194 rfl 1 rfl rfl ?_
      refine a_bipush C (v := (40 : Int32)) (q := 197) dX8_carried_195 rfl (by decide) ?_
      refine a_isub C (q := 198) dX8_carried_197 rfl ?_
      refine a_iload_n C (i := 3) (q := 199) dX8_carried_198 rfl 3 rfl rfl ?_
      refine a_if_eq C (tgt := 206) (q := 202) dX8_carried_199 hf (by decide) rfl (fun hf => ?_) (fun hf => ?_)
      · refine a_aload_n C (i := 0) (q := 207) dX8_carried_206 rfl 0 rfl rfl ?_
        refine a_get8 C (q := 210) dX8_carried_207 5 (by decide) k_773 (by decide) rfl rfl rfl ?_
        refine a_iload_n C (i := 1) (q := 211) dX8_carried_210 rfl 1 rfl rfl ?_
        refine a_bipush C (v := (40 : Int32)) (q := 213) dX8_carried_211 rfl (by decide) ?_
        refine a_isub C (q := 214) dX8_carried_213 rfl ?_
        refine a_iald C (q := 215) (g := t.1 44) dX8_carried_214 hf (by decide) rfl rfl (fun hf => ?_)
        refine a_iastN C (q := 216) (mk := (fun z => (s, z))) dX8_carried_215 hf (by decide) rfl rfl cellE_R1 rfl (fun t_5 hf => ?_)
        refine a_aload_n C (i := 0) (q := 217) dX8_carried_216 rfl 0 rfl rfl ?_
        refine a_get8 C (q := 220) dX8_carried_217 5 (by decide) k_773 (by decide) rfl rfl rfl ?_
        refine a_iload_n C (i := 1) (q := 221) dX8_carried_220 rfl 1 rfl rfl ?_
        refine a_bipush C (v := (40 : Int32)) (q := 223) dX8_carried_221 rfl (by decide) ?_
        refine a_isub C (q := 224) dX8_carried_223 rfl ?_
        refine a_iald C (q := 225) (g := t_5.1 44) dX8_carried_224 hf (by decide) rfl rfl (fun hf => ?_)
        have hf := Option.some.inj hf; subst hf
        exact (show RetI F G Q cX8_carried 6 .int (t_5.1 44 ((v1 - (40 : Int32)).toNatClampNeg)) (s, t_5) from hK) rfl _ _ dX8_carried_225
      · refine a_iload_n C (i := 2) (q := 203) dX8_carried_202 rfl 2 rfl rfl ?_
        refine a_goto C (q := 215) dX8_carried_203 (by decide) ?_
        refine a_iastN C (q := 216) (mk := (fun z => (s, z))) dX8_carried_215 hf (by decide) rfl rfl cellE_R1 rfl (fun t_6 hf => ?_)
        refine a_aload_n C (i := 0) (q := 217) dX8_carried_216 rfl 0 rfl rfl ?_
        refine a_get8 C (q := 220) dX8_carried_217 5 (by decide) k_773 (by decide) rfl rfl rfl ?_
        refine a_iload_n C (i := 1) (q := 221) dX8_carried_220 rfl 1 rfl rfl ?_
        refine a_bipush C (v := (40 : Int32)) (q := 223) dX8_carried_221 rfl (by decide) ?_
        refine a_isub C (q := 224) dX8_carried_223 rfl ?_
        refine a_iald C (q := 225) (g := t_6.1 44) dX8_carried_224 hf (by decide) rfl rfl (fun hf => ?_)
        have hf := Option.some.inj hf; subst hf
        exact (show RetI F G Q cX8_carried 6 .int (t_6.1 44 ((v1 - (40 : Int32)).toNatClampNeg)) (s, t_6) from hK) rfl _ _ dX8_carried_225
  · refine a_iload_n C (i := 1) (q := 7) dX8_carried_6 rfl 1 rfl rfl ?_
    refine a_bipush C (v := (10 : Int32)) (q := 9) dX8_carried_7 rfl (by decide) ?_
    refine a_irem C (q := 10) dX8_carried_9 rfl (by decide) ?_
    refine a_istoreN C (i := 4) (q := 12) (lv' := fun z => [(4, .int z), (0, .ref (G.2.1 39)), (1, .int v1), (2, .int v2), (3, .int v3)]) dX8_carried_10 hf (by decide) (fun _ => rfl) rfl (fun v4_7 hf => ?_)
    refine a_iload_n C (i := 1) (q := 13) dX8_carried_12 rfl 2 rfl rfl ?_
    refine a_bipush C (v := (10 : Int32)) (q := 15) dX8_carried_13 rfl (by decide) ?_
    refine a_idiv C (q := 16) dX8_carried_15 rfl (by decide) ?_
    refine a_istoreN C (i := 5) (q := 18) (lv' := fun z => [(5, .int z), (4, .int v4_7), (0, .ref (G.2.1 39)), (1, .int v1), (2, .int v2), (3, .int v3)]) dX8_carried_16 hf (by decide) (fun _ => rfl) rfl (fun v5_8 hf => ?_)
    refine a_aload_n C (i := 0) (q := 19) dX8_carried_18 rfl 2 rfl rfl ?_
    refine a_get8 C (q := 22) dX8_carried_19 0 (by decide) k_768 (by decide) rfl rfl rfl ?_
    refine a_iload C (i := 4) (q := 24) dX8_carried_22 rfl 1 rfl ?_
    refine a_iload_n C (i := 3) (q := 25) dX8_carried_24 rfl 5 rfl rfl ?_
    refine a_if_eq C (tgt := 37) (q := 28) dX8_carried_25 hf (by decide) rfl (fun hf => ?_) (fun hf => ?_)
    · refine a_aload_n C (i := 0) (q := 38) dX8_carried_37 rfl 2 rfl rfl ?_
      refine a_get8 C (q := 41) dX8_carried_38 0 (by decide) k_768 (by decide) rfl rfl rfl ?_
      refine a_iload C (i := 4) (q := 43) dX8_carried_41 rfl 1 rfl ?_
      refine a_iald C (q := 44) (g := t.1 40) dX8_carried_43 hf (by decide) rfl rfl (fun hf => ?_)
      exact a_sub [2, 4, 5, 1, 0] rfl (w_X8_carried_44 C hR s t v2 v3 v4_7 v5_8 (t.1 40 v4_7.toNatClampNeg) v4_7 res hf hK)
    · refine a_iload C (i := 5) (q := 30) dX8_carried_28 rfl 0 rfl ?_
      refine a_if_ne C (tgt := 37) (q := 33) dX8_carried_30 hf (by decide) rfl (fun hf => ?_) (fun hf => ?_)
      · refine a_aload_n C (i := 0) (q := 38) dX8_carried_37 rfl 2 rfl rfl ?_
        refine a_get8 C (q := 41) dX8_carried_38 0 (by decide) k_768 (by decide) rfl rfl rfl ?_
        refine a_iload C (i := 4) (q := 43) dX8_carried_41 rfl 1 rfl ?_
        refine a_iald C (q := 44) (g := t.1 40) dX8_carried_43 hf (by decide) rfl rfl (fun hf => ?_)
        exact a_sub [2, 4, 5, 1, 0] rfl (w_X8_carried_44 C hR s t v2 v3 v4_7 v5_8 (t.1 40 v4_7.toNatClampNeg) v4_7 res hf hK)
      · refine a_iload_n C (i := 2) (q := 34) dX8_carried_33 rfl 4 rfl rfl ?_
        refine a_goto C (q := 44) dX8_carried_34 (by decide) ?_
        exact a_sub [2, 4, 5, 1, 0] rfl (w_X8_carried_44 C hR s t v2 v3 v4_7 v5_8 v2 v4_7 res hf hK)
theorem c_X8_carried (l : Launch) (G : GX) (s : MM) (t : SR) (v1 : Int32) (v2 : Int32) (v3 : Int32) (res : Int32 × SR) (hf : f_X8_carried t v1 v2 v3 = some res) : MetC l G yX8_carried cX8_carried 6 (some .int) 2 (s, t) [.ref (G.2.1 39), .int v1, .int v2, .int v3] (PostI G res.1 (s, res.2)) :=
  m_I (by decide) (Nat.le_of_ble_eq_true rfl) (fun F Q C h1 h2 h3 hK => w_X8_carried_e C (Rm.of h1 h3) s t v1 v2 v3 res hf hK)
theorem cw_X8_image : CwV RX8 yX8_image cX8_image 2 0 (some .int) := ⟨k_1107, k_1105, k_1106, k_9, by decide +kernel, by decide⟩
def P_X8_image_2 (F : FX) (G : GX) (Q : State → Prop) (s : MM) (v1 : Int32) (t : SR) : Prop := At F G Q 2 2 [(0, .ref (G.2.1 39)), (1, .int v1)] [] (s, t)
def E_X8_image_2 (F : FX) (G : GX) (Q : State → Prop) (s : MM) : SR → Prop := fun q => match q with
  | t => At F G Q 2 27 [(0, .ref (G.2.1 39))] [] (s, t)
def lb_X8_image_2 (n : Nat) (v1 : Int32) (t : SR) : Option ((SR) ⊕ (Int32 × SR)) :=
  (if (56 : Int32) ≤ v1 then some (.inl t) else b1 (f_X8_carried t v1 (0 : Int32) (0 : Int32)) (fun y_1 => ix v1 56 (nm (sr1 y_1.2 53 v1.toNatClampNeg y_1.1) (fun t_2 => nm (v1 + 1) (fun v1_3 => some (.inr (v1_3, t_2)))))))
set_option maxHeartbeats 4000000 in
theorem w_X8_image_2 {F : FX} {G : GX} {Q : State → Prop} (C : Cx F G cX8_image 2 RX8) (hR : Rm F 3) (n : Nat) (s : MM)  (v1 : Int32) (t : SR) (res : (SR) ⊕ (Int32 × SR)) (hf : lb_X8_image_2 n v1 t = some res) (hK : Sum.elim (E_X8_image_2 F G Q s) (fun q => match q with | (v1, t) => P_X8_image_2 F G Q s v1 t) res) : P_X8_image_2 F G Q s v1 t := by
  unfold lb_X8_image_2 at hf
  show At F G Q 2 2 [(0, .ref (G.2.1 39)), (1, .int v1)] [] (s, t)
  refine a_iload_n C (i := 1) (q := 3) dX8_image_2 rfl 1 rfl rfl ?_
  refine a_bipush C (v := (56 : Int32)) (q := 5) dX8_image_3 rfl (by decide) ?_
  refine a_icmp_ge C (tgt := 27) (q := 8) dX8_image_5 hf (by decide) rfl (fun hf => ?_) (fun hf => ?_)
  · have hf := Option.some.inj hf; subst hf
    exact a_sub [0] rfl (show At F G Q 2 27 [(0, .ref (G.2.1 39))] [] (s, t) from hK)
  · refine a_aload_n C (i := 0) (q := 9) dX8_image_8 rfl 0 rfl rfl ?_
    refine a_get8 C (q := 12) dX8_image_9 30 (by decide) k_798 (by decide) rfl rfl rfl ?_
    refine a_iload_n C (i := 1) (q := 13) dX8_image_12 rfl 1 rfl rfl ?_
    refine a_aload_n C (i := 0) (q := 14) dX8_image_13 rfl 0 rfl rfl ?_
    refine a_iload_n C (i := 1) (q := 15) dX8_image_14 rfl 1 rfl rfl ?_
    refine a_iconst C (v := (0 : Int32)) (q := 16) dX8_image_15 rfl (by decide) ?_
    refine a_iconst C (v := (0 : Int32)) (q := 17) dX8_image_16 rfl (by decide) ?_
    refine a_callVI C (q := 20) (As := [.int v1, .int (0 : Int32), .int (0 : Int32)]) (st := [.int v1, .ref (G.2.1 53)]) dX8_image_17 hR (by decide) hf (fun b => b.1) (fun b => (s, b.2)) (by decide) rfl rfl cw_X8_carried (fun b hb => c_X8_carried _ G s t v1 (0 : Int32) (0 : Int32) b hb) rfl rfl (Nat.le_of_ble_eq_true rfl) k_1108 rfl (fun y_1 hf => ?_)
    refine a_iastN C (q := 21) (mk := (fun z => (s, z))) dX8_image_20 hf (by decide) rfl rfl cellE_R1 rfl (fun t_2 hf => ?_)
    refine a_iincN C (i := 1) (k := 1) (q := 24) (lv' := fun z => [(1, .int z), (0, .ref (G.2.1 39))]) dX8_image_21 hf rfl rfl (by decide) (fun _ => rfl) rfl (fun v1_3 hf => ?_)
    refine a_goto C (q := 2) dX8_image_24 (by decide) ?_
    have hf := Option.some.inj hf; subst hf
    exact a_sub [1, 0] rfl (show At F G Q 2 2 [(0, .ref (G.2.1 39)), (1, .int v1_3)] [] (s, t_2) from hK)
theorem lp_X8_image_2 {F : FX} {G : GX} {Q : State → Prop} (C : Cx F G cX8_image 2 RX8) (hR : Rm F 3) (n : Nat) (s : MM)  (v1 : Int32) (t : SR) (x : SR) (h : it2 (lb_X8_image_2 n ) n v1 t = some x) (hE : E_X8_image_2 F G Q s x) : At F G Q 2 2 [(0, .ref (G.2.1 39)), (1, .int v1)] [] (s, t) :=
  it2_ind (b := (lb_X8_image_2 n )) (E := E_X8_image_2 F G Q s) (P := fun v1 t => P_X8_image_2 F G Q s v1 t) (fun v1 t res hf hK => w_X8_image_2 C hR n s   v1 t res hf hK) n v1 t x h hE
def f_X8_image (n : Nat) (t : SR) : Option (Int32 × SR) :=
  b1 (it2 (lb_X8_image_2 n ) n (0 : Int32) t) (fun t_4 => nm (sr1 t_4 39 29 (1 : Int32)) (fun t_5 => some ((1 : Int32), t_5)))
set_option maxHeartbeats 4000000 in
theorem w_X8_image_e {F : FX} {G : GX} {Q : State → Prop} (C : Cx F G cX8_image 2 RX8) (hR : Rm F 3) (n : Nat) (s : MM) (t : SR)   (res : Int32 × SR) (hf : f_X8_image n t = some res) (hK : RetI F G Q cX8_image 2 .int res.1 (s, res.2)) : At F G Q 2 0 [(0, .ref (G.2.1 39))] [] (s, t) := by
  unfold f_X8_image at hf
  refine a_iconst C (v := (0 : Int32)) (q := 1) dX8_image_0 rfl (by decide) ?_
  refine a_istore_n C (i := 1) (q := 2) (lv' := [(1, .int (0 : Int32)), (0, .ref (G.2.1 39))]) dX8_image_1 rfl (by decide) rfl rfl ?_
  obtain ⟨t_4, h1, hf⟩ := b1_some hf
  refine a_sub [1, 0] rfl (lp_X8_image_2 C hR n s  (0 : Int32) t _ h1 ?_)
  show At F G Q 2 27 [(0, .ref (G.2.1 39))] [] (s, t_4)
  refine a_aload_n C (i := 0) (q := 28) dX8_image_27 rfl 0 rfl rfl ?_
  refine a_iconst C (v := (1 : Int32)) (q := 29) dX8_image_28 rfl (by decide) ?_
  refine a_put8N C (q := 32) (mk := (fun z => (s, z))) dX8_image_29 hf 29 (by decide) k_797 (by decide) rfl rfl cellE_R1 rfl rfl rfl (Nat.le_of_ble_eq_true rfl) rfl (fun t_5 hf => ?_)
  refine a_iconst C (v := (1 : Int32)) (q := 33) dX8_image_32 rfl (by decide) ?_
  have hf := Option.some.inj hf; subst hf
  exact (show RetI F G Q cX8_image 2 .int (1 : Int32) (s, t_5) from hK) rfl _ _ dX8_image_33
theorem c_X8_image (l : Launch) (G : GX) (n : Nat) (s : MM) (t : SR)  (res : Int32 × SR) (hf : f_X8_image n t = some res) : MetC l G yX8_image cX8_image 2 (some .int) 3 (s, t) [.ref (G.2.1 39)] (PostI G res.1 (s, res.2)) :=
  m_I (by decide) (Nat.le_of_ble_eq_true rfl) (fun F Q C h1 h2 h3 hK => w_X8_image_e C (Rm.of h1 h3) n s t res hf hK)
theorem cw_X8_restore : CwV RX8 yX8_restore cX8_restore 2 0 (some .int) := ⟨k_1115, k_1113, k_1114, k_9, by decide +kernel, by decide⟩
def P_X8_restore_12 (F : FX) (G : GX) (Q : State → Prop) (s : MM) (v1 : Int32) (t : SR) : Prop := At F G Q 2 12 [(0, .ref (G.2.1 39)), (1, .int v1)] [] (s, t)
def E_X8_restore_12 (F : FX) (G : GX) (Q : State → Prop) (s : MM) : SR → Prop := fun q => match q with
  | t => At F G Q 2 37 [] [] (s, t)
def lb_X8_restore_12 (n : Nat) (v1 : Int32) (t : SR) : Option ((SR) ⊕ (Int32 × SR)) :=
  (if (56 : Int32) ≤ v1 then some (.inl t) else ix v1 56 (b1 (f_X8_carried t v1 (t.1 53 v1.toNatClampNeg) (1 : Int32)) (fun y_1 => nm (v1 + 1) (fun v1_2 => some (.inr (v1_2, y_1.2))))))
set_option maxHeartbeats 4000000 in
theorem w_X8_restore_12 {F : FX} {G : GX} {Q : State → Prop} (C : Cx F G cX8_restore 2 RX8) (hR : Rm F 3) (n : Nat) (s : MM)  (v1 : Int32) (t : SR) (res : (SR) ⊕ (Int32 × SR)) (hf : lb_X8_restore_12 n v1 t = some res) (hK : Sum.elim (E_X8_restore_12 F G Q s) (fun q => match q with | (v1, t) => P_X8_restore_12 F G Q s v1 t) res) : P_X8_restore_12 F G Q s v1 t := by
  unfold lb_X8_restore_12 at hf
  show At F G Q 2 12 [(0, .ref (G.2.1 39)), (1, .int v1)] [] (s, t)
  refine a_iload_n C (i := 1) (q := 13) dX8_restore_12 rfl 1 rfl rfl ?_
  refine a_bipush C (v := (56 : Int32)) (q := 15) dX8_restore_13 rfl (by decide) ?_
  refine a_icmp_ge C (tgt := 37) (q := 18) dX8_restore_15 hf (by decide) rfl (fun hf => ?_) (fun hf => ?_)
  · have hf := Option.some.inj hf; subst hf
    exact a_sub [] rfl (show At F G Q 2 37 [] [] (s, t) from hK)
  · refine a_aload_n C (i := 0) (q := 19) dX8_restore_18 rfl 0 rfl rfl ?_
    refine a_iload_n C (i := 1) (q := 20) dX8_restore_19 rfl 1 rfl rfl ?_
    refine a_aload_n C (i := 0) (q := 21) dX8_restore_20 rfl 0 rfl rfl ?_
    refine a_get8 C (q := 24) dX8_restore_21 30 (by decide) k_798 (by decide) rfl rfl rfl ?_
    refine a_iload_n C (i := 1) (q := 25) dX8_restore_24 rfl 1 rfl rfl ?_
    refine a_iald C (q := 26) (g := t.1 53) dX8_restore_25 hf (by decide) rfl rfl (fun hf => ?_)
    refine a_iconst C (v := (1 : Int32)) (q := 27) dX8_restore_26 rfl (by decide) ?_
    refine a_callVI C (q := 30) (As := [.int v1, .int (t.1 53 v1.toNatClampNeg), .int (1 : Int32)]) (st := []) dX8_restore_27 hR (by decide) hf (fun b => b.1) (fun b => (s, b.2)) (by decide) rfl rfl cw_X8_carried (fun b hb => c_X8_carried _ G s t v1 (t.1 53 v1.toNatClampNeg) (1 : Int32) b hb) rfl rfl (Nat.le_of_ble_eq_true rfl) k_1108 rfl (fun y_1 hf => ?_)
    refine a_pop C (q := 31) dX8_restore_30 rfl rfl ?_
    refine a_iincN C (i := 1) (k := 1) (q := 34) (lv' := fun z => [(1, .int z), (0, .ref (G.2.1 39))]) dX8_restore_31 hf rfl rfl (by decide) (fun _ => rfl) rfl (fun v1_2 hf => ?_)
    refine a_goto C (q := 12) dX8_restore_34 (by decide) ?_
    have hf := Option.some.inj hf; subst hf
    exact a_sub [1, 0] rfl (show At F G Q 2 12 [(0, .ref (G.2.1 39)), (1, .int v1_2)] [] (s, y_1.2) from hK)
theorem lp_X8_restore_12 {F : FX} {G : GX} {Q : State → Prop} (C : Cx F G cX8_restore 2 RX8) (hR : Rm F 3) (n : Nat) (s : MM)  (v1 : Int32) (t : SR) (x : SR) (h : it2 (lb_X8_restore_12 n ) n v1 t = some x) (hE : E_X8_restore_12 F G Q s x) : At F G Q 2 12 [(0, .ref (G.2.1 39)), (1, .int v1)] [] (s, t) :=
  it2_ind (b := (lb_X8_restore_12 n )) (E := E_X8_restore_12 F G Q s) (P := fun v1 t => P_X8_restore_12 F G Q s v1 t) (fun v1 t res hf hK => w_X8_restore_12 C hR n s   v1 t res hf hK) n v1 t x h hE
def f_X8_restore (n : Nat) (t : SR) : Option (Int32 × SR) :=
  (if (t.1 39 29) = 0 then some ((-4 : Int32), t) else b1 (it2 (lb_X8_restore_12 n ) n (0 : Int32) t) (fun t_3 => some ((1 : Int32), t_3)))
set_option maxHeartbeats 4000000 in
theorem w_X8_restore_e {F : FX} {G : GX} {Q : State → Prop} (C : Cx F G cX8_restore 2 RX8) (hR : Rm F 3) (n : Nat) (s : MM) (t : SR)   (res : Int32 × SR) (hf : f_X8_restore n t = some res) (hK : RetI F G Q cX8_restore 2 .int res.1 (s, res.2)) : At F G Q 2 0 [(0, .ref (G.2.1 39))] [] (s, t) := by
  unfold f_X8_restore at hf
  refine a_aload_n C (i := 0) (q := 1) dX8_restore_0 rfl 0 rfl rfl ?_
  refine a_get8 C (q := 4) dX8_restore_1 29 (by decide) k_797 (by decide) rfl rfl rfl ?_
  refine a_if_ne C (tgt := 10) (q := 7) dX8_restore_4 hf (by decide) rfl (fun hf => ?_) (fun hf => ?_)
  · refine a_iconst C (v := (0 : Int32)) (q := 11) dX8_restore_10 rfl (by decide) ?_
    refine a_istore_n C (i := 1) (q := 12) (lv' := [(1, .int (0 : Int32)), (0, .ref (G.2.1 39))]) dX8_restore_11 rfl (by decide) rfl rfl ?_
    obtain ⟨t_3, h1, hf⟩ := b1_some hf
    refine a_sub [1, 0] rfl (lp_X8_restore_12 C hR n s  (0 : Int32) t _ h1 ?_)
    show At F G Q 2 37 [] [] (s, t_3)
    refine a_iconst C (v := (1 : Int32)) (q := 38) dX8_restore_37 rfl (by decide) ?_
    have hf := Option.some.inj hf; subst hf
    exact (show RetI F G Q cX8_restore 2 .int (1 : Int32) (s, t_3) from hK) rfl _ _ dX8_restore_38
  · refine a_bipush C (v := (-4 : Int32)) (q := 9) dX8_restore_7 rfl (by decide) ?_
    have hf := Option.some.inj hf; subst hf
    exact (show RetI F G Q cX8_restore 2 .int (-4 : Int32) (s, t) from hK) rfl _ _ dX8_restore_9
theorem c_X8_restore (l : Launch) (G : GX) (n : Nat) (s : MM) (t : SR)  (res : Int32 × SR) (hf : f_X8_restore n t = some res) : MetC l G yX8_restore cX8_restore 2 (some .int) 3 (s, t) [.ref (G.2.1 39)] (PostI G res.1 (s, res.2)) :=
  m_I (by decide) (Nat.le_of_ble_eq_true rfl) (fun F Q C h1 h2 h3 hK => w_X8_restore_e C (Rm.of h1 h3) n s t res hf hK)
theorem cw_X8_isSheet : CwS yX8_isSheet cX8_isSheet 2 2 (some .boolean) := ⟨k_1122, k_1121, k_9, by decide +kernel, by decide⟩
def f_X8_isSheet (v0 : Int32) (v1 : Int32) : Option (Int32) :=
  b1 (f_X8_in v0.toInt64 (0 : Int64) (3 : Int64)) (fun y_1 => (if y_1 = 0 then some (0 : Int32) else b1 (f_X8_in v1.toInt64 (0 : Int64) (2 : Int64)) (fun y_2 => (if y_2 = 0 then some (0 : Int32) else some (1 : Int32)))))
set_option maxHeartbeats 4000000 in
theorem w_X8_isSheet_e {F : FX} {G : GX} {Q : State → Prop} (C : Cx F G cX8_isSheet 2 RX8) (hR : Rm F 3) (s : MM) (r : SR)  (v0 : Int32) (v1 : Int32) (res : Int32) (hf : f_X8_isSheet v0 v1 = some res) (hK : RetI F G Q cX8_isSheet 2 .boolean res (s, r)) : At F G Q 2 0 [(0, .int v0), (1, .int v1)] [] (s, r) := by
  unfold f_X8_isSheet at hf
  refine a_iload_n C (i := 0) (q := 1) dX8_isSheet_0 rfl 0 rfl rfl ?_
  refine a_i2l C (q := 2) dX8_isSheet_1 rfl ?_
  refine a_lconst C (v := (0 : Int64)) (q := 3) dX8_isSheet_2 rfl (by decide) ?_
  refine a_ldc2 C (v := (3 : Int64)) (q := 6) dX8_isSheet_3 rfl k_879 ?_
  refine a_callSI C (q := 9) (As := [.long v0.toInt64, .long (0 : Int64), .long (3 : Int64)]) (st := []) dX8_isSheet_6 hR (by decide) hf (fun b => b) (fun _ => (s, r)) cw_X8_in (fun b hb => c_X8_in _ G s r v0.toInt64 (0 : Int64) (3 : Int64) b hb) rfl rfl (Nat.le_of_ble_eq_true rfl) k_880 rfl (fun y_1 hf => ?_)
  refine a_if_eq C (tgt := 28) (q := 12) dX8_isSheet_9 hf (by decide) rfl (fun hf => ?_) (fun hf => ?_)
  · refine a_iconst C (v := (0 : Int32)) (q := 29) dX8_isSheet_28 rfl (by decide) ?_
    have hf := Option.some.inj hf; subst hf
    exact (show RetI F G Q cX8_isSheet 2 .boolean (0 : Int32) (s, r) from hK) rfl _ _ dX8_isSheet_29
  · refine a_iload_n C (i := 1) (q := 13) dX8_isSheet_12 rfl 1 rfl rfl ?_
    refine a_i2l C (q := 14) dX8_isSheet_13 rfl ?_
    refine a_lconst C (v := (0 : Int64)) (q := 15) dX8_isSheet_14 rfl (by decide) ?_
    refine a_ldc2 C (v := (2 : Int64)) (q := 18) dX8_isSheet_15 rfl k_943 ?_
    refine a_callSI C (q := 21) (As := [.long v1.toInt64, .long (0 : Int64), .long (2 : Int64)]) (st := []) dX8_isSheet_18 hR (by decide) hf (fun b => b) (fun _ => (s, r)) cw_X8_in (fun b hb => c_X8_in _ G s r v1.toInt64 (0 : Int64) (2 : Int64) b hb) rfl rfl (Nat.le_of_ble_eq_true rfl) k_880 rfl (fun y_2 hf => ?_)
    refine a_if_eq C (tgt := 28) (q := 24) dX8_isSheet_21 hf (by decide) rfl (fun hf => ?_) (fun hf => ?_)
    · refine a_iconst C (v := (0 : Int32)) (q := 29) dX8_isSheet_28 rfl (by decide) ?_
      have hf := Option.some.inj hf; subst hf
      exact (show RetI F G Q cX8_isSheet 2 .boolean (0 : Int32) (s, r) from hK) rfl _ _ dX8_isSheet_29
    · refine a_iconst C (v := (1 : Int32)) (q := 25) dX8_isSheet_24 rfl (by decide) ?_
      refine a_goto C (q := 29) dX8_isSheet_25 (by decide) ?_
      have hf := Option.some.inj hf; subst hf
      exact (show RetI F G Q cX8_isSheet 2 .boolean (1 : Int32) (s, r) from hK) rfl _ _ dX8_isSheet_29
theorem c_X8_isSheet (l : Launch) (G : GX) (s : MM) (r : SR) (v0 : Int32) (v1 : Int32) (res : Int32) (hf : f_X8_isSheet v0 v1 = some res) : MetC l G yX8_isSheet cX8_isSheet 2 (some .boolean) 3 (s, r) [.int v0, .int v1] (PostI G res (s, r)) :=
  m_I (by decide) (Nat.le_of_ble_eq_true rfl) (fun F Q C h1 h2 h3 hK => w_X8_isSheet_e C (Rm.of h1 h3) s r v0 v1 res hf hK)
theorem cw_X8_asLane : CwS yX8_asLane cX8_asLane 2 2 (some .int) := ⟨k_1137, k_1136, k_9, by decide +kernel, by decide⟩
def f_X8_asLane (v0 : Int32) (v1 : Int32) : Option (Int32) :=
  (if v0 = 0 then some ((v1 <<< ((24 : Int32) &&& 31)) >>> ((24 : Int32) &&& 31)) else (if v0 = (1 : Int32) then some ((v1 <<< ((16 : Int32) &&& 31)) >>> ((16 : Int32) &&& 31)) else some v1))
set_option maxHeartbeats 4000000 in
theorem w_X8_asLane_e {F : FX} {G : GX} {Q : State → Prop} (C : Cx F G cX8_asLane 2 RX8) (hR : Rm F 2) (s : MM) (r : SR)  (v0 : Int32) (v1 : Int32) (res : Int32) (hf : f_X8_asLane v0 v1 = some res) (hK : RetI F G Q cX8_asLane 2 .int res (s, r)) : At F G Q 2 0 [(0, .int v0), (1, .int v1)] [] (s, r) := by
  unfold f_X8_asLane at hf
  refine a_iload_n C (i := 0) (q := 1) dX8_asLane_0 rfl 0 rfl rfl ?_
  refine a_if_ne C (tgt := 14) (q := 4) dX8_asLane_1 hf (by decide) rfl (fun hf => ?_) (fun hf => ?_)
  · refine a_iload_n C (i := 0) (q := 15) dX8_asLane_14 rfl 0 rfl rfl ?_
    refine a_iconst C (v := (1 : Int32)) (q := 16) dX8_asLane_15 rfl (by decide) ?_
    refine a_icmp_ne C (tgt := 29) (q := 19) dX8_asLane_16 hf (by decide) rfl (fun hf => ?_) (fun hf => ?_)
    · refine a_iload_n C (i := 1) (q := 30) dX8_asLane_29 rfl 1 rfl rfl ?_
      have hf := Option.some.inj hf; subst hf
      exact (show RetI F G Q cX8_asLane 2 .int v1 (s, r) from hK) rfl _ _ dX8_asLane_30
    · refine a_iload_n C (i := 1) (q := 20) dX8_asLane_19 rfl 1 rfl rfl ?_
      refine a_bipush C (v := (16 : Int32)) (q := 22) dX8_asLane_20 rfl (by decide) ?_
      refine a_ishl C (q := 23) dX8_asLane_22 rfl ?_
      refine a_bipush C (v := (16 : Int32)) (q := 25) dX8_asLane_23 rfl (by decide) ?_
      refine a_ishr C (q := 26) dX8_asLane_25 rfl ?_
      refine a_goto C (q := 30) dX8_asLane_26 (by decide) ?_
      have hf := Option.some.inj hf; subst hf
      exact (show RetI F G Q cX8_asLane 2 .int ((v1 <<< ((16 : Int32) &&& 31)) >>> ((16 : Int32) &&& 31)) (s, r) from hK) rfl _ _ dX8_asLane_30
  · refine a_iload_n C (i := 1) (q := 5) dX8_asLane_4 rfl 1 rfl rfl ?_
    refine a_bipush C (v := (24 : Int32)) (q := 7) dX8_asLane_5 rfl (by decide) ?_
    refine a_ishl C (q := 8) dX8_asLane_7 rfl ?_
    refine a_bipush C (v := (24 : Int32)) (q := 10) dX8_asLane_8 rfl (by decide) ?_
    refine a_ishr C (q := 11) dX8_asLane_10 rfl ?_
    refine a_goto C (q := 30) dX8_asLane_11 (by decide) ?_
    have hf := Option.some.inj hf; subst hf
    exact (show RetI F G Q cX8_asLane 2 .int ((v1 <<< ((24 : Int32) &&& 31)) >>> ((24 : Int32) &&& 31)) (s, r) from hK) rfl _ _ dX8_asLane_30
theorem c_X8_asLane (l : Launch) (G : GX) (s : MM) (r : SR) (v0 : Int32) (v1 : Int32) (res : Int32) (hf : f_X8_asLane v0 v1 = some res) : MetC l G yX8_asLane cX8_asLane 2 (some .int) 2 (s, r) [.int v0, .int v1] (PostI G res (s, r)) :=
  m_I (by decide) (Nat.le_of_ble_eq_true rfl) (fun F Q C h1 h2 h3 hK => w_X8_asLane_e C (Rm.of h1 h3) s r v0 v1 res hf hK)
theorem cw_X8_sheet : CwV RX8 yX8_sheet cX8_sheet 5 3 (some .int) := ⟨k_1119, k_1117, k_1118, k_9, by decide +kernel, by decide⟩
def P_X8_sheet_40 (F : FX) (G : GX) (Q : State → Prop) (s : MM) (v1 : Int32) (v3 : Int32) (v4 : Int32) (t : SR) : Prop := At F G Q 5 40 [(0, .ref (G.2.1 39)), (1, .int v1), (3, .int v3), (4, .int v4)] [] (s, t)
def E_X8_sheet_40 (F : FX) (G : GX) (Q : State → Prop) (s : MM) (v1 : Int32) (v3 : Int32) : SR → Prop := fun q => match q with
  | t => At F G Q 5 66 [(3, .int v3)] [] (s, t)
def lb_X8_sheet_40 (n : Nat) (v1 : Int32) (v3 : Int32) (v4 : Int32) (t : SR) : Option ((SR) ⊕ (Int32 × SR)) :=
  (if (24 : Int32) ≤ v4 then some (.inl t) else ix (((24 : Int32) * v1) + v4) 96 (nm (sr1 t 56 ((((24 : Int32) * v1) + v4).toNatClampNeg) (0 : Int32)) (fun t_4 => nm (v4 + 1) (fun v4_5 => some (.inr (v4_5, t_4))))))
set_option maxHeartbeats 4000000 in
theorem w_X8_sheet_40 {F : FX} {G : GX} {Q : State → Prop} (C : Cx F G cX8_sheet 5 RX8) (hR : Rm F 4) (n : Nat) (s : MM) (v1 : Int32) (v3 : Int32)  (v4 : Int32) (t : SR) (res : (SR) ⊕ (Int32 × SR)) (hf : lb_X8_sheet_40 n v1 v3 v4 t = some res) (hK : Sum.elim (E_X8_sheet_40 F G Q s v1 v3) (fun q => match q with | (v4, t) => P_X8_sheet_40 F G Q s v1 v3 v4 t) res) : P_X8_sheet_40 F G Q s v1 v3 v4 t := by
  unfold lb_X8_sheet_40 at hf
  show At F G Q 5 40 [(0, .ref (G.2.1 39)), (1, .int v1), (3, .int v3), (4, .int v4)] [] (s, t)
  refine a_iload C (i := 4) (q := 42) dX8_sheet_40 rfl 3 rfl ?_
  refine a_bipush C (v := (24 : Int32)) (q := 44) dX8_sheet_42 rfl (by decide) ?_
  refine a_icmp_ge C (tgt := 66) (q := 47) dX8_sheet_44 hf (by decide) rfl (fun hf => ?_) (fun hf => ?_)
  · have hf := Option.some.inj hf; subst hf
    exact a_sub [2] rfl (show At F G Q 5 66 [(3, .int v3)] [] (s, t) from hK)
  · refine a_aload_n C (i := 0) (q := 48) dX8_sheet_47 rfl 0 rfl rfl ?_
    refine a_get8 C (q := 51) dX8_sheet_48 33 (by decide) k_801 (by decide) rfl rfl rfl ?_
    refine a_bipush C (v := (24 : Int32)) (q := 53) dX8_sheet_51 rfl (by decide) ?_
    refine a_iload_n C (i := 1) (q := 54) dX8_sheet_53 rfl 1 rfl rfl ?_
    refine a_imul C (q := 55) dX8_sheet_54 rfl ?_
    refine a_iload C (i := 4) (q := 57) dX8_sheet_55 rfl 3 rfl ?_
    refine a_iadd C (q := 58) dX8_sheet_57 rfl ?_
    refine a_iconst C (v := (0 : Int32)) (q := 59) dX8_sheet_58 rfl (by decide) ?_
    refine a_iastN C (q := 60) (mk := (fun z => (s, z))) dX8_sheet_59 hf (by decide) rfl rfl cellE_R1 rfl (fun t_4 hf => ?_)
    refine a_iincN C (i := 4) (k := 3) (q := 63) (lv' := fun z => [(4, .int z), (0, .ref (G.2.1 39)), (1, .int v1), (3, .int v3)]) dX8_sheet_60 hf rfl rfl (by decide) (fun _ => rfl) rfl (fun v4_5 hf => ?_)
    refine a_goto C (q := 40) dX8_sheet_63 (by decide) ?_
    have hf := Option.some.inj hf; subst hf
    exact a_sub [1, 2, 3, 0] rfl (show At F G Q 5 40 [(0, .ref (G.2.1 39)), (1, .int v1), (3, .int v3), (4, .int v4_5)] [] (s, t_4) from hK)
theorem lp_X8_sheet_40 {F : FX} {G : GX} {Q : State → Prop} (C : Cx F G cX8_sheet 5 RX8) (hR : Rm F 4) (n : Nat) (s : MM) (v1 : Int32) (v3 : Int32)  (v4 : Int32) (t : SR) (x : SR) (h : it2 (lb_X8_sheet_40 n v1 v3) n v4 t = some x) (hE : E_X8_sheet_40 F G Q s v1 v3 x) : At F G Q 5 40 [(0, .ref (G.2.1 39)), (1, .int v1), (3, .int v3), (4, .int v4)] [] (s, t) :=
  it2_ind (b := (lb_X8_sheet_40 n v1 v3)) (E := E_X8_sheet_40 F G Q s v1 v3) (P := fun v4 t => P_X8_sheet_40 F G Q s v1 v3 v4 t) (fun v4 t res hf hK => w_X8_sheet_40 C hR n s v1 v3   v4 t res hf hK) n v4 t x h hE
def f_X8_sheet (n : Nat) (t : SR) (v1 : Int32) (v2 : Int32) (v3 : Int32) : Option (Int32 × SR) :=
  b1 (f_X8_isSheet v1 v2) (fun y_1 => (if y_1 = 0 then some ((-1 : Int32), t) else (if v3 ≤ (24 : Int32) then (if 0 ≤ v3 then ix v1 4 (nm (sr1 t 54 v1.toNatClampNeg v2) (fun t_2 => ix v1 4 (nm (sr1 t_2 55 v1.toNatClampNeg v3) (fun t_3 => b1 (it2 (lb_X8_sheet_40 n v1 v3) n (0 : Int32) t_3) (fun t_6 => some (v3, t_6)))))) else some ((-14 : Int32), t)) else some ((-1 : Int32), t))))
set_option maxHeartbeats 4000000 in
theorem w_X8_sheet_e {F : FX} {G : GX} {Q : State → Prop} (C : Cx F G cX8_sheet 5 RX8) (hR : Rm F 4) (n : Nat) (s : MM) (t : SR)  (v1 : Int32) (v2 : Int32) (v3 : Int32) (res : Int32 × SR) (hf : f_X8_sheet n t v1 v2 v3 = some res) (hK : RetI F G Q cX8_sheet 5 .int res.1 (s, res.2)) : At F G Q 5 0 [(0, .ref (G.2.1 39)), (1, .int v1), (2, .int v2), (3, .int v3)] [] (s, t) := by
  unfold f_X8_sheet at hf
  refine a_iload_n C (i := 1) (q := 1) dX8_sheet_0 rfl 1 rfl rfl ?_
  refine a_iload_n C (i := 2) (q := 2) dX8_sheet_1 rfl 2 rfl rfl ?_
  refine a_callSI C (q := 5) (As := [.int v1, .int v2]) (st := []) dX8_sheet_2 hR (by decide) hf (fun b => b) (fun _ => (s, t)) cw_X8_isSheet (fun b hb => c_X8_isSheet _ G s t v1 v2 b hb) rfl rfl (Nat.le_of_ble_eq_true rfl) k_1120 rfl (fun y_1 hf => ?_)
  refine a_if_eq C (tgt := 14) (q := 8) dX8_sheet_5 hf (by decide) rfl (fun hf => ?_) (fun hf => ?_)
  · refine a_iconst C (v := (-1 : Int32)) (q := 15) dX8_sheet_14 rfl (by decide) ?_
    have hf := Option.some.inj hf; subst hf
    exact (show RetI F G Q cX8_sheet 5 .int (-1 : Int32) (s, t) from hK) rfl _ _ dX8_sheet_15
  · refine a_iload_n C (i := 3) (q := 9) dX8_sheet_8 rfl 3 rfl rfl ?_
    refine a_bipush C (v := (24 : Int32)) (q := 11) dX8_sheet_9 rfl (by decide) ?_
    refine a_icmp_le C (tgt := 16) (q := 14) dX8_sheet_11 hf (by decide) rfl (fun hf => ?_) (fun hf => ?_)
    · refine a_iload_n C (i := 3) (q := 17) dX8_sheet_16 rfl 3 rfl rfl ?_
      refine a_if_ge C (tgt := 23) (q := 20) dX8_sheet_17 hf (by decide) rfl (fun hf => ?_) (fun hf => ?_)
      · refine a_aload_n C (i := 0) (q := 24) dX8_sheet_23 rfl 0 rfl rfl ?_
        refine a_get8 C (q := 27) dX8_sheet_24 31 (by decide) k_799 (by decide) rfl rfl rfl ?_
        refine a_iload_n C (i := 1) (q := 28) dX8_sheet_27 rfl 1 rfl rfl ?_
        refine a_iload_n C (i := 2) (q := 29) dX8_sheet_28 rfl 2 rfl rfl ?_
        refine a_iastN C (q := 30) (mk := (fun z => (s, z))) dX8_sheet_29 hf (by decide) rfl rfl cellE_R1 rfl (fun t_2 hf => ?_)
        refine a_aload_n C (i := 0) (q := 31) dX8_sheet_30 rfl 0 rfl rfl ?_
        refine a_get8 C (q := 34) dX8_sheet_31 32 (by decide) k_800 (by decide) rfl rfl rfl ?_
        refine a_iload_n C (i := 1) (q := 35) dX8_sheet_34 rfl 1 rfl rfl ?_
        refine a_iload_n C (i := 3) (q := 36) dX8_sheet_35 rfl 3 rfl rfl ?_
        refine a_iastN C (q := 37) (mk := (fun z => (s, z))) dX8_sheet_36 hf (by decide) rfl rfl cellE_R1 rfl (fun t_3 hf => ?_)
        refine a_iconst C (v := (0 : Int32)) (q := 38) dX8_sheet_37 rfl (by decide) ?_
        refine a_istore C (i := 4) (q := 40) (lv' := [(4, .int (0 : Int32)), (0, .ref (G.2.1 39)), (1, .int v1), (2, .int v2), (3, .int v3)]) dX8_sheet_38 (by decide) rfl rfl ?_
        obtain ⟨t_6, h1, hf⟩ := b1_some hf
        refine a_sub [1, 2, 4, 0] rfl (lp_X8_sheet_40 C hR n s v1 v3  (0 : Int32) t_3 _ h1 ?_)
        show At F G Q 5 66 [(3, .int v3)] [] (s, t_6)
        refine a_iload_n C (i := 3) (q := 67) dX8_sheet_66 rfl 0 rfl rfl ?_
        have hf := Option.some.inj hf; subst hf
        exact (show RetI F G Q cX8_sheet 5 .int v3 (s, t_6) from hK) rfl _ _ dX8_sheet_67
      · refine a_bipush C (v := (-14 : Int32)) (q := 22) dX8_sheet_20 rfl (by decide) ?_
        have hf := Option.some.inj hf; subst hf
        exact (show RetI F G Q cX8_sheet 5 .int (-14 : Int32) (s, t) from hK) rfl _ _ dX8_sheet_22
    · refine a_iconst C (v := (-1 : Int32)) (q := 15) dX8_sheet_14 rfl (by decide) ?_
      have hf := Option.some.inj hf; subst hf
      exact (show RetI F G Q cX8_sheet 5 .int (-1 : Int32) (s, t) from hK) rfl _ _ dX8_sheet_15
theorem c_X8_sheet (l : Launch) (G : GX) (n : Nat) (s : MM) (t : SR) (v1 : Int32) (v2 : Int32) (v3 : Int32) (res : Int32 × SR) (hf : f_X8_sheet n t v1 v2 v3 = some res) : MetC l G yX8_sheet cX8_sheet 5 (some .int) 4 (s, t) [.ref (G.2.1 39), .int v1, .int v2, .int v3] (PostI G res.1 (s, res.2)) :=
  m_I (by decide) (Nat.le_of_ble_eq_true rfl) (fun F Q C h1 h2 h3 hK => w_X8_sheet_e C (Rm.of h1 h3) n s t v1 v2 v3 res hf hK)
theorem cw_X8_drop : CwV RX8 yX8_drop cX8_drop 2 1 (some .int) := ⟨k_1126, k_1124, k_1125, k_9, by decide +kernel, by decide⟩
def f_X8_drop (t : SR) (v1 : Int32) : Option (Int32 × SR) :=
  b1 (f_X8_in v1.toInt64 (0 : Int64) (3 : Int64)) (fun y_1 => (if y_1 = 0 then some ((-1 : Int32), t) else ix v1 4 ((if 0 ≤ (t.1 54 v1.toNatClampNeg) then ix v1 4 (nm (sr1 t 54 v1.toNatClampNeg (-1 : Int32)) (fun t_2 => ix v1 4 (some (t_2.1 55 v1.toNatClampNeg, t_2)))) else some ((-11 : Int32), t)))))
set_option maxHeartbeats 4000000 in
theorem w_X8_drop_e {F : FX} {G : GX} {Q : State → Prop} (C : Cx F G cX8_drop 2 RX8) (hR : Rm F 3) (s : MM) (t : SR)  (v1 : Int32) (res : Int32 × SR) (hf : f_X8_drop t v1 = some res) (hK : RetI F G Q cX8_drop 2 .int res.1 (s, res.2)) : At F G Q 2 0 [(0, .ref (G.2.1 39)), (1, .int v1)] [] (s, t) := by
  unfold f_X8_drop at hf
  refine a_iload_n C (i := 1) (q := 1) dX8_drop_0 rfl 1 rfl rfl ?_
  refine a_i2l C (q := 2) dX8_drop_1 rfl ?_
  refine a_lconst C (v := (0 : Int64)) (q := 3) dX8_drop_2 rfl (by decide) ?_
  refine a_ldc2 C (v := (3 : Int64)) (q := 6) dX8_drop_3 rfl k_879 ?_
  refine a_callSI C (q := 9) (As := [.long v1.toInt64, .long (0 : Int64), .long (3 : Int64)]) (st := []) dX8_drop_6 hR (by decide) hf (fun b => b) (fun _ => (s, t)) cw_X8_in (fun b hb => c_X8_in _ G s t v1.toInt64 (0 : Int64) (3 : Int64) b hb) rfl rfl (Nat.le_of_ble_eq_true rfl) k_880 rfl (fun y_1 hf => ?_)
  refine a_if_ne C (tgt := 14) (q := 12) dX8_drop_9 hf (by decide) rfl (fun hf => ?_) (fun hf => ?_)
  · refine a_aload_n C (i := 0) (q := 15) dX8_drop_14 rfl 0 rfl rfl ?_
    refine a_get8 C (q := 18) dX8_drop_15 31 (by decide) k_799 (by decide) rfl rfl rfl ?_
    refine a_iload_n C (i := 1) (q := 19) dX8_drop_18 rfl 1 rfl rfl ?_
    refine a_iald C (q := 20) (g := t.1 54) dX8_drop_19 hf (by decide) rfl rfl (fun hf => ?_)
    refine a_if_ge C (tgt := 26) (q := 23) dX8_drop_20 hf (by decide) rfl (fun hf => ?_) (fun hf => ?_)
    · refine a_aload_n C (i := 0) (q := 27) dX8_drop_26 rfl 0 rfl rfl ?_
      refine a_get8 C (q := 30) dX8_drop_27 31 (by decide) k_799 (by decide) rfl rfl rfl ?_
      refine a_iload_n C (i := 1) (q := 31) dX8_drop_30 rfl 1 rfl rfl ?_
      refine a_iconst C (v := (-1 : Int32)) (q := 32) dX8_drop_31 rfl (by decide) ?_
      refine a_iastN C (q := 33) (mk := (fun z => (s, z))) dX8_drop_32 hf (by decide) rfl rfl cellE_R1 rfl (fun t_2 hf => ?_)
      refine a_aload_n C (i := 0) (q := 34) dX8_drop_33 rfl 0 rfl rfl ?_
      refine a_get8 C (q := 37) dX8_drop_34 32 (by decide) k_800 (by decide) rfl rfl rfl ?_
      refine a_iload_n C (i := 1) (q := 38) dX8_drop_37 rfl 1 rfl rfl ?_
      refine a_iald C (q := 39) (g := t_2.1 55) dX8_drop_38 hf (by decide) rfl rfl (fun hf => ?_)
      have hf := Option.some.inj hf; subst hf
      exact (show RetI F G Q cX8_drop 2 .int (t_2.1 55 v1.toNatClampNeg) (s, t_2) from hK) rfl _ _ dX8_drop_39
    · refine a_bipush C (v := (-11 : Int32)) (q := 25) dX8_drop_23 rfl (by decide) ?_
      have hf := Option.some.inj hf; subst hf
      exact (show RetI F G Q cX8_drop 2 .int (-11 : Int32) (s, t) from hK) rfl _ _ dX8_drop_25
  · refine a_iconst C (v := (-1 : Int32)) (q := 13) dX8_drop_12 rfl (by decide) ?_
    have hf := Option.some.inj hf; subst hf
    exact (show RetI F G Q cX8_drop 2 .int (-1 : Int32) (s, t) from hK) rfl _ _ dX8_drop_13
theorem c_X8_drop (l : Launch) (G : GX) (s : MM) (t : SR) (v1 : Int32) (res : Int32 × SR) (hf : f_X8_drop t v1 = some res) : MetC l G yX8_drop cX8_drop 2 (some .int) 3 (s, t) [.ref (G.2.1 39), .int v1] (PostI G res.1 (s, res.2)) :=
  m_I (by decide) (Nat.le_of_ble_eq_true rfl) (fun F Q C h1 h2 h3 hK => w_X8_drop_e C (Rm.of h1 h3) s t v1 res hf hK)
theorem cw_X8_lacksRow : CwV RX8 yX8_lacksRow cX8_lacksRow 5 4 (some .int) := ⟨k_1134, k_1133, kp_47, k_9, by decide +kernel, by decide⟩
def f_X8_lacksRow (t : SR) (v1 : Int32) (v2 : Int32) (v3 : Int32) (v4 : Int32) : Option (Int32) :=
  ix v1 4 ((if (t.1 54 v1.toNatClampNeg) = v2 then ix v1 4 (b1 (f_X8_in v3.toInt64 (0 : Int64) (((t.1 55 v1.toNatClampNeg) - v4).toInt64)) (fun y_1 => (if y_1 = 0 then some (-13 : Int32) else some (0 : Int32)))) else ix v1 4 ((if 0 ≤ (t.1 54 v1.toNatClampNeg) then some (-12 : Int32) else some (-11 : Int32)))))
set_option maxHeartbeats 4000000 in
theorem w_X8_lacksRow_e {F : FX} {G : GX} {Q : State → Prop} (C : Cx F G cX8_lacksRow 5 RX8) (hR : Rm F 3) (s : MM) (t : SR)  (v1 : Int32) (v2 : Int32) (v3 : Int32) (v4 : Int32) (res : Int32) (hf : f_X8_lacksRow t v1 v2 v3 v4 = some res) (hK : RetI F G Q cX8_lacksRow 5 .int res (s, t)) : At F G Q 5 0 [(0, .ref (G.2.1 39)), (1, .int v1), (2, .int v2), (3, .int v3), (4, .int v4)] [] (s, t) := by
  unfold f_X8_lacksRow at hf
  refine a_aload_n C (i := 0) (q := 1) dX8_lacksRow_0 rfl 0 rfl rfl ?_
  refine a_get8 C (q := 4) dX8_lacksRow_1 31 (by decide) k_799 (by decide) rfl rfl rfl ?_
  refine a_iload_n C (i := 1) (q := 5) dX8_lacksRow_4 rfl 1 rfl rfl ?_
  refine a_iald C (q := 6) (g := t.1 54) dX8_lacksRow_5 hf (by decide) rfl rfl (fun hf => ?_)
  refine a_iload_n C (i := 2) (q := 7) dX8_lacksRow_6 rfl 2 rfl rfl ?_
  refine a_icmp_eq C (tgt := 27) (q := 10) dX8_lacksRow_7 hf (by decide) rfl (fun hf => ?_) (fun hf => ?_)
  · refine a_iload_n C (i := 3) (q := 28) dX8_lacksRow_27 rfl 3 rfl rfl ?_
    refine a_i2l C (q := 29) dX8_lacksRow_28 rfl ?_
    refine a_lconst C (v := (0 : Int64)) (q := 30) dX8_lacksRow_29 rfl (by decide) ?_
    refine a_aload_n C (i := 0) (q := 31) dX8_lacksRow_30 rfl 0 rfl rfl ?_
    refine a_get8 C (q := 34) dX8_lacksRow_31 32 (by decide) k_800 (by decide) rfl rfl rfl ?_
    refine a_iload_n C (i := 1) (q := 35) dX8_lacksRow_34 rfl 1 rfl rfl ?_
    refine a_iald C (q := 36) (g := t.1 55) dX8_lacksRow_35 hf (by decide) rfl rfl (fun hf => ?_)
    refine a_iload C (i := 4) (q := 38) dX8_lacksRow_36 rfl 4 rfl ?_
    refine a_isub C (q := 39) dX8_lacksRow_38 rfl ?_
    refine a_i2l C (q := 40) dX8_lacksRow_39 rfl ?_
    refine a_callSI C (q := 43) (As := [.long v3.toInt64, .long (0 : Int64), .long (((t.1 55 v1.toNatClampNeg) - v4).toInt64)]) (st := []) dX8_lacksRow_40 hR (by decide) hf (fun b => b) (fun _ => (s, t)) cw_X8_in (fun b hb => c_X8_in _ G s t v3.toInt64 (0 : Int64) (((t.1 55 v1.toNatClampNeg) - v4).toInt64) b hb) rfl rfl (Nat.le_of_ble_eq_true rfl) k_880 rfl (fun y_1 hf => ?_)
    refine a_if_eq C (tgt := 50) (q := 46) dX8_lacksRow_43 hf (by decide) rfl (fun hf => ?_) (fun hf => ?_)
    · refine a_bipush C (v := (-13 : Int32)) (q := 52) dX8_lacksRow_50 rfl (by decide) ?_
      have hf := Option.some.inj hf; subst hf
      exact (show RetI F G Q cX8_lacksRow 5 .int (-13 : Int32) (s, t) from hK) rfl _ _ dX8_lacksRow_52
    · refine a_iconst C (v := (0 : Int32)) (q := 47) dX8_lacksRow_46 rfl (by decide) ?_
      refine a_goto C (q := 52) dX8_lacksRow_47 (by decide) ?_
      have hf := Option.some.inj hf; subst hf
      exact (show RetI F G Q cX8_lacksRow 5 .int (0 : Int32) (s, t) from hK) rfl _ _ dX8_lacksRow_52
  · refine a_aload_n C (i := 0) (q := 11) dX8_lacksRow_10 rfl 0 rfl rfl ?_
    refine a_get8 C (q := 14) dX8_lacksRow_11 31 (by decide) k_799 (by decide) rfl rfl rfl ?_
    refine a_iload_n C (i := 1) (q := 15) dX8_lacksRow_14 rfl 1 rfl rfl ?_
    refine a_iald C (q := 16) (g := t.1 54) dX8_lacksRow_15 hf (by decide) rfl rfl (fun hf => ?_)
    refine a_if_ge C (tgt := 24) (q := 19) dX8_lacksRow_16 hf (by decide) rfl (fun hf => ?_) (fun hf => ?_)
    · refine a_bipush C (v := (-12 : Int32)) (q := 26) dX8_lacksRow_24 rfl (by decide) ?_
      have hf := Option.some.inj hf; subst hf
      exact (show RetI F G Q cX8_lacksRow 5 .int (-12 : Int32) (s, t) from hK) rfl _ _ dX8_lacksRow_26
    · refine a_bipush C (v := (-11 : Int32)) (q := 21) dX8_lacksRow_19 rfl (by decide) ?_
      refine a_goto C (q := 26) dX8_lacksRow_21 (by decide) ?_
      have hf := Option.some.inj hf; subst hf
      exact (show RetI F G Q cX8_lacksRow 5 .int (-11 : Int32) (s, t) from hK) rfl _ _ dX8_lacksRow_26
theorem c_X8_lacksRow (l : Launch) (G : GX) (s : MM) (t : SR) (v1 : Int32) (v2 : Int32) (v3 : Int32) (v4 : Int32) (res : Int32) (hf : f_X8_lacksRow t v1 v2 v3 v4 = some res) : MetC l G yX8_lacksRow cX8_lacksRow 5 (some .int) 3 (s, t) [.ref (G.2.1 39), .int v1, .int v2, .int v3, .int v4] (PostI G res (s, t)) :=
  m_I (by decide) (Nat.le_of_ble_eq_true rfl) (fun F Q C h1 h2 h3 hK => w_X8_lacksRow_e C (Rm.of h1 h3) s t v1 v2 v3 v4 res hf hK)
theorem cw_X8_item : CwV RX8 yX8_item cX8_item 6 4 (some .int) := ⟨k_1130, k_1128, k_1129, k_9, by decide +kernel, by decide⟩
def f_X8_item (t : SR) (v1 : Int32) (v2 : Int32) (v3 : Int32) (v4 : Int32) : Option (Int32 × SR) :=
  b1 (f_X8_isSheet v1 v2) (fun y_1 => (if y_1 = 0 then some ((-1 : Int32), t) else b1 (f_X8_lacksRow t v1 v2 v3 (1 : Int32)) (fun y_2 => (if 0 ≤ y_2 then b1 (f_X8_asLane v2 v4) (fun y_3 => ix (((24 : Int32) * v1) + v3) 96 (nm (sr1 t 56 ((((24 : Int32) * v1) + v3).toNatClampNeg) y_3) (fun t_4 => some ((1 : Int32), t_4)))) else some (y_2, t)))))
set_option maxHeartbeats 4000000 in
theorem w_X8_item_e {F : FX} {G : GX} {Q : State → Prop} (C : Cx F G cX8_item 6 RX8) (hR : Rm F 4) (s : MM) (t : SR)  (v1 : Int32) (v2 : Int32) (v3 : Int32) (v4 : Int32) (res : Int32 × SR) (hf : f_X8_item t v1 v2 v3 v4 = some res) (hK : RetI F G Q cX8_item 6 .int res.1 (s, res.2)) : At F G Q 6 0 [(0, .ref (G.2.1 39)), (1, .int v1), (2, .int v2), (3, .int v3), (4, .int v4)] [] (s, t) := by
  unfold f_X8_item at hf
  refine a_iload_n C (i := 1) (q := 1) dX8_item_0 rfl 1 rfl rfl ?_
  refine a_iload_n C (i := 2) (q := 2) dX8_item_1 rfl 2 rfl rfl ?_
  refine a_callSI C (q := 5) (As := [.int v1, .int v2]) (st := []) dX8_item_2 hR (by decide) hf (fun b => b) (fun _ => (s, t)) cw_X8_isSheet (fun b hb => c_X8_isSheet _ G s t v1 v2 b hb) rfl rfl (Nat.le_of_ble_eq_true rfl) k_1120 rfl (fun y_1 hf => ?_)
  refine a_if_ne C (tgt := 10) (q := 8) dX8_item_5 hf (by decide) rfl (fun hf => ?_) (fun hf => ?_)
  · refine a_aload_n C (i := 0) (q := 11) dX8_item_10 rfl 0 rfl rfl ?_
    refine a_iload_n C (i := 1) (q := 12) dX8_item_11 rfl 1 rfl rfl ?_
    refine a_iload_n C (i := 2) (q := 13) dX8_item_12 rfl 2 rfl rfl ?_
    refine a_iload_n C (i := 3) (q := 14) dX8_item_13 rfl 3 rfl rfl ?_
    refine a_iconst C (v := (1 : Int32)) (q := 15) dX8_item_14 rfl (by decide) ?_
    refine a_callVI C (q := 18) (As := [.int v1, .int v2, .int v3, .int (1 : Int32)]) (st := []) dX8_item_15 hR (by decide) hf (fun b => b) (fun _ => (s, t)) (by decide) rfl rfl cw_X8_lacksRow (fun b hb => c_X8_lacksRow _ G s t v1 v2 v3 (1 : Int32) b hb) rfl rfl (Nat.le_of_ble_eq_true rfl) k_1131 rfl (fun y_2 hf => ?_)
    refine a_istore C (i := 5) (q := 20) (lv' := [(5, .int y_2), (0, .ref (G.2.1 39)), (1, .int v1), (2, .int v2), (3, .int v3), (4, .int v4)]) dX8_item_18 (by decide) rfl rfl ?_
    refine a_iload C (i := 5) (q := 22) dX8_item_20 rfl 0 rfl ?_
    refine a_if_ge C (tgt := 28) (q := 25) dX8_item_22 hf (by decide) rfl (fun hf => ?_) (fun hf => ?_)
    · refine a_aload_n C (i := 0) (q := 29) dX8_item_28 rfl 1 rfl rfl ?_
      refine a_get8 C (q := 32) dX8_item_29 33 (by decide) k_801 (by decide) rfl rfl rfl ?_
      refine a_bipush C (v := (24 : Int32)) (q := 34) dX8_item_32 rfl (by decide) ?_
      refine a_iload_n C (i := 1) (q := 35) dX8_item_34 rfl 2 rfl rfl ?_
      refine a_imul C (q := 36) dX8_item_35 rfl ?_
      refine a_iload_n C (i := 3) (q := 37) dX8_item_36 rfl 4 rfl rfl ?_
      refine a_iadd C (q := 38) dX8_item_37 rfl ?_
      refine a_iload_n C (i := 2) (q := 39) dX8_item_38 rfl 3 rfl rfl ?_
      refine a_iload C (i := 4) (q := 41) dX8_item_39 rfl 5 rfl ?_
      refine a_callSI C (q := 44) (As := [.int v2, .int v4]) (st := [.int (((24 : Int32) * v1) + v3), .ref (G.2.1 56)]) dX8_item_41 hR (by decide) hf (fun b => b) (fun _ => (s, t)) cw_X8_asLane (fun b hb => c_X8_asLane _ G s t v2 v4 b hb) rfl rfl (Nat.le_of_ble_eq_true rfl) k_1135 rfl (fun y_3 hf => ?_)
      refine a_iastN C (q := 45) (mk := (fun z => (s, z))) dX8_item_44 hf (by decide) rfl rfl cellE_R1 rfl (fun t_4 hf => ?_)
      refine a_iconst C (v := (1 : Int32)) (q := 46) dX8_item_45 rfl (by decide) ?_
      have hf := Option.some.inj hf; subst hf
      exact (show RetI F G Q cX8_item 6 .int (1 : Int32) (s, t_4) from hK) rfl _ _ dX8_item_46
    · refine a_iload C (i := 5) (q := 27) dX8_item_25 rfl 0 rfl ?_
      have hf := Option.some.inj hf; subst hf
      exact (show RetI F G Q cX8_item 6 .int y_2 (s, t) from hK) rfl _ _ dX8_item_27
  · refine a_iconst C (v := (-1 : Int32)) (q := 9) dX8_item_8 rfl (by decide) ?_
    have hf := Option.some.inj hf; subst hf
    exact (show RetI F G Q cX8_item 6 .int (-1 : Int32) (s, t) from hK) rfl _ _ dX8_item_9
theorem c_X8_item (l : Launch) (G : GX) (s : MM) (t : SR) (v1 : Int32) (v2 : Int32) (v3 : Int32) (v4 : Int32) (res : Int32 × SR) (hf : f_X8_item t v1 v2 v3 v4 = some res) : MetC l G yX8_item cX8_item 6 (some .int) 4 (s, t) [.ref (G.2.1 39), .int v1, .int v2, .int v3, .int v4] (PostI G res.1 (s, res.2)) :=
  m_I (by decide) (Nat.le_of_ble_eq_true rfl) (fun F Q C h1 h2 h3 hK => w_X8_item_e C (Rm.of h1 h3) s t v1 v2 v3 v4 res hf hK)
theorem cw_X8_pour : CwV RX8 yX8_pour cX8_pour 8 3 (some .int) := ⟨k_1141, k_1139, k_1140, k_9, by decide +kernel, by decide⟩
def P_X8_pour_44 (F : FX) (G : GX) (Q : State → Prop) (s : MM) (v5 : Int32) (v6 : Int32) (t : SR) : Prop := At F G Q 8 44 [(0, .ref (G.2.1 39)), (5, .int v5), (6, .int v6)] [] (s, t)
def E_X8_pour_44 (F : FX) (G : GX) (Q : State → Prop) (s : MM) (v5 : Int32) : (Int32 × SR) ⊕ (SR) → Prop := fun q => match q with
  | .inl y => RetI F G Q cX8_pour 8 .int y.1 (s, y.2)
  | .inr t => At F G Q 8 109 [(0, .ref (G.2.1 39)), (5, .int v5)] [] (s, t)
def lb_X8_pour_44 (n : Nat) (v5 : Int32) (v6 : Int32) (t : SR) : Option (((Int32 × SR) ⊕ (SR)) ⊕ (Int32 × SR)) :=
  (if (12 : Int32) ≤ v6 then some (.inl (.inr t)) else ix (v5 + v6) 96 (b1 (f_X8_in ((t.1 56 ((v5 + v6).toNatClampNeg)).toInt64) (0 : Int64) (99 : Int64)) (fun y_5 => (if y_5 = 0 then some (.inl (.inl ((-2 : Int32), t))) else ix v6 12 (ix (v5 + v6) 96 (ix v6 12 (ix v6 12 (nm (sr1 t 45 v6.toNatClampNeg ((t.1 45 v6.toNatClampNeg) + ((t.1 56 ((v5 + v6).toNatClampNeg)) - (t.1 44 v6.toNatClampNeg)))) (fun t_6 => nm (v6 + 1) (fun v6_7 => some (.inr (v6_7, t_6))))))))))))
set_option maxHeartbeats 4000000 in
theorem w_X8_pour_44 {F : FX} {G : GX} {Q : State → Prop} (C : Cx F G cX8_pour 8 RX8) (hR : Rm F 5) (n : Nat) (s : MM) (v5 : Int32)  (v6 : Int32) (t : SR) (res : ((Int32 × SR) ⊕ (SR)) ⊕ (Int32 × SR)) (hf : lb_X8_pour_44 n v5 v6 t = some res) (hK : Sum.elim (E_X8_pour_44 F G Q s v5) (fun q => match q with | (v6, t) => P_X8_pour_44 F G Q s v5 v6 t) res) : P_X8_pour_44 F G Q s v5 v6 t := by
  unfold lb_X8_pour_44 at hf
  show At F G Q 8 44 [(0, .ref (G.2.1 39)), (5, .int v5), (6, .int v6)] [] (s, t)
  refine a_iload C (i := 6) (q := 46) dX8_pour_44 rfl 2 rfl ?_
  refine a_bipush C (v := (12 : Int32)) (q := 48) dX8_pour_46 rfl (by decide) ?_
  refine a_icmp_ge C (tgt := 109) (q := 51) dX8_pour_48 hf (by decide) rfl (fun hf => ?_) (fun hf => ?_)
  · have hf := Option.some.inj hf; subst hf
    exact a_sub [0, 1] rfl (show At F G Q 8 109 [(0, .ref (G.2.1 39)), (5, .int v5)] [] (s, t) from hK)
  · refine a_aload_n C (i := 0) (q := 52) dX8_pour_51 rfl 0 rfl rfl ?_
    refine a_get8 C (q := 55) dX8_pour_52 33 (by decide) k_801 (by decide) rfl rfl rfl ?_
    refine a_iload C (i := 5) (q := 57) dX8_pour_55 rfl 1 rfl ?_
    refine a_iload C (i := 6) (q := 59) dX8_pour_57 rfl 2 rfl ?_
    refine a_iadd C (q := 60) dX8_pour_59 rfl ?_
    refine a_iald C (q := 61) (g := t.1 56) dX8_pour_60 hf (by decide) rfl rfl (fun hf => ?_)
    refine a_i2l C (q := 62) dX8_pour_61 rfl ?_
    refine a_lconst C (v := (0 : Int64)) (q := 63) dX8_pour_62 rfl (by decide) ?_
    refine a_ldc2 C (v := (99 : Int64)) (q := 66) dX8_pour_63 rfl k_883 ?_
    refine a_callSI C (q := 69) (As := [.long ((t.1 56 ((v5 + v6).toNatClampNeg)).toInt64), .long (0 : Int64), .long (99 : Int64)]) (st := []) dX8_pour_66 hR (by decide) hf (fun b => b) (fun _ => (s, t)) cw_X8_in (fun b hb => c_X8_in _ G s t ((t.1 56 ((v5 + v6).toNatClampNeg)).toInt64) (0 : Int64) (99 : Int64) b hb) rfl rfl (Nat.le_of_ble_eq_true rfl) k_880 rfl (fun y_5 hf => ?_)
    refine a_if_ne C (tgt := 75) (q := 72) dX8_pour_69 hf (by decide) rfl (fun hf => ?_) (fun hf => ?_)
    · refine a_aload_n C (i := 0) (q := 76) dX8_pour_75 rfl 0 rfl rfl ?_
      refine a_get8 C (q := 79) dX8_pour_76 9 (by decide) k_777 (by decide) rfl rfl rfl ?_
      refine a_iload C (i := 6) (q := 81) dX8_pour_79 rfl 2 rfl ?_
      refine a_dup2 C (q := 82) dX8_pour_81 rfl rfl rfl ?_
      refine a_iald C (q := 83) (g := t.1 45) dX8_pour_82 hf (by decide) rfl rfl (fun hf => ?_)
      refine a_aload_n C (i := 0) (q := 84) dX8_pour_83 rfl 0 rfl rfl ?_
      refine a_get8 C (q := 87) dX8_pour_84 33 (by decide) k_801 (by decide) rfl rfl rfl ?_
      refine a_iload C (i := 5) (q := 89) dX8_pour_87 rfl 1 rfl ?_
      refine a_iload C (i := 6) (q := 91) dX8_pour_89 rfl 2 rfl ?_
      refine a_iadd C (q := 92) dX8_pour_91 rfl ?_
      refine a_iald C (q := 93) (g := t.1 56) dX8_pour_92 hf (by decide) rfl rfl (fun hf => ?_)
      refine a_aload_n C (i := 0) (q := 94) dX8_pour_93 rfl 0 rfl rfl ?_
      refine a_get8 C (q := 97) dX8_pour_94 5 (by decide) k_773 (by decide) rfl rfl rfl ?_
      refine a_iload C (i := 6) (q := 99) dX8_pour_97 rfl 2 rfl ?_
      refine a_iald C (q := 100) (g := t.1 44) dX8_pour_99 hf (by decide) rfl rfl (fun hf => ?_)
      refine a_isub C (q := 101) dX8_pour_100 rfl ?_
      refine a_iadd C (q := 102) dX8_pour_101 rfl ?_
      refine a_iastN C (q := 103) (mk := (fun z => (s, z))) dX8_pour_102 hf (by decide) rfl rfl cellE_R1 rfl (fun t_6 hf => ?_)
      refine a_iincN C (i := 6) (k := 2) (q := 106) (lv' := fun z => [(6, .int z), (0, .ref (G.2.1 39)), (5, .int v5)]) dX8_pour_103 hf rfl rfl (by decide) (fun _ => rfl) rfl (fun v6_7 hf => ?_)
      refine a_goto C (q := 44) dX8_pour_106 (by decide) ?_
      have hf := Option.some.inj hf; subst hf
      exact a_sub [1, 2, 0] rfl (show At F G Q 8 44 [(0, .ref (G.2.1 39)), (5, .int v5), (6, .int v6_7)] [] (s, t_6) from hK)
    · refine a_bipush C (v := (-2 : Int32)) (q := 74) dX8_pour_72 rfl (by decide) ?_
      have hf := Option.some.inj hf; subst hf
      exact (show RetI F G Q cX8_pour 8 .int (-2 : Int32) (s, t) from hK) rfl _ _ dX8_pour_74
theorem lp_X8_pour_44 {F : FX} {G : GX} {Q : State → Prop} (C : Cx F G cX8_pour 8 RX8) (hR : Rm F 5) (n : Nat) (s : MM) (v5 : Int32)  (v6 : Int32) (t : SR) (x : (Int32 × SR) ⊕ (SR)) (h : it2 (lb_X8_pour_44 n v5) n v6 t = some x) (hE : E_X8_pour_44 F G Q s v5 x) : At F G Q 8 44 [(0, .ref (G.2.1 39)), (5, .int v5), (6, .int v6)] [] (s, t) :=
  it2_ind (b := (lb_X8_pour_44 n v5)) (E := E_X8_pour_44 F G Q s v5) (P := fun v6 t => P_X8_pour_44 F G Q s v5 v6 t) (fun v6 t res hf hK => w_X8_pour_44 C hR n s v5   v6 t res hf hK) n v6 t x h hE
def P_X8_pour_125 (F : FX) (G : GX) (Q : State → Prop) (s : MM) (v5 : Int32) (v6 : Int32) (v7 : Int32) (t : SR) : Prop := At F G Q 8 125 [(0, .ref (G.2.1 39)), (5, .int v5), (6, .int v6), (7, .int v7)] [] (s, t)
def E_X8_pour_125 (F : FX) (G : GX) (Q : State → Prop) (s : MM) (v5 : Int32) : Int32 × SR → Prop := fun q => match q with
  | (v6, t) => At F G Q 8 167 [(6, .int v6)] [] (s, t)
def lb_X8_pour_125 (n : Nat) (v5 : Int32) (v6 : Int32) (v7 : Int32) (t : SR) : Option ((Int32 × SR) ⊕ (Int32 × Int32 × SR)) :=
  (if (12 : Int32) ≤ v7 then some (.inl (v6, t)) else ix (v5 + v7) 96 (ix v7 12 (nm (sr1 t 44 v7.toNatClampNeg (t.1 56 ((v5 + v7).toNatClampNeg))) (fun t_10 => ix v7 12 (nm (v6 + (t_10.1 44 v7.toNatClampNeg)) (fun v6_11 => nm (v7 + 1) (fun v7_12 => some (.inr (v6_11, v7_12, t_10)))))))))
set_option maxHeartbeats 4000000 in
theorem w_X8_pour_125 {F : FX} {G : GX} {Q : State → Prop} (C : Cx F G cX8_pour 8 RX8) (hR : Rm F 5) (n : Nat) (s : MM) (v5 : Int32)  (v6 : Int32) (v7 : Int32) (t : SR) (res : (Int32 × SR) ⊕ (Int32 × Int32 × SR)) (hf : lb_X8_pour_125 n v5 v6 v7 t = some res) (hK : Sum.elim (E_X8_pour_125 F G Q s v5) (fun q => match q with | (v6, v7, t) => P_X8_pour_125 F G Q s v5 v6 v7 t) res) : P_X8_pour_125 F G Q s v5 v6 v7 t := by
  unfold lb_X8_pour_125 at hf
  show At F G Q 8 125 [(0, .ref (G.2.1 39)), (5, .int v5), (6, .int v6), (7, .int v7)] [] (s, t)
  refine a_iload C (i := 7) (q := 127) dX8_pour_125 rfl 3 rfl ?_
  refine a_bipush C (v := (12 : Int32)) (q := 129) dX8_pour_127 rfl (by decide) ?_
  refine a_icmp_ge C (tgt := 167) (q := 132) dX8_pour_129 hf (by decide) rfl (fun hf => ?_) (fun hf => ?_)
  · have hf := Option.some.inj hf; subst hf
    exact a_sub [2] rfl (show At F G Q 8 167 [(6, .int v6)] [] (s, t) from hK)
  · refine a_aload_n C (i := 0) (q := 133) dX8_pour_132 rfl 0 rfl rfl ?_
    refine a_get8 C (q := 136) dX8_pour_133 5 (by decide) k_773 (by decide) rfl rfl rfl ?_
    refine a_iload C (i := 7) (q := 138) dX8_pour_136 rfl 3 rfl ?_
    refine a_aload_n C (i := 0) (q := 139) dX8_pour_138 rfl 0 rfl rfl ?_
    refine a_get8 C (q := 142) dX8_pour_139 33 (by decide) k_801 (by decide) rfl rfl rfl ?_
    refine a_iload C (i := 5) (q := 144) dX8_pour_142 rfl 1 rfl ?_
    refine a_iload C (i := 7) (q := 146) dX8_pour_144 rfl 3 rfl ?_
    refine a_iadd C (q := 147) dX8_pour_146 rfl ?_
    refine a_iald C (q := 148) (g := t.1 56) dX8_pour_147 hf (by decide) rfl rfl (fun hf => ?_)
    refine a_iastN C (q := 149) (mk := (fun z => (s, z))) dX8_pour_148 hf (by decide) rfl rfl cellE_R1 rfl (fun t_10 hf => ?_)
    refine a_iload C (i := 6) (q := 151) dX8_pour_149 rfl 2 rfl ?_
    refine a_aload_n C (i := 0) (q := 152) dX8_pour_151 rfl 0 rfl rfl ?_
    refine a_get8 C (q := 155) dX8_pour_152 5 (by decide) k_773 (by decide) rfl rfl rfl ?_
    refine a_iload C (i := 7) (q := 157) dX8_pour_155 rfl 3 rfl ?_
    refine a_iald C (q := 158) (g := t_10.1 44) dX8_pour_157 hf (by decide) rfl rfl (fun hf => ?_)
    refine a_iadd C (q := 159) dX8_pour_158 rfl ?_
    refine a_istoreN C (i := 6) (q := 161) (lv' := fun z => [(6, .int z), (0, .ref (G.2.1 39)), (5, .int v5), (7, .int v7)]) dX8_pour_159 hf (by decide) (fun _ => rfl) rfl (fun v6_11 hf => ?_)
    refine a_iincN C (i := 7) (k := 3) (q := 164) (lv' := fun z => [(7, .int z), (6, .int v6_11), (0, .ref (G.2.1 39)), (5, .int v5)]) dX8_pour_161 hf rfl rfl (by decide) (fun _ => rfl) rfl (fun v7_12 hf => ?_)
    refine a_goto C (q := 125) dX8_pour_164 (by decide) ?_
    have hf := Option.some.inj hf; subst hf
    exact a_sub [2, 3, 1, 0] rfl (show At F G Q 8 125 [(0, .ref (G.2.1 39)), (5, .int v5), (6, .int v6_11), (7, .int v7_12)] [] (s, t_10) from hK)
theorem lp_X8_pour_125 {F : FX} {G : GX} {Q : State → Prop} (C : Cx F G cX8_pour 8 RX8) (hR : Rm F 5) (n : Nat) (s : MM) (v5 : Int32)  (v6 : Int32) (v7 : Int32) (t : SR) (x : Int32 × SR) (h : it3 (lb_X8_pour_125 n v5) n v6 v7 t = some x) (hE : E_X8_pour_125 F G Q s v5 x) : At F G Q 8 125 [(0, .ref (G.2.1 39)), (5, .int v5), (6, .int v6), (7, .int v7)] [] (s, t) :=
  it3_ind (b := (lb_X8_pour_125 n v5)) (E := E_X8_pour_125 F G Q s v5) (P := fun v6 v7 t => P_X8_pour_125 F G Q s v5 v6 v7 t) (fun v6 v7 t res hf hK => w_X8_pour_125 C hR n s v5   v6 v7 t res hf hK) n v6 v7 t x h hE
def f_X8_pour (n : Nat) (t : SR) (v1 : Int32) (v2 : Int32) (v3 : Int32) : Option (Int32 × SR) :=
  b1 (f_X8_isSheet v1 v2) (fun y_1 => (if y_1 = 0 then some ((-1 : Int32), t) else b1 (f_X8_lacksRow t v1 v2 v3 (12 : Int32)) (fun y_2 => (if 0 ≤ y_2 then nm (((24 : Int32) * v1) + v3) (fun v5_3 => b1 (f_X8_findLoads n t) (fun y_4 => bR (it2 (lb_X8_pour_44 n v5_3) n (0 : Int32) y_4) (fun y => some y) (fun t_8 => b1 (f_X8_isEvenNow n t_8) (fun y_9 => (if y_9.1 = 0 then some ((-2 : Int32), y_9.2) else b2 (it3 (lb_X8_pour_125 n v5_3) n (0 : Int32) (0 : Int32) y_9.2) (fun v6_13 t_14 => some (v6_13, t_14))))))) else some (y_2, t)))))
set_option maxHeartbeats 4000000 in
theorem w_X8_pour_e {F : FX} {G : GX} {Q : State → Prop} (C : Cx F G cX8_pour 8 RX8) (hR : Rm F 5) (n : Nat) (s : MM) (t : SR)  (v1 : Int32) (v2 : Int32) (v3 : Int32) (res : Int32 × SR) (hf : f_X8_pour n t v1 v2 v3 = some res) (hK : RetI F G Q cX8_pour 8 .int res.1 (s, res.2)) : At F G Q 8 0 [(0, .ref (G.2.1 39)), (1, .int v1), (2, .int v2), (3, .int v3)] [] (s, t) := by
  unfold f_X8_pour at hf
  refine a_iload_n C (i := 1) (q := 1) dX8_pour_0 rfl 1 rfl rfl ?_
  refine a_iload_n C (i := 2) (q := 2) dX8_pour_1 rfl 2 rfl rfl ?_
  refine a_callSI C (q := 5) (As := [.int v1, .int v2]) (st := []) dX8_pour_2 hR (by decide) hf (fun b => b) (fun _ => (s, t)) cw_X8_isSheet (fun b hb => c_X8_isSheet _ G s t v1 v2 b hb) rfl rfl (Nat.le_of_ble_eq_true rfl) k_1120 rfl (fun y_1 hf => ?_)
  refine a_if_ne C (tgt := 10) (q := 8) dX8_pour_5 hf (by decide) rfl (fun hf => ?_) (fun hf => ?_)
  · refine a_aload_n C (i := 0) (q := 11) dX8_pour_10 rfl 0 rfl rfl ?_
    refine a_iload_n C (i := 1) (q := 12) dX8_pour_11 rfl 1 rfl rfl ?_
    refine a_iload_n C (i := 2) (q := 13) dX8_pour_12 rfl 2 rfl rfl ?_
    refine a_iload_n C (i := 3) (q := 14) dX8_pour_13 rfl 3 rfl rfl ?_
    refine a_bipush C (v := (12 : Int32)) (q := 16) dX8_pour_14 rfl (by decide) ?_
    refine a_callVI C (q := 19) (As := [.int v1, .int v2, .int v3, .int (12 : Int32)]) (st := []) dX8_pour_16 hR (by decide) hf (fun b => b) (fun _ => (s, t)) (by decide) rfl rfl cw_X8_lacksRow (fun b hb => c_X8_lacksRow _ G s t v1 v2 v3 (12 : Int32) b hb) rfl rfl (Nat.le_of_ble_eq_true rfl) k_1131 rfl (fun y_2 hf => ?_)
    refine a_istore C (i := 4) (q := 21) (lv' := [(4, .int y_2), (0, .ref (G.2.1 39)), (1, .int v1), (2, .int v2), (3, .int v3)]) dX8_pour_19 (by decide) rfl rfl ?_
    refine a_iload C (i := 4) (q := 23) dX8_pour_21 rfl 0 rfl ?_
    refine a_if_ge C (tgt := 29) (q := 26) dX8_pour_23 hf (by decide) rfl (fun hf => ?_) (fun hf => ?_)
    · refine a_bipush C (v := (24 : Int32)) (q := 31) dX8_pour_29 rfl (by decide) ?_
      refine a_iload_n C (i := 1) (q := 32) dX8_pour_31 rfl 2 rfl rfl ?_
      refine a_imul C (q := 33) dX8_pour_32 rfl ?_
      refine a_iload_n C (i := 3) (q := 34) dX8_pour_33 rfl 4 rfl rfl ?_
      refine a_iadd C (q := 35) dX8_pour_34 rfl ?_
      refine a_istoreN C (i := 5) (q := 37) (lv' := fun z => [(5, .int z), (4, .int y_2), (0, .ref (G.2.1 39)), (1, .int v1), (2, .int v2), (3, .int v3)]) dX8_pour_35 hf (by decide) (fun _ => rfl) rfl (fun v5_3 hf => ?_)
      refine a_aload_n C (i := 0) (q := 38) dX8_pour_37 rfl 2 rfl rfl ?_
      refine a_callVV C (q := 41) (As := []) (st := []) dX8_pour_38 hR (by decide) hf (fun b => (s, b)) (by decide) rfl rfl cw_X8_findLoads (fun b hb => c_X8_findLoads _ G n s t b hb) rfl rfl (Nat.le_of_ble_eq_true rfl) k_928 rfl (fun y_4 hf => ?_)
      refine a_iconst C (v := (0 : Int32)) (q := 42) dX8_pour_41 rfl (by decide) ?_
      refine a_istore C (i := 6) (q := 44) (lv' := [(6, .int (0 : Int32)), (5, .int v5_3), (4, .int y_2), (0, .ref (G.2.1 39)), (1, .int v1), (2, .int v2), (3, .int v3)]) dX8_pour_42 (by decide) rfl rfl ?_
      rcases bR_some hf with ⟨y, h1, hf⟩ | ⟨t_8, h1, hf⟩
      · refine a_sub [3, 1, 0] rfl (lp_X8_pour_44 C hR n s v5_3  (0 : Int32) y_4 _ h1 ?_)
        have hf := Option.some.inj hf; subst hf
        exact hK
      · refine a_sub [3, 1, 0] rfl (lp_X8_pour_44 C hR n s v5_3  (0 : Int32) y_4 _ h1 ?_)
        show At F G Q 8 109 [(0, .ref (G.2.1 39)), (5, .int v5_3)] [] (s, t_8)
        refine a_aload_n C (i := 0) (q := 110) dX8_pour_109 rfl 0 rfl rfl ?_
        refine a_callVI C (q := 113) (As := []) (st := []) dX8_pour_110 hR (by decide) hf (fun b => b.1) (fun b => (s, b.2)) (by decide) rfl rfl cw_X8_isEvenNow (fun b hb => c_X8_isEvenNow _ G n s t_8 b hb) rfl rfl (Nat.le_of_ble_eq_true rfl) k_932 rfl (fun y_9 hf => ?_)
        refine a_if_ne C (tgt := 119) (q := 116) dX8_pour_113 hf (by decide) rfl (fun hf => ?_) (fun hf => ?_)
        · refine a_iconst C (v := (0 : Int32)) (q := 120) dX8_pour_119 rfl (by decide) ?_
          refine a_istore C (i := 6) (q := 122) (lv' := [(6, .int (0 : Int32)), (0, .ref (G.2.1 39)), (5, .int v5_3)]) dX8_pour_120 (by decide) rfl rfl ?_
          refine a_iconst C (v := (0 : Int32)) (q := 123) dX8_pour_122 rfl (by decide) ?_
          refine a_istore C (i := 7) (q := 125) (lv' := [(7, .int (0 : Int32)), (6, .int (0 : Int32)), (0, .ref (G.2.1 39)), (5, .int v5_3)]) dX8_pour_123 (by decide) rfl rfl ?_
          obtain ⟨v6_13, t_14, h1, hf⟩ := b2_some hf
          refine a_sub [2, 3, 1, 0] rfl (lp_X8_pour_125 C hR n s v5_3  (0 : Int32) (0 : Int32) y_9.2 _ h1 ?_)
          show At F G Q 8 167 [(6, .int v6_13)] [] (s, t_14)
          refine a_iload C (i := 6) (q := 169) dX8_pour_167 rfl 0 rfl ?_
          have hf := Option.some.inj hf; subst hf
          exact (show RetI F G Q cX8_pour 8 .int v6_13 (s, t_14) from hK) rfl _ _ dX8_pour_169
        · refine a_bipush C (v := (-2 : Int32)) (q := 118) dX8_pour_116 rfl (by decide) ?_
          have hf := Option.some.inj hf; subst hf
          exact (show RetI F G Q cX8_pour 8 .int (-2 : Int32) (s, y_9.2) from hK) rfl _ _ dX8_pour_118
    · refine a_iload C (i := 4) (q := 28) dX8_pour_26 rfl 0 rfl ?_
      have hf := Option.some.inj hf; subst hf
      exact (show RetI F G Q cX8_pour 8 .int y_2 (s, t) from hK) rfl _ _ dX8_pour_28
  · refine a_iconst C (v := (-1 : Int32)) (q := 9) dX8_pour_8 rfl (by decide) ?_
    have hf := Option.some.inj hf; subst hf
    exact (show RetI F G Q cX8_pour 8 .int (-1 : Int32) (s, t) from hK) rfl _ _ dX8_pour_9
theorem c_X8_pour (l : Launch) (G : GX) (n : Nat) (s : MM) (t : SR) (v1 : Int32) (v2 : Int32) (v3 : Int32) (res : Int32 × SR) (hf : f_X8_pour n t v1 v2 v3 = some res) : MetC l G yX8_pour cX8_pour 8 (some .int) 5 (s, t) [.ref (G.2.1 39), .int v1, .int v2, .int v3] (PostI G res.1 (s, res.2)) :=
  m_I (by decide) (Nat.le_of_ble_eq_true rfl) (fun F Q C h1 h2 h3 hK => w_X8_pour_e C (Rm.of h1 h3) n s t v1 v2 v3 res hf hK)
theorem cw_X8_film : CwV RX8 yX8_film cX8_film 6 3 (some .int) := ⟨k_1145, k_1143, k_1144, k_9, by decide +kernel, by decide⟩
def P_X8_film_36 (F : FX) (G : GX) (Q : State → Prop) (s : MM) (v1 : Int32) (v2 : Int32) (v3 : Int32) (v5 : Int32) (t : SR) : Prop := At F G Q 6 36 [(0, .ref (G.2.1 39)), (1, .int v1), (2, .int v2), (3, .int v3), (5, .int v5)] [] (s, t)
def E_X8_film_36 (F : FX) (G : GX) (Q : State → Prop) (s : MM) (v1 : Int32) (v2 : Int32) (v3 : Int32) : SR → Prop := fun q => match q with
  | t => At F G Q 6 74 [] [] (s, t)
def lb_X8_film_36 (n : Nat) (v1 : Int32) (v2 : Int32) (v3 : Int32) (v5 : Int32) (t : SR) : Option ((SR) ⊕ (Int32 × SR)) :=
  (if (12 : Int32) ≤ v5 then some (.inl t) else ix v5 12 (b1 (f_X8_asLane v2 (t.1 45 v5.toNatClampNeg)) (fun y_4 => ix ((((24 : Int32) * v1) + v3) + v5) 96 (nm (sr1 t 56 (((((24 : Int32) * v1) + v3) + v5).toNatClampNeg) y_4) (fun t_5 => nm (v5 + 1) (fun v5_6 => some (.inr (v5_6, t_5))))))))
set_option maxHeartbeats 4000000 in
theorem w_X8_film_36 {F : FX} {G : GX} {Q : State → Prop} (C : Cx F G cX8_film 6 RX8) (hR : Rm F 4) (n : Nat) (s : MM) (v1 : Int32) (v2 : Int32) (v3 : Int32)  (v5 : Int32) (t : SR) (res : (SR) ⊕ (Int32 × SR)) (hf : lb_X8_film_36 n v1 v2 v3 v5 t = some res) (hK : Sum.elim (E_X8_film_36 F G Q s v1 v2 v3) (fun q => match q with | (v5, t) => P_X8_film_36 F G Q s v1 v2 v3 v5 t) res) : P_X8_film_36 F G Q s v1 v2 v3 v5 t := by
  unfold lb_X8_film_36 at hf
  show At F G Q 6 36 [(0, .ref (G.2.1 39)), (1, .int v1), (2, .int v2), (3, .int v3), (5, .int v5)] [] (s, t)
  refine a_iload C (i := 5) (q := 38) dX8_film_36 rfl 4 rfl ?_
  refine a_bipush C (v := (12 : Int32)) (q := 40) dX8_film_38 rfl (by decide) ?_
  refine a_icmp_ge C (tgt := 74) (q := 43) dX8_film_40 hf (by decide) rfl (fun hf => ?_) (fun hf => ?_)
  · have hf := Option.some.inj hf; subst hf
    exact a_sub [] rfl (show At F G Q 6 74 [] [] (s, t) from hK)
  · refine a_aload_n C (i := 0) (q := 44) dX8_film_43 rfl 0 rfl rfl ?_
    refine a_get8 C (q := 47) dX8_film_44 33 (by decide) k_801 (by decide) rfl rfl rfl ?_
    refine a_bipush C (v := (24 : Int32)) (q := 49) dX8_film_47 rfl (by decide) ?_
    refine a_iload_n C (i := 1) (q := 50) dX8_film_49 rfl 1 rfl rfl ?_
    refine a_imul C (q := 51) dX8_film_50 rfl ?_
    refine a_iload_n C (i := 3) (q := 52) dX8_film_51 rfl 3 rfl rfl ?_
    refine a_iadd C (q := 53) dX8_film_52 rfl ?_
    refine a_iload C (i := 5) (q := 55) dX8_film_53 rfl 4 rfl ?_
    refine a_iadd C (q := 56) dX8_film_55 rfl ?_
    refine a_iload_n C (i := 2) (q := 57) dX8_film_56 rfl 2 rfl rfl ?_
    refine a_aload_n C (i := 0) (q := 58) dX8_film_57 rfl 0 rfl rfl ?_
    refine a_get8 C (q := 61) dX8_film_58 9 (by decide) k_777 (by decide) rfl rfl rfl ?_
    refine a_iload C (i := 5) (q := 63) dX8_film_61 rfl 4 rfl ?_
    refine a_iald C (q := 64) (g := t.1 45) dX8_film_63 hf (by decide) rfl rfl (fun hf => ?_)
    refine a_callSI C (q := 67) (As := [.int v2, .int (t.1 45 v5.toNatClampNeg)]) (st := [.int ((((24 : Int32) * v1) + v3) + v5), .ref (G.2.1 56)]) dX8_film_64 hR (by decide) hf (fun b => b) (fun _ => (s, t)) cw_X8_asLane (fun b hb => c_X8_asLane _ G s t v2 (t.1 45 v5.toNatClampNeg) b hb) rfl rfl (Nat.le_of_ble_eq_true rfl) k_1135 rfl (fun y_4 hf => ?_)
    refine a_iastN C (q := 68) (mk := (fun z => (s, z))) dX8_film_67 hf (by decide) rfl rfl cellE_R1 rfl (fun t_5 hf => ?_)
    refine a_iincN C (i := 5) (k := 4) (q := 71) (lv' := fun z => [(5, .int z), (0, .ref (G.2.1 39)), (1, .int v1), (2, .int v2), (3, .int v3)]) dX8_film_68 hf rfl rfl (by decide) (fun _ => rfl) rfl (fun v5_6 hf => ?_)
    refine a_goto C (q := 36) dX8_film_71 (by decide) ?_
    have hf := Option.some.inj hf; subst hf
    exact a_sub [1, 2, 3, 4, 0] rfl (show At F G Q 6 36 [(0, .ref (G.2.1 39)), (1, .int v1), (2, .int v2), (3, .int v3), (5, .int v5_6)] [] (s, t_5) from hK)
theorem lp_X8_film_36 {F : FX} {G : GX} {Q : State → Prop} (C : Cx F G cX8_film 6 RX8) (hR : Rm F 4) (n : Nat) (s : MM) (v1 : Int32) (v2 : Int32) (v3 : Int32)  (v5 : Int32) (t : SR) (x : SR) (h : it2 (lb_X8_film_36 n v1 v2 v3) n v5 t = some x) (hE : E_X8_film_36 F G Q s v1 v2 v3 x) : At F G Q 6 36 [(0, .ref (G.2.1 39)), (1, .int v1), (2, .int v2), (3, .int v3), (5, .int v5)] [] (s, t) :=
  it2_ind (b := (lb_X8_film_36 n v1 v2 v3)) (E := E_X8_film_36 F G Q s v1 v2 v3) (P := fun v5 t => P_X8_film_36 F G Q s v1 v2 v3 v5 t) (fun v5 t res hf hK => w_X8_film_36 C hR n s v1 v2 v3   v5 t res hf hK) n v5 t x h hE
def f_X8_film (n : Nat) (t : SR) (v1 : Int32) (v2 : Int32) (v3 : Int32) : Option (Int32 × SR) :=
  b1 (f_X8_isSheet v1 v2) (fun y_1 => (if y_1 = 0 then some ((-1 : Int32), t) else b1 (f_X8_lacksRow t v1 v2 v3 (12 : Int32)) (fun y_2 => (if 0 ≤ y_2 then b1 (f_X8_findLoads n t) (fun y_3 => b1 (it2 (lb_X8_film_36 n v1 v2 v3) n (0 : Int32) y_3) (fun t_7 => some ((12 : Int32), t_7))) else some (y_2, t)))))
set_option maxHeartbeats 4000000 in
theorem w_X8_film_e {F : FX} {G : GX} {Q : State → Prop} (C : Cx F G cX8_film 6 RX8) (hR : Rm F 4) (n : Nat) (s : MM) (t : SR)  (v1 : Int32) (v2 : Int32) (v3 : Int32) (res : Int32 × SR) (hf : f_X8_film n t v1 v2 v3 = some res) (hK : RetI F G Q cX8_film 6 .int res.1 (s, res.2)) : At F G Q 6 0 [(0, .ref (G.2.1 39)), (1, .int v1), (2, .int v2), (3, .int v3)] [] (s, t) := by
  unfold f_X8_film at hf
  refine a_iload_n C (i := 1) (q := 1) dX8_film_0 rfl 1 rfl rfl ?_
  refine a_iload_n C (i := 2) (q := 2) dX8_film_1 rfl 2 rfl rfl ?_
  refine a_callSI C (q := 5) (As := [.int v1, .int v2]) (st := []) dX8_film_2 hR (by decide) hf (fun b => b) (fun _ => (s, t)) cw_X8_isSheet (fun b hb => c_X8_isSheet _ G s t v1 v2 b hb) rfl rfl (Nat.le_of_ble_eq_true rfl) k_1120 rfl (fun y_1 hf => ?_)
  refine a_if_ne C (tgt := 10) (q := 8) dX8_film_5 hf (by decide) rfl (fun hf => ?_) (fun hf => ?_)
  · refine a_aload_n C (i := 0) (q := 11) dX8_film_10 rfl 0 rfl rfl ?_
    refine a_iload_n C (i := 1) (q := 12) dX8_film_11 rfl 1 rfl rfl ?_
    refine a_iload_n C (i := 2) (q := 13) dX8_film_12 rfl 2 rfl rfl ?_
    refine a_iload_n C (i := 3) (q := 14) dX8_film_13 rfl 3 rfl rfl ?_
    refine a_bipush C (v := (12 : Int32)) (q := 16) dX8_film_14 rfl (by decide) ?_
    refine a_callVI C (q := 19) (As := [.int v1, .int v2, .int v3, .int (12 : Int32)]) (st := []) dX8_film_16 hR (by decide) hf (fun b => b) (fun _ => (s, t)) (by decide) rfl rfl cw_X8_lacksRow (fun b hb => c_X8_lacksRow _ G s t v1 v2 v3 (12 : Int32) b hb) rfl rfl (Nat.le_of_ble_eq_true rfl) k_1131 rfl (fun y_2 hf => ?_)
    refine a_istore C (i := 4) (q := 21) (lv' := [(4, .int y_2), (0, .ref (G.2.1 39)), (1, .int v1), (2, .int v2), (3, .int v3)]) dX8_film_19 (by decide) rfl rfl ?_
    refine a_iload C (i := 4) (q := 23) dX8_film_21 rfl 0 rfl ?_
    refine a_if_ge C (tgt := 29) (q := 26) dX8_film_23 hf (by decide) rfl (fun hf => ?_) (fun hf => ?_)
    · refine a_aload_n C (i := 0) (q := 30) dX8_film_29 rfl 1 rfl rfl ?_
      refine a_callVV C (q := 33) (As := []) (st := []) dX8_film_30 hR (by decide) hf (fun b => (s, b)) (by decide) rfl rfl cw_X8_findLoads (fun b hb => c_X8_findLoads _ G n s t b hb) rfl rfl (Nat.le_of_ble_eq_true rfl) k_928 rfl (fun y_3 hf => ?_)
      refine a_iconst C (v := (0 : Int32)) (q := 34) dX8_film_33 rfl (by decide) ?_
      refine a_istore C (i := 5) (q := 36) (lv' := [(5, .int (0 : Int32)), (4, .int y_2), (0, .ref (G.2.1 39)), (1, .int v1), (2, .int v2), (3, .int v3)]) dX8_film_34 (by decide) rfl rfl ?_
      obtain ⟨t_7, h1, hf⟩ := b1_some hf
      refine a_sub [2, 3, 4, 5, 0] rfl (lp_X8_film_36 C hR n s v1 v2 v3  (0 : Int32) y_3 _ h1 ?_)
      show At F G Q 6 74 [] [] (s, t_7)
      refine a_bipush C (v := (12 : Int32)) (q := 76) dX8_film_74 rfl (by decide) ?_
      have hf := Option.some.inj hf; subst hf
      exact (show RetI F G Q cX8_film 6 .int (12 : Int32) (s, t_7) from hK) rfl _ _ dX8_film_76
    · refine a_iload C (i := 4) (q := 28) dX8_film_26 rfl 0 rfl ?_
      have hf := Option.some.inj hf; subst hf
      exact (show RetI F G Q cX8_film 6 .int y_2 (s, t) from hK) rfl _ _ dX8_film_28
  · refine a_iconst C (v := (-1 : Int32)) (q := 9) dX8_film_8 rfl (by decide) ?_
    have hf := Option.some.inj hf; subst hf
    exact (show RetI F G Q cX8_film 6 .int (-1 : Int32) (s, t) from hK) rfl _ _ dX8_film_9
theorem c_X8_film (l : Launch) (G : GX) (n : Nat) (s : MM) (t : SR) (v1 : Int32) (v2 : Int32) (v3 : Int32) (res : Int32 × SR) (hf : f_X8_film n t v1 v2 v3 = some res) : MetC l G yX8_film cX8_film 6 (some .int) 4 (s, t) [.ref (G.2.1 39), .int v1, .int v2, .int v3] (PostI G res.1 (s, res.2)) :=
  m_I (by decide) (Nat.le_of_ble_eq_true rfl) (fun F Q C h1 h2 h3 hK => w_X8_film_e C (Rm.of h1 h3) n s t v1 v2 v3 res hf hK)
theorem cw_X8_copy : CwV RX8 yX8_copy cX8_copy 7 5 (some .int) := ⟨k_1149, k_1147, k_1148, k_9, by decide +kernel, by decide⟩
def P_X8_copy_117 (F : FX) (G : GX) (Q : State → Prop) (s : MM) (v1 : Int32) (v2 : Int32) (v3 : Int32) (v4 : Int32) (v5 : Int32) (v6 : Int32) (t : SR) : Prop := At F G Q 7 117 [(0, .ref (G.2.1 39)), (1, .int v1), (2, .int v2), (3, .int v3), (4, .int v4), (5, .int v5), (6, .int v6)] [] (s, t)
def E_X8_copy_117 (F : FX) (G : GX) (Q : State → Prop) (s : MM) (v1 : Int32) (v2 : Int32) (v3 : Int32) (v4 : Int32) (v5 : Int32) : SR → Prop := fun q => match q with
  | t => At F G Q 7 151 [(0, .ref (G.2.1 39)), (3, .int v3), (4, .int v4), (5, .int v5)] [] (s, t)
def lb_X8_copy_117 (n : Nat) (v1 : Int32) (v2 : Int32) (v3 : Int32) (v4 : Int32) (v5 : Int32) (v6 : Int32) (t : SR) : Option ((SR) ⊕ (Int32 × SR)) :=
  (if v5 ≤ v6 then some (.inl t) else ix ((((24 : Int32) * v1) + v2) + v6) 96 (ix v6 24 (nm (sr1 t 57 v6.toNatClampNeg (t.1 56 (((((24 : Int32) * v1) + v2) + v6).toNatClampNeg))) (fun t_5 => nm (v6 + 1) (fun v6_6 => some (.inr (v6_6, t_5)))))))
set_option maxHeartbeats 4000000 in
theorem w_X8_copy_117 {F : FX} {G : GX} {Q : State → Prop} (C : Cx F G cX8_copy 7 RX8) (hR : Rm F 3) (n : Nat) (s : MM) (v1 : Int32) (v2 : Int32) (v3 : Int32) (v4 : Int32) (v5 : Int32)  (v6 : Int32) (t : SR) (res : (SR) ⊕ (Int32 × SR)) (hf : lb_X8_copy_117 n v1 v2 v3 v4 v5 v6 t = some res) (hK : Sum.elim (E_X8_copy_117 F G Q s v1 v2 v3 v4 v5) (fun q => match q with | (v6, t) => P_X8_copy_117 F G Q s v1 v2 v3 v4 v5 v6 t) res) : P_X8_copy_117 F G Q s v1 v2 v3 v4 v5 v6 t := by
  unfold lb_X8_copy_117 at hf
  show At F G Q 7 117 [(0, .ref (G.2.1 39)), (1, .int v1), (2, .int v2), (3, .int v3), (4, .int v4), (5, .int v5), (6, .int v6)] [] (s, t)
  refine a_iload C (i := 6) (q := 119) dX8_copy_117 rfl 6 rfl ?_
  refine a_iload C (i := 5) (q := 121) dX8_copy_119 rfl 5 rfl ?_
  refine a_icmp_ge C (tgt := 151) (q := 124) dX8_copy_121 hf (by decide) rfl (fun hf => ?_) (fun hf => ?_)
  · have hf := Option.some.inj hf; subst hf
    exact a_sub [0, 3, 4, 5] rfl (show At F G Q 7 151 [(0, .ref (G.2.1 39)), (3, .int v3), (4, .int v4), (5, .int v5)] [] (s, t) from hK)
  · refine a_aload_n C (i := 0) (q := 125) dX8_copy_124 rfl 0 rfl rfl ?_
    refine a_get8 C (q := 128) dX8_copy_125 34 (by decide) k_802 (by decide) rfl rfl rfl ?_
    refine a_iload C (i := 6) (q := 130) dX8_copy_128 rfl 6 rfl ?_
    refine a_aload_n C (i := 0) (q := 131) dX8_copy_130 rfl 0 rfl rfl ?_
    refine a_get8 C (q := 134) dX8_copy_131 33 (by decide) k_801 (by decide) rfl rfl rfl ?_
    refine a_bipush C (v := (24 : Int32)) (q := 136) dX8_copy_134 rfl (by decide) ?_
    refine a_iload_n C (i := 1) (q := 137) dX8_copy_136 rfl 1 rfl rfl ?_
    refine a_imul C (q := 138) dX8_copy_137 rfl ?_
    refine a_iload_n C (i := 2) (q := 139) dX8_copy_138 rfl 2 rfl rfl ?_
    refine a_iadd C (q := 140) dX8_copy_139 rfl ?_
    refine a_iload C (i := 6) (q := 142) dX8_copy_140 rfl 6 rfl ?_
    refine a_iadd C (q := 143) dX8_copy_142 rfl ?_
    refine a_iald C (q := 144) (g := t.1 56) dX8_copy_143 hf (by decide) rfl rfl (fun hf => ?_)
    refine a_iastN C (q := 145) (mk := (fun z => (s, z))) dX8_copy_144 hf (by decide) rfl rfl cellE_R1 rfl (fun t_5 hf => ?_)
    refine a_iincN C (i := 6) (k := 6) (q := 148) (lv' := fun z => [(6, .int z), (0, .ref (G.2.1 39)), (1, .int v1), (2, .int v2), (3, .int v3), (4, .int v4), (5, .int v5)]) dX8_copy_145 hf rfl rfl (by decide) (fun _ => rfl) rfl (fun v6_6 hf => ?_)
    refine a_goto C (q := 117) dX8_copy_148 (by decide) ?_
    have hf := Option.some.inj hf; subst hf
    exact a_sub [1, 2, 3, 4, 5, 6, 0] rfl (show At F G Q 7 117 [(0, .ref (G.2.1 39)), (1, .int v1), (2, .int v2), (3, .int v3), (4, .int v4), (5, .int v5), (6, .int v6_6)] [] (s, t_5) from hK)
theorem lp_X8_copy_117 {F : FX} {G : GX} {Q : State → Prop} (C : Cx F G cX8_copy 7 RX8) (hR : Rm F 3) (n : Nat) (s : MM) (v1 : Int32) (v2 : Int32) (v3 : Int32) (v4 : Int32) (v5 : Int32)  (v6 : Int32) (t : SR) (x : SR) (h : it2 (lb_X8_copy_117 n v1 v2 v3 v4 v5) n v6 t = some x) (hE : E_X8_copy_117 F G Q s v1 v2 v3 v4 v5 x) : At F G Q 7 117 [(0, .ref (G.2.1 39)), (1, .int v1), (2, .int v2), (3, .int v3), (4, .int v4), (5, .int v5), (6, .int v6)] [] (s, t) :=
  it2_ind (b := (lb_X8_copy_117 n v1 v2 v3 v4 v5)) (E := E_X8_copy_117 F G Q s v1 v2 v3 v4 v5) (P := fun v6 t => P_X8_copy_117 F G Q s v1 v2 v3 v4 v5 v6 t) (fun v6 t res hf hK => w_X8_copy_117 C hR n s v1 v2 v3 v4 v5   v6 t res hf hK) n v6 t x h hE
def P_X8_copy_154 (F : FX) (G : GX) (Q : State → Prop) (s : MM) (v3 : Int32) (v4 : Int32) (v5 : Int32) (v6 : Int32) (t : SR) : Prop := At F G Q 7 154 [(0, .ref (G.2.1 39)), (3, .int v3), (4, .int v4), (5, .int v5), (6, .int v6)] [] (s, t)
def E_X8_copy_154 (F : FX) (G : GX) (Q : State → Prop) (s : MM) (v3 : Int32) (v4 : Int32) (v5 : Int32) : SR → Prop := fun q => match q with
  | t => At F G Q 7 189 [(5, .int v5)] [] (s, t)
def lb_X8_copy_154 (n : Nat) (v3 : Int32) (v4 : Int32) (v5 : Int32) (v6 : Int32) (t : SR) : Option ((SR) ⊕ (Int32 × SR)) :=
  (if v5 ≤ v6 then some (.inl t) else ix v6 24 (ix ((((24 : Int32) * v3) + v4) + v6) 96 (nm (sr1 t 56 (((((24 : Int32) * v3) + v4) + v6).toNatClampNeg) (t.1 57 v6.toNatClampNeg)) (fun t_8 => nm (v6 + 1) (fun v6_9 => some (.inr (v6_9, t_8)))))))
set_option maxHeartbeats 4000000 in
theorem w_X8_copy_154 {F : FX} {G : GX} {Q : State → Prop} (C : Cx F G cX8_copy 7 RX8) (hR : Rm F 3) (n : Nat) (s : MM) (v3 : Int32) (v4 : Int32) (v5 : Int32)  (v6 : Int32) (t : SR) (res : (SR) ⊕ (Int32 × SR)) (hf : lb_X8_copy_154 n v3 v4 v5 v6 t = some res) (hK : Sum.elim (E_X8_copy_154 F G Q s v3 v4 v5) (fun q => match q with | (v6, t) => P_X8_copy_154 F G Q s v3 v4 v5 v6 t) res) : P_X8_copy_154 F G Q s v3 v4 v5 v6 t := by
  unfold lb_X8_copy_154 at hf
  show At F G Q 7 154 [(0, .ref (G.2.1 39)), (3, .int v3), (4, .int v4), (5, .int v5), (6, .int v6)] [] (s, t)
  refine a_iload C (i := 6) (q := 156) dX8_copy_154 rfl 4 rfl ?_
  refine a_iload C (i := 5) (q := 158) dX8_copy_156 rfl 3 rfl ?_
  refine a_icmp_ge C (tgt := 189) (q := 161) dX8_copy_158 hf (by decide) rfl (fun hf => ?_) (fun hf => ?_)
  · have hf := Option.some.inj hf; subst hf
    exact a_sub [3] rfl (show At F G Q 7 189 [(5, .int v5)] [] (s, t) from hK)
  · refine a_aload_n C (i := 0) (q := 162) dX8_copy_161 rfl 0 rfl rfl ?_
    refine a_get8 C (q := 165) dX8_copy_162 33 (by decide) k_801 (by decide) rfl rfl rfl ?_
    refine a_bipush C (v := (24 : Int32)) (q := 167) dX8_copy_165 rfl (by decide) ?_
    refine a_iload_n C (i := 3) (q := 168) dX8_copy_167 rfl 1 rfl rfl ?_
    refine a_imul C (q := 169) dX8_copy_168 rfl ?_
    refine a_iload C (i := 4) (q := 171) dX8_copy_169 rfl 2 rfl ?_
    refine a_iadd C (q := 172) dX8_copy_171 rfl ?_
    refine a_iload C (i := 6) (q := 174) dX8_copy_172 rfl 4 rfl ?_
    refine a_iadd C (q := 175) dX8_copy_174 rfl ?_
    refine a_aload_n C (i := 0) (q := 176) dX8_copy_175 rfl 0 rfl rfl ?_
    refine a_get8 C (q := 179) dX8_copy_176 34 (by decide) k_802 (by decide) rfl rfl rfl ?_
    refine a_iload C (i := 6) (q := 181) dX8_copy_179 rfl 4 rfl ?_
    refine a_iald C (q := 182) (g := t.1 57) dX8_copy_181 hf (by decide) rfl rfl (fun hf => ?_)
    refine a_iastN C (q := 183) (mk := (fun z => (s, z))) dX8_copy_182 hf (by decide) rfl rfl cellE_R1 rfl (fun t_8 hf => ?_)
    refine a_iincN C (i := 6) (k := 4) (q := 186) (lv' := fun z => [(6, .int z), (0, .ref (G.2.1 39)), (3, .int v3), (4, .int v4), (5, .int v5)]) dX8_copy_183 hf rfl rfl (by decide) (fun _ => rfl) rfl (fun v6_9 hf => ?_)
    refine a_goto C (q := 154) dX8_copy_186 (by decide) ?_
    have hf := Option.some.inj hf; subst hf
    exact a_sub [1, 2, 3, 4, 0] rfl (show At F G Q 7 154 [(0, .ref (G.2.1 39)), (3, .int v3), (4, .int v4), (5, .int v5), (6, .int v6_9)] [] (s, t_8) from hK)
theorem lp_X8_copy_154 {F : FX} {G : GX} {Q : State → Prop} (C : Cx F G cX8_copy 7 RX8) (hR : Rm F 3) (n : Nat) (s : MM) (v3 : Int32) (v4 : Int32) (v5 : Int32)  (v6 : Int32) (t : SR) (x : SR) (h : it2 (lb_X8_copy_154 n v3 v4 v5) n v6 t = some x) (hE : E_X8_copy_154 F G Q s v3 v4 v5 x) : At F G Q 7 154 [(0, .ref (G.2.1 39)), (3, .int v3), (4, .int v4), (5, .int v5), (6, .int v6)] [] (s, t) :=
  it2_ind (b := (lb_X8_copy_154 n v3 v4 v5)) (E := E_X8_copy_154 F G Q s v3 v4 v5) (P := fun v6 t => P_X8_copy_154 F G Q s v3 v4 v5 v6 t) (fun v6 t res hf hK => w_X8_copy_154 C hR n s v3 v4 v5   v6 t res hf hK) n v6 t x h hE
def f_X8_copy (n : Nat) (t : SR) (v1 : Int32) (v2 : Int32) (v3 : Int32) (v4 : Int32) (v5 : Int32) : Option (Int32 × SR) :=
  b1 (f_X8_in v1.toInt64 (0 : Int64) (3 : Int64)) (fun y_1 => (if y_1 = 0 then some ((-1 : Int32), t) else b1 (f_X8_in v3.toInt64 (0 : Int64) (3 : Int64)) (fun y_2 => (if y_2 = 0 then some ((-1 : Int32), t) else ix v1 4 ((if (t.1 54 v1.toNatClampNeg) < 0 then some ((-11 : Int32), t) else ix v3 4 ((if 0 ≤ (t.1 54 v3.toNatClampNeg) then ix v1 4 (ix v3 4 ((if (t.1 54 v1.toNatClampNeg) = (t.1 54 v3.toNatClampNeg) then (if v5 < 0 then some ((-13 : Int32), t) else ix v1 4 (b1 (f_X8_in v2.toInt64 (0 : Int64) (((t.1 55 v1.toNatClampNeg).toInt64) - v5.toInt64)) (fun y_3 => (if y_3 = 0 then some ((-13 : Int32), t) else ix v3 4 (b1 (f_X8_in v4.toInt64 (0 : Int64) (((t.1 55 v3.toNatClampNeg).toInt64) - v5.toInt64)) (fun y_4 => (if y_4 = 0 then some ((-13 : Int32), t) else b1 (it2 (lb_X8_copy_117 n v1 v2 v3 v4 v5) n (0 : Int32) t) (fun t_7 => b1 (it2 (lb_X8_copy_154 n v3 v4 v5) n (0 : Int32) t_7) (fun t_10 => some (v5, t_10)))))))))) else some ((-12 : Int32), t)))) else some ((-11 : Int32), t)))))))))
set_option maxHeartbeats 4000000 in
theorem w_X8_copy_e {F : FX} {G : GX} {Q : State → Prop} (C : Cx F G cX8_copy 7 RX8) (hR : Rm F 3) (n : Nat) (s : MM) (t : SR)  (v1 : Int32) (v2 : Int32) (v3 : Int32) (v4 : Int32) (v5 : Int32) (res : Int32 × SR) (hf : f_X8_copy n t v1 v2 v3 v4 v5 = some res) (hK : RetI F G Q cX8_copy 7 .int res.1 (s, res.2)) : At F G Q 7 0 [(0, .ref (G.2.1 39)), (1, .int v1), (2, .int v2), (3, .int v3), (4, .int v4), (5, .int v5)] [] (s, t) := by
  unfold f_X8_copy at hf
  refine a_iload_n C (i := 1) (q := 1) dX8_copy_0 rfl 1 rfl rfl ?_
  refine a_i2l C (q := 2) dX8_copy_1 rfl ?_
  refine a_lconst C (v := (0 : Int64)) (q := 3) dX8_copy_2 rfl (by decide) ?_
  refine a_ldc2 C (v := (3 : Int64)) (q := 6) dX8_copy_3 rfl k_879 ?_
  refine a_callSI C (q := 9) (As := [.long v1.toInt64, .long (0 : Int64), .long (3 : Int64)]) (st := []) dX8_copy_6 hR (by decide) hf (fun b => b) (fun _ => (s, t)) cw_X8_in (fun b hb => c_X8_in _ G s t v1.toInt64 (0 : Int64) (3 : Int64) b hb) rfl rfl (Nat.le_of_ble_eq_true rfl) k_880 rfl (fun y_1 hf => ?_)
  refine a_if_eq C (tgt := 24) (q := 12) dX8_copy_9 hf (by decide) rfl (fun hf => ?_) (fun hf => ?_)
  · refine a_iconst C (v := (-1 : Int32)) (q := 25) dX8_copy_24 rfl (by decide) ?_
    have hf := Option.some.inj hf; subst hf
    exact (show RetI F G Q cX8_copy 7 .int (-1 : Int32) (s, t) from hK) rfl _ _ dX8_copy_25
  · refine a_iload_n C (i := 3) (q := 13) dX8_copy_12 rfl 3 rfl rfl ?_
    refine a_i2l C (q := 14) dX8_copy_13 rfl ?_
    refine a_lconst C (v := (0 : Int64)) (q := 15) dX8_copy_14 rfl (by decide) ?_
    refine a_ldc2 C (v := (3 : Int64)) (q := 18) dX8_copy_15 rfl k_879 ?_
    refine a_callSI C (q := 21) (As := [.long v3.toInt64, .long (0 : Int64), .long (3 : Int64)]) (st := []) dX8_copy_18 hR (by decide) hf (fun b => b) (fun _ => (s, t)) cw_X8_in (fun b hb => c_X8_in _ G s t v3.toInt64 (0 : Int64) (3 : Int64) b hb) rfl rfl (Nat.le_of_ble_eq_true rfl) k_880 rfl (fun y_2 hf => ?_)
    refine a_if_ne C (tgt := 26) (q := 24) dX8_copy_21 hf (by decide) rfl (fun hf => ?_) (fun hf => ?_)
    · refine a_aload_n C (i := 0) (q := 27) dX8_copy_26 rfl 0 rfl rfl ?_
      refine a_get8 C (q := 30) dX8_copy_27 31 (by decide) k_799 (by decide) rfl rfl rfl ?_
      refine a_iload_n C (i := 1) (q := 31) dX8_copy_30 rfl 1 rfl rfl ?_
      refine a_iald C (q := 32) (g := t.1 54) dX8_copy_31 hf (by decide) rfl rfl (fun hf => ?_)
      refine a_if_lt C (tgt := 44) (q := 35) dX8_copy_32 hf (by decide) rfl (fun hf => ?_) (fun hf => ?_)
      · refine a_bipush C (v := (-11 : Int32)) (q := 46) dX8_copy_44 rfl (by decide) ?_
        have hf := Option.some.inj hf; subst hf
        exact (show RetI F G Q cX8_copy 7 .int (-11 : Int32) (s, t) from hK) rfl _ _ dX8_copy_46
      · refine a_aload_n C (i := 0) (q := 36) dX8_copy_35 rfl 0 rfl rfl ?_
        refine a_get8 C (q := 39) dX8_copy_36 31 (by decide) k_799 (by decide) rfl rfl rfl ?_
        refine a_iload_n C (i := 3) (q := 40) dX8_copy_39 rfl 3 rfl rfl ?_
        refine a_iald C (q := 41) (g := t.1 54) dX8_copy_40 hf (by decide) rfl rfl (fun hf => ?_)
        refine a_if_ge C (tgt := 47) (q := 44) dX8_copy_41 hf (by decide) rfl (fun hf => ?_) (fun hf => ?_)
        · refine a_aload_n C (i := 0) (q := 48) dX8_copy_47 rfl 0 rfl rfl ?_
          refine a_get8 C (q := 51) dX8_copy_48 31 (by decide) k_799 (by decide) rfl rfl rfl ?_
          refine a_iload_n C (i := 1) (q := 52) dX8_copy_51 rfl 1 rfl rfl ?_
          refine a_iald C (q := 53) (g := t.1 54) dX8_copy_52 hf (by decide) rfl rfl (fun hf => ?_)
          refine a_aload_n C (i := 0) (q := 54) dX8_copy_53 rfl 0 rfl rfl ?_
          refine a_get8 C (q := 57) dX8_copy_54 31 (by decide) k_799 (by decide) rfl rfl rfl ?_
          refine a_iload_n C (i := 3) (q := 58) dX8_copy_57 rfl 3 rfl rfl ?_
          refine a_iald C (q := 59) (g := t.1 54) dX8_copy_58 hf (by decide) rfl rfl (fun hf => ?_)
          refine a_icmp_eq C (tgt := 65) (q := 62) dX8_copy_59 hf (by decide) rfl (fun hf => ?_) (fun hf => ?_)
          · refine a_iload C (i := 5) (q := 67) dX8_copy_65 rfl 5 rfl ?_
            refine a_if_lt C (tgt := 111) (q := 70) dX8_copy_67 hf (by decide) rfl (fun hf => ?_) (fun hf => ?_)
            · refine a_bipush C (v := (-13 : Int32)) (q := 113) dX8_copy_111 rfl (by decide) ?_
              have hf := Option.some.inj hf; subst hf
              exact (show RetI F G Q cX8_copy 7 .int (-13 : Int32) (s, t) from hK) rfl _ _ dX8_copy_113
            · refine a_iload_n C (i := 2) (q := 71) dX8_copy_70 rfl 2 rfl rfl ?_
              refine a_i2l C (q := 72) dX8_copy_71 rfl ?_
              refine a_lconst C (v := (0 : Int64)) (q := 73) dX8_copy_72 rfl (by decide) ?_
              refine a_aload_n C (i := 0) (q := 74) dX8_copy_73 rfl 0 rfl rfl ?_
              refine a_get8 C (q := 77) dX8_copy_74 32 (by decide) k_800 (by decide) rfl rfl rfl ?_
              refine a_iload_n C (i := 1) (q := 78) dX8_copy_77 rfl 1 rfl rfl ?_
              refine a_iald C (q := 79) (g := t.1 55) dX8_copy_78 hf (by decide) rfl rfl (fun hf => ?_)
              refine a_i2l C (q := 80) dX8_copy_79 rfl ?_
              refine a_iload C (i := 5) (q := 82) dX8_copy_80 rfl 5 rfl ?_
              refine a_i2l C (q := 83) dX8_copy_82 rfl ?_
              refine a_lsub C (q := 84) dX8_copy_83 rfl ?_
              refine a_callSI C (q := 87) (As := [.long v2.toInt64, .long (0 : Int64), .long (((t.1 55 v1.toNatClampNeg).toInt64) - v5.toInt64)]) (st := []) dX8_copy_84 hR (by decide) hf (fun b => b) (fun _ => (s, t)) cw_X8_in (fun b hb => c_X8_in _ G s t v2.toInt64 (0 : Int64) (((t.1 55 v1.toNatClampNeg).toInt64) - v5.toInt64) b hb) rfl rfl (Nat.le_of_ble_eq_true rfl) k_880 rfl (fun y_3 hf => ?_)
              refine a_if_eq C (tgt := 111) (q := 90) dX8_copy_87 hf (by decide) rfl (fun hf => ?_) (fun hf => ?_)
              · refine a_bipush C (v := (-13 : Int32)) (q := 113) dX8_copy_111 rfl (by decide) ?_
                have hf := Option.some.inj hf; subst hf
                exact (show RetI F G Q cX8_copy 7 .int (-13 : Int32) (s, t) from hK) rfl _ _ dX8_copy_113
              · refine a_iload C (i := 4) (q := 92) dX8_copy_90 rfl 4 rfl ?_
                refine a_i2l C (q := 93) dX8_copy_92 rfl ?_
                refine a_lconst C (v := (0 : Int64)) (q := 94) dX8_copy_93 rfl (by decide) ?_
                refine a_aload_n C (i := 0) (q := 95) dX8_copy_94 rfl 0 rfl rfl ?_
                refine a_get8 C (q := 98) dX8_copy_95 32 (by decide) k_800 (by decide) rfl rfl rfl ?_
                refine a_iload_n C (i := 3) (q := 99) dX8_copy_98 rfl 3 rfl rfl ?_
                refine a_iald C (q := 100) (g := t.1 55) dX8_copy_99 hf (by decide) rfl rfl (fun hf => ?_)
                refine a_i2l C (q := 101) dX8_copy_100 rfl ?_
                refine a_iload C (i := 5) (q := 103) dX8_copy_101 rfl 5 rfl ?_
                refine a_i2l C (q := 104) dX8_copy_103 rfl ?_
                refine a_lsub C (q := 105) dX8_copy_104 rfl ?_
                refine a_callSI C (q := 108) (As := [.long v4.toInt64, .long (0 : Int64), .long (((t.1 55 v3.toNatClampNeg).toInt64) - v5.toInt64)]) (st := []) dX8_copy_105 hR (by decide) hf (fun b => b) (fun _ => (s, t)) cw_X8_in (fun b hb => c_X8_in _ G s t v4.toInt64 (0 : Int64) (((t.1 55 v3.toNatClampNeg).toInt64) - v5.toInt64) b hb) rfl rfl (Nat.le_of_ble_eq_true rfl) k_880 rfl (fun y_4 hf => ?_)
                refine a_if_ne C (tgt := 114) (q := 111) dX8_copy_108 hf (by decide) rfl (fun hf => ?_) (fun hf => ?_)
                · refine a_iconst C (v := (0 : Int32)) (q := 115) dX8_copy_114 rfl (by decide) ?_
                  refine a_istore C (i := 6) (q := 117) (lv' := [(6, .int (0 : Int32)), (0, .ref (G.2.1 39)), (1, .int v1), (2, .int v2), (3, .int v3), (4, .int v4), (5, .int v5)]) dX8_copy_115 (by decide) rfl rfl ?_
                  obtain ⟨t_7, h1, hf⟩ := b1_some hf
                  refine a_sub [1, 2, 3, 4, 5, 6, 0] rfl (lp_X8_copy_117 C hR n s v1 v2 v3 v4 v5  (0 : Int32) t _ h1 ?_)
                  show At F G Q 7 151 [(0, .ref (G.2.1 39)), (3, .int v3), (4, .int v4), (5, .int v5)] [] (s, t_7)
                  refine a_iconst C (v := (0 : Int32)) (q := 152) dX8_copy_151 rfl (by decide) ?_
                  refine a_istore C (i := 6) (q := 154) (lv' := [(6, .int (0 : Int32)), (0, .ref (G.2.1 39)), (3, .int v3), (4, .int v4), (5, .int v5)]) dX8_copy_152 (by decide) rfl rfl ?_
                  obtain ⟨t_10, h1, hf⟩ := b1_some hf
                  refine a_sub [1, 2, 3, 4, 0] rfl (lp_X8_copy_154 C hR n s v3 v4 v5  (0 : Int32) t_7 _ h1 ?_)
                  show At F G Q 7 189 [(5, .int v5)] [] (s, t_10)
                  refine a_iload C (i := 5) (q := 191) dX8_copy_189 rfl 0 rfl ?_
                  have hf := Option.some.inj hf; subst hf
                  exact (show RetI F G Q cX8_copy 7 .int v5 (s, t_10) from hK) rfl _ _ dX8_copy_191
                · refine a_bipush C (v := (-13 : Int32)) (q := 113) dX8_copy_111 rfl (by decide) ?_
                  have hf := Option.some.inj hf; subst hf
                  exact (show RetI F G Q cX8_copy 7 .int (-13 : Int32) (s, t) from hK) rfl _ _ dX8_copy_113
          · refine a_bipush C (v := (-12 : Int32)) (q := 64) dX8_copy_62 rfl (by decide) ?_
            have hf := Option.some.inj hf; subst hf
            exact (show RetI F G Q cX8_copy 7 .int (-12 : Int32) (s, t) from hK) rfl _ _ dX8_copy_64
        · refine a_bipush C (v := (-11 : Int32)) (q := 46) dX8_copy_44 rfl (by decide) ?_
          have hf := Option.some.inj hf; subst hf
          exact (show RetI F G Q cX8_copy 7 .int (-11 : Int32) (s, t) from hK) rfl _ _ dX8_copy_46
    · refine a_iconst C (v := (-1 : Int32)) (q := 25) dX8_copy_24 rfl (by decide) ?_
      have hf := Option.some.inj hf; subst hf
      exact (show RetI F G Q cX8_copy 7 .int (-1 : Int32) (s, t) from hK) rfl _ _ dX8_copy_25
theorem c_X8_copy (l : Launch) (G : GX) (n : Nat) (s : MM) (t : SR) (v1 : Int32) (v2 : Int32) (v3 : Int32) (v4 : Int32) (v5 : Int32) (res : Int32 × SR) (hf : f_X8_copy n t v1 v2 v3 v4 v5 = some res) : MetC l G yX8_copy cX8_copy 7 (some .int) 3 (s, t) [.ref (G.2.1 39), .int v1, .int v2, .int v3, .int v4, .int v5] (PostI G res.1 (s, res.2)) :=
  m_I (by decide) (Nat.le_of_ble_eq_true rfl) (fun F Q C h1 h2 h3 hK => w_X8_copy_e C (Rm.of h1 h3) n s t v1 v2 v3 v4 v5 res hf hK)
