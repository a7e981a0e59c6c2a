theorem cw_X0_soonestMinute : CwV RX0 yX0_soonestMinute cX0_soonestMinute 1 0 (some .int) := ⟨k_622, k_620, k_621, k_4, by decide +kernel, by decide⟩
def f_X0_soonestMinute (t : MM) : Option (Int32) :=
  some ((t 17 4) >>> ((16 : Int32) &&& 31))
set_option maxHeartbeats 4000000 in
theorem w_X0_soonestMinute_e {F : FX} {G : GX} {Q : State → Prop} (C : Cx F G cX0_soonestMinute 1 RX0) (hR : Rm F 2) (t : MM) (r : SR)   (res : Int32) (hf : f_X0_soonestMinute t = some res) (hK : RetI F G Q cX0_soonestMinute 1 .int res (t, r)) : At F G Q 1 0 [(0, .ref (G.2.1 17))] [] (t, r) := by
  unfold f_X0_soonestMinute at hf
  refine a_aload_n C (i := 0) (q := 1) dX0_soonestMinute_0 rfl 0 rfl rfl ?_
  refine a_get0 C (q := 4) dX0_soonestMinute_1 4 (by decide) k_129 (by decide) rfl rfl rfl ?_
  refine a_bipush C (v := (16 : Int32)) (q := 6) dX0_soonestMinute_4 rfl (by decide) ?_
  refine a_ishr C (q := 7) dX0_soonestMinute_6 rfl ?_
  have hf := Option.some.inj hf; subst hf
  exact (show RetI F G Q cX0_soonestMinute 1 .int ((t 17 4) >>> ((16 : Int32) &&& 31)) (t, r) from hK) rfl _ _ dX0_soonestMinute_7
theorem c_X0_soonestMinute (l : Launch) (G : GX) (t : MM) (r : SR)  (res : Int32) (hf : f_X0_soonestMinute t = some res) : MetC l G yX0_soonestMinute cX0_soonestMinute 1 (some .int) 2 (t, r) [.ref (G.2.1 17)] (PostI G res (t, r)) :=
  m_I (by decide) (Nat.le_of_ble_eq_true rfl) (fun F Q C h1 h2 h3 hK => w_X0_soonestMinute_e C (Rm.of h1 h3) t r res hf hK)
theorem cw_X0_shiftOf : CwV RX0 yX0_shiftOf cX0_shiftOf 3 1 (some .int) := ⟨k_616, k_615, kp_12, k_4, by decide +kernel, by decide⟩
def f_X0_shiftOf (t : MM) (v1 : Int32) : Option (Int32) :=
  b1 (f_J6_bitCount_0f7a4 ((t 17 2) &&& (((1 : Int32) <<< (v1 &&& 31)) - (1 : Int32)))) (fun y_1 => some ((4 : Int32) * ((3 : Int32) - y_1)))
set_option maxHeartbeats 4000000 in
theorem w_X0_shiftOf_e {F : FX} {G : GX} {Q : State → Prop} (C : Cx F G cX0_shiftOf 3 RX0) (hR : Rm F 3) (t : MM) (r : SR)  (v1 : Int32) (res : Int32) (hf : f_X0_shiftOf t v1 = some res) (hK : RetI F G Q cX0_shiftOf 3 .int res (t, r)) : At F G Q 3 0 [(0, .ref (G.2.1 17)), (1, .int v1)] [] (t, r) := by
  unfold f_X0_shiftOf at hf
  refine a_aload_n C (i := 0) (q := 1) dX0_shiftOf_0 rfl 0 rfl rfl ?_
  refine a_get0 C (q := 4) dX0_shiftOf_1 2 (by decide) k_127 (by decide) rfl rfl rfl ?_
  refine a_iconst C (v := (1 : Int32)) (q := 5) dX0_shiftOf_4 rfl (by decide) ?_
  refine a_iload_n C (i := 1) (q := 6) dX0_shiftOf_5 rfl 1 rfl rfl ?_
  refine a_ishl C (q := 7) dX0_shiftOf_6 rfl ?_
  refine a_iconst C (v := (1 : Int32)) (q := 8) dX0_shiftOf_7 rfl (by decide) ?_
  refine a_isub C (q := 9) dX0_shiftOf_8 rfl ?_
  refine a_iand C (q := 10) dX0_shiftOf_9 rfl ?_
  refine a_callSI C (q := 13) (As := [.int ((t 17 2) &&& (((1 : Int32) <<< (v1 &&& 31)) - (1 : Int32)))]) (st := []) dX0_shiftOf_10 hR (by decide) hf (fun b => b) (fun _ => (t, r)) cw_J6_bitCount_0f7a4 (fun b hb => c_J6_bitCount_0f7a4 _ G t r ((t 17 2) &&& (((1 : Int32) <<< (v1 &&& 31)) - (1 : Int32))) b hb) rfl rfl (Nat.le_of_ble_eq_true rfl) k_617 rfl (fun y_1 hf => ?_)
  refine a_istore_n C (i := 2) (q := 14) (lv' := [(2, .int y_1), (0, .ref (G.2.1 17)), (1, .int v1)]) dX0_shiftOf_13 rfl (by decide) rfl rfl ?_
  refine a_iconst C (v := (4 : Int32)) (q := 15) dX0_shiftOf_14 rfl (by decide) ?_
  refine a_iconst C (v := (3 : Int32)) (q := 16) dX0_shiftOf_15 rfl (by decide) ?_
  refine a_iload_n C (i := 2) (q := 17) dX0_shiftOf_16 rfl 0 rfl rfl ?_
  refine a_isub C (q := 18) dX0_shiftOf_17 rfl ?_
  refine a_imul C (q := 19) dX0_shiftOf_18 rfl ?_
  have hf := Option.some.inj hf; subst hf
  exact (show RetI F G Q cX0_shiftOf 3 .int ((4 : Int32) * ((3 : Int32) - y_1)) (t, r) from hK) rfl _ _ dX0_shiftOf_19
theorem c_X0_shiftOf (l : Launch) (G : GX) (t : MM) (r : SR) (v1 : Int32) (res : Int32) (hf : f_X0_shiftOf t v1 = some res) : MetC l G yX0_shiftOf cX0_shiftOf 3 (some .int) 3 (t, r) [.ref (G.2.1 17), .int v1] (PostI G res (t, r)) :=
  m_I (by decide) (Nat.le_of_ble_eq_true rfl) (fun F Q C h1 h2 h3 hK => w_X0_shiftOf_e C (Rm.of h1 h3) t r v1 res hf hK)
theorem cw_X0_minuteOf : CwV RX0 yX0_minuteOf cX0_minuteOf 2 1 (some .int) := ⟨k_630, k_628, k_629, k_4, by decide +kernel, by decide⟩
def f_X0_minuteOf (t : MM) (v1 : Int32) : Option (Int32) :=
  b1 (f_X0_shiftOf t v1) (fun y_1 => some (((t 17 4) >>> (y_1 &&& 31)) &&& (15 : Int32)))
set_option maxHeartbeats 4000000 in
theorem w_X0_minuteOf_e {F : FX} {G : GX} {Q : State → Prop} (C : Cx F G cX0_minuteOf 2 RX0) (hR : Rm F 4) (t : MM) (r : SR)  (v1 : Int32) (res : Int32) (hf : f_X0_minuteOf t v1 = some res) (hK : RetI F G Q cX0_minuteOf 2 .int res (t, r)) : At F G Q 2 0 [(0, .ref (G.2.1 17)), (1, .int v1)] [] (t, r) := by
  unfold f_X0_minuteOf at hf
  refine a_aload_n C (i := 0) (q := 1) dX0_minuteOf_0 rfl 0 rfl rfl ?_
  refine a_get0 C (q := 4) dX0_minuteOf_1 4 (by decide) k_129 (by decide) rfl rfl rfl ?_
  refine a_aload_n C (i := 0) (q := 5) dX0_minuteOf_4 rfl 0 rfl rfl ?_
  refine a_iload_n C (i := 1) (q := 6) dX0_minuteOf_5 rfl 1 rfl rfl ?_
  refine a_callVI C (q := 9) (As := [.int v1]) (st := [.int (t 17 4)]) dX0_minuteOf_6 hR (by decide) hf (fun b => b) (fun _ => (t, r)) (by decide) rfl rfl cw_X0_shiftOf (fun b hb => c_X0_shiftOf _ G t r v1 b hb) rfl rfl (Nat.le_of_ble_eq_true rfl) k_613 rfl (fun y_1 hf => ?_)
  refine a_ishr C (q := 10) dX0_minuteOf_9 rfl ?_
  refine a_bipush C (v := (15 : Int32)) (q := 12) dX0_minuteOf_10 rfl (by decide) ?_
  refine a_iand C (q := 13) dX0_minuteOf_12 rfl ?_
  have hf := Option.some.inj hf; subst hf
  exact (show RetI F G Q cX0_minuteOf 2 .int (((t 17 4) >>> (y_1 &&& 31)) &&& (15 : Int32)) (t, r) from hK) rfl _ _ dX0_minuteOf_13
theorem c_X0_minuteOf (l : Launch) (G : GX) (t : MM) (r : SR) (v1 : Int32) (res : Int32) (hf : f_X0_minuteOf t v1 = some res) : MetC l G yX0_minuteOf cX0_minuteOf 2 (some .int) 4 (t, r) [.ref (G.2.1 17), .int v1] (PostI G res (t, r)) :=
  m_I (by decide) (Nat.le_of_ble_eq_true rfl) (fun F Q C h1 h2 h3 hK => w_X0_minuteOf_e C (Rm.of h1 h3) t r v1 res hf hK)
theorem cw_X0_mayGoTogether : CwV RX0 yX0_mayGoTogether cX0_mayGoTogether 5 2 (some .boolean) := ⟨k_600, k_599, kp_9, k_4, by decide +kernel, by decide⟩
def f_X0_mayGoTogether (t : MM) (v1 : Int32) (v2 : Int32) : Option (Int32) :=
  nm (v2 &&& (v1 ^^^ (-1 : Int32))) (fun v3_1 => (if v3_1 = 0 then some (1 : Int32) else (if (t 17 3) = (1 : Int32) then nm (v3_1 &&& (-v3_1)) (fun v4_2 => (if v4_2 ≤ v1 then some (0 : Int32) else some (1 : Int32))) else (if (t 17 3) = (2 : Int32) then some (0 : Int32) else some (1 : Int32)))))
set_option maxHeartbeats 4000000 in
theorem w_X0_mayGoTogether_e {F : FX} {G : GX} {Q : State → Prop} (C : Cx F G cX0_mayGoTogether 5 RX0) (hR : Rm F 2) (t : MM) (r : SR)  (v1 : Int32) (v2 : Int32) (res : Int32) (hf : f_X0_mayGoTogether t v1 v2 = some res) (hK : RetI F G Q cX0_mayGoTogether 5 .boolean res (t, r)) : At F G Q 5 0 [(0, .ref (G.2.1 17)), (1, .int v1), (2, .int v2)] [] (t, r) := by
  unfold f_X0_mayGoTogether at hf
  refine a_iload_n C (i := 2) (q := 1) dX0_mayGoTogether_0 rfl 2 rfl rfl ?_
  refine a_iload_n C (i := 1) (q := 2) dX0_mayGoTogether_1 rfl 1 rfl rfl ?_
  refine a_iconst C (v := (-1 : Int32)) (q := 3) dX0_mayGoTogether_2 rfl (by decide) ?_
  refine a_ixor C (q := 4) dX0_mayGoTogether_3 rfl ?_
  refine a_iand C (q := 5) dX0_mayGoTogether_4 rfl ?_
  refine a_istore_nN C (i := 3) (q := 6) (lv' := fun z => [(3, .int z), (0, .ref (G.2.1 17)), (1, .int v1), (2, .int v2)]) dX0_mayGoTogether_5 hf rfl (by decide) (fun _ => rfl) rfl (fun v3_1 hf => ?_)
  refine a_iload_n C (i := 3) (q := 7) dX0_mayGoTogether_6 rfl 0 rfl rfl ?_
  refine a_if_ne C (tgt := 12) (q := 10) dX0_mayGoTogether_7 hf (by decide) rfl (fun hf => ?_) (fun hf => ?_)
  · refine a_aload_n C (i := 0) (q := 13) dX0_mayGoTogether_12 rfl 1 rfl rfl ?_
    refine a_get0 C (q := 16) dX0_mayGoTogether_13 3 (by decide) k_128 (by decide) rfl rfl rfl ?_
    refine a_iconst C (v := (1 : Int32)) (q := 17) dX0_mayGoTogether_16 rfl (by decide) ?_
    refine a_icmp_ne C (tgt := 38) (q := 20) dX0_mayGoTogether_17 hf (by decide) rfl (fun hf => ?_) (fun hf => ?_)
    · refine a_aload_n C (i := 0) (q := 39) dX0_mayGoTogether_38 rfl 1 rfl rfl ?_
      refine a_get0 C (q := 42) dX0_mayGoTogether_39 3 (by decide) k_128 (by decide) rfl rfl rfl ?_
      refine a_iconst C (v := (2 : Int32)) (q := 43) dX0_mayGoTogether_42 rfl (by decide) ?_
      refine a_icmp_eq C (tgt := 50) (q := 46) dX0_mayGoTogether_43 hf (by decide) rfl (fun hf => ?_) (fun hf => ?_)
      · refine a_iconst C (v := (0 : Int32)) (q := 51) dX0_mayGoTogether_50 rfl (by decide) ?_
        have hf := Option.some.inj hf; subst hf
        exact (show RetI F G Q cX0_mayGoTogether 5 .boolean (0 : Int32) (t, r) from hK) rfl _ _ dX0_mayGoTogether_51
      · refine a_iconst C (v := (1 : Int32)) (q := 47) dX0_mayGoTogether_46 rfl (by decide) ?_
        refine a_goto C (q := 51) dX0_mayGoTogether_47 (by decide) ?_
        have hf := Option.some.inj hf; subst hf
        exact (show RetI F G Q cX0_mayGoTogether 5 .boolean (1 : Int32) (t, r) from hK) rfl _ _ dX0_mayGoTogether_51
    · refine a_iload_n C (i := 3) (q := 21) dX0_mayGoTogether_20 rfl 0 rfl rfl ?_
      refine a_iload_n C (i := 3) (q := 22) dX0_mayGoTogether_21 rfl 0 rfl rfl ?_
      refine a_ineg C (q := 23) dX0_mayGoTogether_22 rfl ?_
      refine a_iand C (q := 24) dX0_mayGoTogether_23 rfl ?_
      refine a_istoreN C (i := 4) (q := 26) (lv' := fun z => [(4, .int z), (3, .int v3_1), (0, .ref (G.2.1 17)), (1, .int v1), (2, .int v2)]) dX0_mayGoTogether_24 hf (by decide) (fun _ => rfl) rfl (fun v4_2 hf => ?_)
      refine a_iload C (i := 4) (q := 28) dX0_mayGoTogether_26 rfl 0 rfl ?_
      refine a_iload_n C (i := 1) (q := 29) dX0_mayGoTogether_28 rfl 3 rfl rfl ?_
      refine a_icmp_le C (tgt := 36) (q := 32) dX0_mayGoTogether_29 hf (by decide) rfl (fun hf => ?_) (fun hf => ?_)
      · refine a_iconst C (v := (0 : Int32)) (q := 37) dX0_mayGoTogether_36 rfl (by decide) ?_
        have hf := Option.some.inj hf; subst hf
        exact (show RetI F G Q cX0_mayGoTogether 5 .boolean (0 : Int32) (t, r) from hK) rfl _ _ dX0_mayGoTogether_37
      · refine a_iconst C (v := (1 : Int32)) (q := 33) dX0_mayGoTogether_32 rfl (by decide) ?_
        refine a_goto C (q := 37) dX0_mayGoTogether_33 (by decide) ?_
        have hf := Option.some.inj hf; subst hf
        exact (show RetI F G Q cX0_mayGoTogether 5 .boolean (1 : Int32) (t, r) from hK) rfl _ _ dX0_mayGoTogether_37
  · refine a_iconst C (v := (1 : Int32)) (q := 11) dX0_mayGoTogether_10 rfl (by decide) ?_
    have hf := Option.some.inj hf; subst hf
    exact (show RetI F G Q cX0_mayGoTogether 5 .boolean (1 : Int32) (t, r) from hK) rfl _ _ dX0_mayGoTogether_11
theorem c_X0_mayGoTogether (l : Launch) (G : GX) (t : MM) (r : SR) (v1 : Int32) (v2 : Int32) (res : Int32) (hf : f_X0_mayGoTogether t v1 v2 = some res) : MetC l G yX0_mayGoTogether cX0_mayGoTogether 5 (some .boolean) 2 (t, r) [.ref (G.2.1 17), .int v1, .int v2] (PostI G res (t, r)) :=
  m_I (by decide) (Nat.le_of_ble_eq_true rfl) (fun F Q C h1 h2 h3 hK => w_X0_mayGoTogether_e C (Rm.of h1 h3) t r v1 v2 res hf hK)
theorem cw_X0_rowOf : CwV RX0 yX0_rowOf cX0_rowOf 5 2 (some .int) := ⟨k_612, k_611, kp_11, k_4, by decide +kernel, by decide⟩
def P_X0_rowOf_5 (F : FX) (G : GX) (Q : State → Prop) (r : SR) (t : MM) (v1 : Int32) (v2 : Int32) (v3 : Int32) (v4 : Int32) : Prop := At F G Q 5 5 [(0, .ref (G.2.1 17)), (1, .int v1), (2, .int v2), (3, .int v3), (4, .int v4)] [] (t, r)
def E_X0_rowOf_5 (F : FX) (G : GX) (Q : State → Prop) (r : SR) (t : MM) (v1 : Int32) (v2 : Int32) : Int32 → Prop := fun q => match q with
  | v3 => At F G Q 5 38 [(3, .int v3)] [] (t, r)
def lb_X0_rowOf_5 (n : Nat) (t : MM) (v1 : Int32) (v2 : Int32) (v3 : Int32) (v4 : Int32) : Option ((Int32) ⊕ (Int32 × Int32)) :=
  (if (10 : Int32) ≤ v4 then some (.inl v3) else (if ((v1 >>> (v4 &&& 31)) &&& (1 : Int32)) = 0 then nm (v4 + 1) (fun v4_1 => some (.inr (v3, v4_1))) else b1 (f_X0_shiftOf t v4) (fun y_2 => nm (v3 ||| (v2 <<< (y_2 &&& 31))) (fun v3_3 => nm (v4 + 1) (fun v4_4 => some (.inr (v3_3, v4_4)))))))
set_option maxHeartbeats 4000000 in
theorem w_X0_rowOf_5 {F : FX} {G : GX} {Q : State → Prop} (C : Cx F G cX0_rowOf 5 RX0) (hR : Rm F 4) (n : Nat) (r : SR) (t : MM) (v1 : Int32) (v2 : Int32)  (v3 : Int32) (v4 : Int32) (res : (Int32) ⊕ (Int32 × Int32)) (hf : lb_X0_rowOf_5 n t v1 v2 v3 v4 = some res) (hK : Sum.elim (E_X0_rowOf_5 F G Q r t v1 v2) (fun q => match q with | (v3, v4) => P_X0_rowOf_5 F G Q r t v1 v2 v3 v4) res) : P_X0_rowOf_5 F G Q r t v1 v2 v3 v4 := by
  unfold lb_X0_rowOf_5 at hf
  show At F G Q 5 5 [(0, .ref (G.2.1 17)), (1, .int v1), (2, .int v2), (3, .int v3), (4, .int v4)] [] (t, r)
  refine a_iload C (i := 4) (q := 7) dX0_rowOf_5 rfl 4 rfl ?_
  refine a_bipush C (v := (10 : Int32)) (q := 9) dX0_rowOf_7 rfl (by decide) ?_
  refine a_icmp_ge C (tgt := 38) (q := 12) dX0_rowOf_9 hf (by decide) rfl (fun hf => ?_) (fun hf => ?_)
  · have hf := Option.some.inj hf; subst hf
    exact a_sub [3] rfl (show At F G Q 5 38 [(3, .int v3)] [] (t, r) from hK)
  · refine a_iload_n C (i := 1) (q := 13) dX0_rowOf_12 rfl 1 rfl rfl ?_
    refine a_iload C (i := 4) (q := 15) dX0_rowOf_13 rfl 4 rfl ?_
    refine a_ishr C (q := 16) dX0_rowOf_15 rfl ?_
    refine a_iconst C (v := (1 : Int32)) (q := 17) dX0_rowOf_16 rfl (by decide) ?_
    refine a_iand C (q := 18) dX0_rowOf_17 rfl ?_
    refine a_if_eq C (tgt := 32) (q := 21) dX0_rowOf_18 hf (by decide) rfl (fun hf => ?_) (fun hf => ?_)
    · refine a_iincN C (i := 4) (k := 4) (q := 35) (lv' := fun z => [(4, .int z), (0, .ref (G.2.1 17)), (1, .int v1), (2, .int v2), (3, .int v3)]) dX0_rowOf_32 hf rfl rfl (by decide) (fun _ => rfl) rfl (fun v4_1 hf => ?_)
      refine a_goto C (q := 5) dX0_rowOf_35 (by decide) ?_
      have hf := Option.some.inj hf; subst hf
      exact a_sub [1, 2, 3, 4, 0] rfl (show At F G Q 5 5 [(0, .ref (G.2.1 17)), (1, .int v1), (2, .int v2), (3, .int v3), (4, .int v4_1)] [] (t, r) from hK)
    · refine a_iload_n C (i := 3) (q := 22) dX0_rowOf_21 rfl 3 rfl rfl ?_
      refine a_iload_n C (i := 2) (q := 23) dX0_rowOf_22 rfl 2 rfl rfl ?_
      refine a_aload_n C (i := 0) (q := 24) dX0_rowOf_23 rfl 0 rfl rfl ?_
      refine a_iload C (i := 4) (q := 26) dX0_rowOf_24 rfl 4 rfl ?_
      refine a_callVI C (q := 29) (As := [.int v4]) (st := [.int v2, .int v3]) dX0_rowOf_26 hR (by decide) hf (fun b => b) (fun _ => (t, r)) (by decide) rfl rfl cw_X0_shiftOf (fun b hb => c_X0_shiftOf _ G t r v4 b hb) rfl rfl (Nat.le_of_ble_eq_true rfl) k_613 rfl (fun y_2 hf => ?_)
      refine a_ishl C (q := 30) dX0_rowOf_29 rfl ?_
      refine a_ior C (q := 31) dX0_rowOf_30 rfl ?_
      refine a_istore_nN C (i := 3) (q := 32) (lv' := fun z => [(3, .int z), (0, .ref (G.2.1 17)), (1, .int v1), (2, .int v2), (4, .int v4)]) dX0_rowOf_31 hf rfl (by decide) (fun _ => rfl) rfl (fun v3_3 hf => ?_)
      refine a_iincN C (i := 4) (k := 4) (q := 35) (lv' := fun z => [(4, .int z), (3, .int v3_3), (0, .ref (G.2.1 17)), (1, .int v1), (2, .int v2)]) dX0_rowOf_32 hf rfl rfl (by decide) (fun _ => rfl) rfl (fun v4_4 hf => ?_)
      refine a_goto C (q := 5) dX0_rowOf_35 (by decide) ?_
      have hf := Option.some.inj hf; subst hf
      exact a_sub [2, 3, 4, 1, 0] rfl (show At F G Q 5 5 [(0, .ref (G.2.1 17)), (1, .int v1), (2, .int v2), (3, .int v3_3), (4, .int v4_4)] [] (t, r) from hK)
theorem lp_X0_rowOf_5 {F : FX} {G : GX} {Q : State → Prop} (C : Cx F G cX0_rowOf 5 RX0) (hR : Rm F 4) (n : Nat) (r : SR) (t : MM) (v1 : Int32) (v2 : Int32)  (v3 : Int32) (v4 : Int32) (x : Int32) (h : it2 (lb_X0_rowOf_5 n t v1 v2) n v3 v4 = some x) (hE : E_X0_rowOf_5 F G Q r t v1 v2 x) : At F G Q 5 5 [(0, .ref (G.2.1 17)), (1, .int v1), (2, .int v2), (3, .int v3), (4, .int v4)] [] (t, r) :=
  it2_ind (b := (lb_X0_rowOf_5 n t v1 v2)) (E := E_X0_rowOf_5 F G Q r t v1 v2) (P := fun v3 v4 => P_X0_rowOf_5 F G Q r t v1 v2 v3 v4) (fun v3 v4 res hf hK => w_X0_rowOf_5 C hR n r t v1 v2   v3 v4 res hf hK) n v3 v4 x h hE
def f_X0_rowOf (n : Nat) (t : MM) (v1 : Int32) (v2 : Int32) : Option (Int32) :=
  b1 (it2 (lb_X0_rowOf_5 n t v1 v2) n (0 : Int32) (0 : Int32)) (fun v3_5 => some v3_5)
set_option maxHeartbeats 4000000 in
theorem w_X0_rowOf_e {F : FX} {G : GX} {Q : State → Prop} (C : Cx F G cX0_rowOf 5 RX0) (hR : Rm F 4) (n : Nat) (t : MM) (r : SR)  (v1 : Int32) (v2 : Int32) (res : Int32) (hf : f_X0_rowOf n t v1 v2 = some res) (hK : RetI F G Q cX0_rowOf 5 .int res (t, r)) : At F G Q 5 0 [(0, .ref (G.2.1 17)), (1, .int v1), (2, .int v2)] [] (t, r) := by
  unfold f_X0_rowOf at hf
  refine a_iconst C (v := (0 : Int32)) (q := 1) dX0_rowOf_0 rfl (by decide) ?_
  refine a_istore_n C (i := 3) (q := 2) (lv' := [(3, .int (0 : Int32)), (0, .ref (G.2.1 17)), (1, .int v1), (2, .int v2)]) dX0_rowOf_1 rfl (by decide) rfl rfl ?_
  refine a_iconst C (v := (0 : Int32)) (q := 3) dX0_rowOf_2 rfl (by decide) ?_
  refine a_istore C (i := 4) (q := 5) (lv' := [(4, .int (0 : Int32)), (3, .int (0 : Int32)), (0, .ref (G.2.1 17)), (1, .int v1), (2, .int v2)]) dX0_rowOf_3 (by decide) rfl rfl ?_
  obtain ⟨v3_5, h1, hf⟩ := b1_some hf
  refine a_sub [2, 3, 4, 1, 0] rfl (lp_X0_rowOf_5 C hR n r t v1 v2  (0 : Int32) (0 : Int32) _ h1 ?_)
  show At F G Q 5 38 [(3, .int v3_5)] [] (t, r)
  refine a_iload_n C (i := 3) (q := 39) dX0_rowOf_38 rfl 0 rfl rfl ?_
  have hf := Option.some.inj hf; subst hf
  exact (show RetI F G Q cX0_rowOf 5 .int v3_5 (t, r) from hK) rfl _ _ dX0_rowOf_39
theorem c_X0_rowOf (l : Launch) (G : GX) (n : Nat) (t : MM) (r : SR) (v1 : Int32) (v2 : Int32) (res : Int32) (hf : f_X0_rowOf n t v1 v2 = some res) : MetC l G yX0_rowOf cX0_rowOf 5 (some .int) 4 (t, r) [.ref (G.2.1 17), .int v1, .int v2] (PostI G res (t, r)) :=
  m_I (by decide) (Nat.le_of_ble_eq_true rfl) (fun F Q C h1 h2 h3 hK => w_X0_rowOf_e C (Rm.of h1 h3) n t r v1 v2 res hf hK)
theorem cw_X0_goOn : CwV RX0 yX0_goOn cX0_goOn 7 3 none := ⟨k_594, k_593, kp_8, k_4, by decide +kernel, by decide⟩
theorem cw_X0_putIn : CwV RX0 yX0_putIn cX0_putIn 8 4 none := ⟨k_605, k_604, kp_10, k_4, by decide +kernel, by decide⟩
def f_X0_putIn_106 (n : Nat) (rec : MM → Int32 → Int32 → Int32 → Option MM) (t : MM) (v5 : Int32) (v6 : Int32) : Option (MM) :=
  b1 (f_X2_hang t 18 v5 (-v6)) (fun y_6 => some y_6)
set_option maxHeartbeats 4000000 in
theorem w_X0_putIn_106 {F : FX} {G : GX} {Q : State → Prop} {D : Nat} (C : Cx F G cX0_putIn 8 RX0) (hR : Rm F (D + 1)) (n : Nat) (t : MM) (r : SR) (hD : 5 ≤ D) (rec : MM → Int32 → Int32 → Int32 → Option MM) (hrec : ∀ (t : MM) (a b c : Int32) (res : MM), rec t a b c = some res → MetC F.2.1 G yX0_goOn cX0_goOn 7 none D (t, r) [.ref (G.2.1 17), .int a, .int b, .int c] (PostV G (res, r))) (v5 : Int32) (v6 : Int32) (res : MM) (hf : f_X0_putIn_106 n rec t v5 v6 = some res) (hK : RetV F G Q cX0_putIn 8 (res, r)) : At F G Q 8 106 [(0, .ref (G.2.1 17)), (5, .int v5), (6, .int v6)] [] (t, r) := by
  unfold f_X0_putIn_106 at hf
  refine a_aload_n C (i := 0) (q := 107) dX0_putIn_106 rfl 0 rfl rfl ?_
  refine a_get0 C (q := 110) dX0_putIn_107 1 (by decide) k_126 (by decide) rfl rfl rfl ?_
  refine a_iload C (i := 5) (q := 112) dX0_putIn_110 rfl 1 rfl ?_
  refine a_iload C (i := 6) (q := 114) dX0_putIn_112 rfl 2 rfl ?_
  refine a_ineg C (q := 115) dX0_putIn_114 rfl ?_
  refine a_callVV C (q := 118) (As := [.int v5, .int (-v6)]) (st := []) dX0_putIn_115 hR (by omega) hf (fun b => (b, r)) (by decide) rfl rfl cw_X2_hang (fun b hb => c_X2_hang _ G t r 18 v5 (-v6) (by unfold isBal; decide) b hb) rfl rfl (Nat.le_of_ble_eq_true rfl) k_607 rfl (fun y_6 hf => ?_)
  have hf := Option.some.inj hf; subst hf
  exact (show RetV F G Q cX0_putIn 8 (y_6, r) from hK) _ _ dX0_putIn_118
def f_X0_putIn (n : Nat) (rec : MM → Int32 → Int32 → Int32 → Option MM) (t : MM) (v1 : Int32) (v2 : Int32) (v3 : Int32) (v4 : Int32) : Option (MM) :=
  b1 (f_X6_foot t) (fun y_1 => nm ((y_1 + v1) - (y_1 + v1) / (12 : Int32) * (12 : Int32)) (fun v5_2 => b1 (f_X6_weightOf n t v4) (fun y_3 => b1 (f_X2_hang t 18 v5_2 y_3) (fun y_4 => b1 (f_X2_isEvenWithin y_4 18 (y_4 1 7)) (fun y_5 => (if y_5 = 0 then f_X0_putIn_106 n rec y_4 v5_2 y_3 else b1 (f_X0_rowOf n y_4 v4 v1) (fun y_7 => nm (v3 ||| y_7) (fun v7_8 => (if v4 = v2 then nm (st1 y_4 17 4 (if ((v1 <<< ((16 : Int32) &&& 31)) ||| v7_8) < (y_4 17 4) then ((v1 <<< ((16 : Int32) &&& 31)) ||| v7_8) else (y_4 17 4))) (fun t_10 => f_X0_putIn_106 n rec t_10 v5_2 y_3) else b1 (rec y_4 (v1 + (1 : Int32)) (v2 &&& (v4 ^^^ (-1 : Int32))) v7_8) (fun y_9 => f_X0_putIn_106 n rec y_9 v5_2 y_3))))))))))
set_option maxHeartbeats 4000000 in
theorem w_X0_putIn_e {F : FX} {G : GX} {Q : State → Prop} {D : Nat} (C : Cx F G cX0_putIn 8 RX0) (hR : Rm F (D + 1)) (n : Nat) (t : MM) (r : SR) (hD : 5 ≤ D) (rec : MM → Int32 → Int32 → Int32 → Option MM) (hrec : ∀ (t : MM) (a b c : Int32) (res : MM), rec t a b c = some res → MetC F.2.1 G yX0_goOn cX0_goOn 7 none D (t, r) [.ref (G.2.1 17), .int a, .int b, .int c] (PostV G (res, r))) (v1 : Int32) (v2 : Int32) (v3 : Int32) (v4 : Int32) (res : MM) (hf : f_X0_putIn n rec t v1 v2 v3 v4 = some res) (hK : RetV F G Q cX0_putIn 8 (res, r)) : At F G Q 8 0 [(0, .ref (G.2.1 17)), (1, .int v1), (2, .int v2), (3, .int v3), (4, .int v4)] [] (t, r) := by
  unfold f_X0_putIn at hf
  refine a_aload_n C (i := 0) (q := 1) dX0_putIn_0 rfl 0 rfl rfl ?_
  refine a_get0 C (q := 4) dX0_putIn_1 0 (by decide) k_125 (by decide) rfl rfl rfl ?_
  refine a_callVI C (q := 7) (As := []) (st := []) dX0_putIn_4 hR (by omega) hf (fun b => b) (fun _ => (t, r)) (by decide) rfl rfl cw_X6_foot (fun b hb => c_X6_foot _ G t r b hb) rfl rfl (Nat.le_of_ble_eq_true rfl) k_595 rfl (fun y_1 hf => ?_)
  refine a_iload_n C (i := 1) (q := 8) dX0_putIn_7 rfl 1 rfl rfl ?_
  refine a_iadd C (q := 9) dX0_putIn_8 rfl ?_
  refine a_bipush C (v := (12 : Int32)) (q := 11) dX0_putIn_9 rfl (by decide) ?_
  refine a_irem C (q := 12) dX0_putIn_11 rfl (by decide) ?_
  refine a_istoreN C (i := 5) (q := 14) (lv' := fun z => [(5, .int z), (0, .ref (G.2.1 17)), (1, .int v1), (2, .int v2), (3, .int v3), (4, .int v4)]) dX0_putIn_12 hf (by decide) (fun _ => rfl) rfl (fun v5_2 hf => ?_)
  refine a_aload_n C (i := 0) (q := 15) dX0_putIn_14 rfl 1 rfl rfl ?_
  refine a_get0 C (q := 18) dX0_putIn_15 0 (by decide) k_125 (by decide) rfl rfl rfl ?_
  refine a_iload C (i := 4) (q := 20) dX0_putIn_18 rfl 5 rfl ?_
  refine a_callVI C (q := 23) (As := [.int v4]) (st := []) dX0_putIn_20 hR (by omega) hf (fun b => b) (fun _ => (t, r)) (by decide) rfl rfl cw_X6_weightOf (fun b hb => c_X6_weightOf _ G n t r v4 b hb) rfl rfl (Nat.le_of_ble_eq_true rfl) k_606 rfl (fun y_3 hf => ?_)
  refine a_istore C (i := 6) (q := 25) (lv' := [(6, .int y_3), (5, .int v5_2), (0, .ref (G.2.1 17)), (1, .int v1), (2, .int v2), (3, .int v3), (4, .int v4)]) dX0_putIn_23 (by decide) rfl rfl ?_
  refine a_aload_n C (i := 0) (q := 26) dX0_putIn_25 rfl 2 rfl rfl ?_
  refine a_get0 C (q := 29) dX0_putIn_26 1 (by decide) k_126 (by decide) rfl rfl rfl ?_
  refine a_iload C (i := 5) (q := 31) dX0_putIn_29 rfl 1 rfl ?_
  refine a_iload C (i := 6) (q := 33) dX0_putIn_31 rfl 0 rfl ?_
  refine a_callVV C (q := 36) (As := [.int v5_2, .int y_3]) (st := []) dX0_putIn_33 hR (by omega) hf (fun b => (b, r)) (by decide) rfl rfl cw_X2_hang (fun b hb => c_X2_hang _ G t r 18 v5_2 y_3 (by unfold isBal; decide) b hb) rfl rfl (Nat.le_of_ble_eq_true rfl) k_607 rfl (fun y_4 hf => ?_)
  refine a_aload_n C (i := 0) (q := 37) dX0_putIn_36 rfl 2 rfl rfl ?_
  refine a_get0 C (q := 40) dX0_putIn_37 1 (by decide) k_126 (by decide) rfl rfl rfl ?_
  refine a_aload_n C (i := 0) (q := 41) dX0_putIn_40 rfl 2 rfl rfl ?_
  refine a_get0 C (q := 44) dX0_putIn_41 0 (by decide) k_125 (by decide) rfl rfl rfl ?_
  refine a_get6 C (q := 47) dX0_putIn_44 7 (by decide) k_51 (by decide) rfl rfl rfl ?_
  refine a_callVI C (q := 50) (As := [.int (y_4 1 7)]) (st := []) dX0_putIn_47 hR (by omega) hf (fun b => b) (fun _ => (y_4, r)) (by decide) rfl rfl cw_X2_isEvenWithin (fun b hb => c_X2_isEvenWithin _ G y_4 r 18 (y_4 1 7) (by unfold isBal; decide) b hb) rfl rfl (Nat.le_of_ble_eq_true rfl) k_608 rfl (fun y_5 hf => ?_)
  refine a_if_eq C (tgt := 106) (q := 53) dX0_putIn_50 hf (by decide) rfl (fun hf => ?_) (fun hf => ?_)
  · exact a_sub [2, 1, 0] rfl (w_X0_putIn_106 C hR n y_4 r hD rec hrec v5_2 y_3 res hf hK)
  · refine a_iload_n C (i := 3) (q := 54) dX0_putIn_53 rfl 5 rfl rfl ?_
    refine a_aload_n C (i := 0) (q := 55) dX0_putIn_54 rfl 2 rfl rfl ?_
    refine a_iload C (i := 4) (q := 57) dX0_putIn_55 rfl 6 rfl ?_
    refine a_iload_n C (i := 1) (q := 58) dX0_putIn_57 rfl 3 rfl rfl ?_
    refine a_callVI C (q := 61) (As := [.int v4, .int v1]) (st := [.int v3]) dX0_putIn_58 hR (by omega) hf (fun b => b) (fun _ => (y_4, r)) (by decide) rfl rfl cw_X0_rowOf (fun b hb => c_X0_rowOf _ G n y_4 r v4 v1 b hb) rfl rfl (Nat.le_of_ble_eq_true rfl) k_609 rfl (fun y_7 hf => ?_)
    refine a_ior C (q := 62) dX0_putIn_61 rfl ?_
    refine a_istoreN C (i := 7) (q := 64) (lv' := fun z => [(7, .int z), (6, .int y_3), (5, .int v5_2), (0, .ref (G.2.1 17)), (1, .int v1), (2, .int v2), (3, .int v3), (4, .int v4)]) dX0_putIn_62 hf (by decide) (fun _ => rfl) rfl (fun v7_8 hf => ?_)
    refine a_iload C (i := 4) (q := 66) dX0_putIn_64 rfl 7 rfl ?_
    refine a_iload_n C (i := 2) (q := 67) dX0_putIn_66 rfl 5 rfl rfl ?_
    refine a_icmp_ne C (tgt := 91) (q := 70) dX0_putIn_67 hf (by decide) rfl (fun hf => ?_) (fun hf => ?_)
    · refine a_aload_n C (i := 0) (q := 92) dX0_putIn_91 rfl 3 rfl rfl ?_
      refine a_iload_n C (i := 1) (q := 93) dX0_putIn_92 rfl 4 rfl rfl ?_
      refine a_iconst C (v := (1 : Int32)) (q := 94) dX0_putIn_93 rfl (by decide) ?_
      refine a_iadd C (q := 95) dX0_putIn_94 rfl ?_
      refine a_iload_n C (i := 2) (q := 96) dX0_putIn_95 rfl 5 rfl rfl ?_
      refine a_iload C (i := 4) (q := 98) dX0_putIn_96 rfl 7 rfl ?_
      refine a_iconst C (v := (-1 : Int32)) (q := 99) dX0_putIn_98 rfl (by decide) ?_
      refine a_ixor C (q := 100) dX0_putIn_99 rfl ?_
      refine a_iand C (q := 101) dX0_putIn_100 rfl ?_
      refine a_iload C (i := 7) (q := 103) dX0_putIn_101 rfl 0 rfl ?_
      refine a_callVV C (q := 106) (As := [.int (v1 + (1 : Int32)), .int (v2 &&& (v4 ^^^ (-1 : Int32))), .int v7_8]) (st := []) dX0_putIn_103 hR (by omega) hf (fun b => (b, r)) (by decide) rfl rfl cw_X0_goOn (fun b hb => hrec _ _ _ _ b hb) rfl rfl (Nat.le_of_ble_eq_true rfl) k_591 rfl (fun y_9 hf => ?_)
      exact a_sub [3, 2, 1] rfl (w_X0_putIn_106 C hR n y_9 r hD rec hrec v5_2 y_3 res hf hK)
    · refine a_aload_n C (i := 0) (q := 71) dX0_putIn_70 rfl 3 rfl rfl ?_
      refine a_aload_n C (i := 0) (q := 72) dX0_putIn_71 rfl 3 rfl rfl ?_
      refine a_get0 C (q := 75) dX0_putIn_72 4 (by decide) k_129 (by decide) rfl rfl rfl ?_
      refine a_iload_n C (i := 1) (q := 76) dX0_putIn_75 rfl 4 rfl rfl ?_
      refine a_bipush C (v := (16 : Int32)) (q := 78) dX0_putIn_76 rfl (by decide) ?_
      refine a_ishl C (q := 79) dX0_putIn_78 rfl ?_
      refine a_iload C (i := 7) (q := 81) dX0_putIn_79 rfl 0 rfl ?_
      refine a_ior C (q := 82) dX0_putIn_81 rfl ?_
      refine a_mmin C (q := 85) (st := [.ref (G.2.1 17)]) dX0_putIn_82 hR (by omega) (Nat.le_of_ble_eq_true rfl) k_618 rfl ?_
      refine a_put0N C (q := 88) (mk := (fun z => (z, r))) dX0_putIn_85 hf 4 (by decide) k_129 (by decide) rfl rfl cellE_C1 rfl rfl rfl (Nat.le_of_ble_eq_true rfl) rfl (fun t_10 hf => ?_)
      refine a_goto C (q := 106) dX0_putIn_88 (by decide) ?_
      exact a_sub [3, 2, 1] rfl (w_X0_putIn_106 C hR n t_10 r hD rec hrec v5_2 y_3 res hf hK)
theorem c_X0_putIn (l : Launch) (G : GX) (n : Nat) (t : MM) (r : SR) {D : Nat} (hD : 5 ≤ D) (rec : MM → Int32 → Int32 → Int32 → Option MM) (hrec : ∀ (t : MM) (a b c : Int32) (res : MM), rec t a b c = some res → MetC l G yX0_goOn cX0_goOn 7 none D (t, r) [.ref (G.2.1 17), .int a, .int b, .int c] (PostV G (res, r))) (v1 v2 v3 v4 : Int32) (res : MM) (hf : f_X0_putIn n rec t v1 v2 v3 v4 = some res) : MetC l G yX0_putIn cX0_putIn 8 none (D + 1) (t, r) [.ref (G.2.1 17), .int v1, .int v2, .int v3, .int v4] (PostV G (res, r)) :=
  m_V (by decide) (Nat.le_of_ble_eq_true rfl) (fun F Q C h1 h2 h3 hK => w_X0_putIn_e C (Rm.of h1 h3) n t r hD rec (by subst h2; exact hrec) v1 v2 v3 v4 res hf hK)
def P_X0_goOn_45 (F : FX) (G : GX) (Q : State → Prop) (r : SR) (v1 : Int32) (v2 : Int32) (v3 : Int32) (v4 : Int32) (v5 : Int32) (v6 : Int32) (t : MM) : Prop := At F G Q 7 45 [(0, .ref (G.2.1 17)), (1, .int v1), (2, .int v2), (3, .int v3), (4, .int v4), (5, .int v5), (6, .int v6)] [] (t, r)
def E_X0_goOn_45 (F : FX) (G : GX) (Q : State → Prop) (r : SR) (v1 : Int32) (v2 : Int32) (v3 : Int32) (v4 : Int32) : MM → Prop := fun q => match q with
  | t => At F G Q 7 108 [(0, .ref (G.2.1 17)), (1, .int v1), (2, .int v2), (3, .int v3)] [] (t, r)
def lb_X0_goOn_45 (n : Nat) (rec : MM → Int32 → Int32 → Int32 → Option MM) (v1 : Int32) (v2 : Int32) (v3 : Int32) (v4 : Int32) (v5 : Int32) (v6 : Int32) (t : MM) : Option ((MM) ⊕ (Int32 × Int32 × MM)) :=
  (if (16 : Int32) ≤ v6 then some (.inl t) else (if v5 = 0 then some (.inl t) else b1 (f_X0_mayGoTogether t v5 v2) (fun y_3 => (if y_3 = 0 then nm ((v5 - (1 : Int32)) &&& v2) (fun v5_4 => nm (v6 + 1) (fun v6_5 => some (.inr (v5_4, v6_5, t)))) else b1 (f_X6_fitTogether n t (v4 ||| v5)) (fun y_6 => (if y_6 = 0 then nm ((v5 - (1 : Int32)) &&& v2) (fun v5_7 => nm (v6 + 1) (fun v6_8 => some (.inr (v5_7, v6_8, t)))) else b1 (f_X0_putIn n rec t v1 v2 v3 v5) (fun y_9 => nm ((v5 - (1 : Int32)) &&& v2) (fun v5_10 => nm (v6 + 1) (fun v6_11 => some (.inr (v5_10, v6_11, y_9)))))))))))
set_option maxHeartbeats 4000000 in
theorem w_X0_goOn_45 {F : FX} {G : GX} {Q : State → Prop} {D : Nat} (C : Cx F G cX0_goOn 7 RX0) (hR : Rm F (D + 2)) (n : Nat) (r : SR) (v1 : Int32) (v2 : Int32) (v3 : Int32) (v4 : Int32) (hD : 5 ≤ D) (rec : MM → Int32 → Int32 → Int32 → Option MM) (hrec : ∀ (t : MM) (a b c : Int32) (res : MM), rec t a b c = some res → MetC F.2.1 G yX0_goOn cX0_goOn 7 none D (t, r) [.ref (G.2.1 17), .int a, .int b, .int c] (PostV G (res, r))) (v5 : Int32) (v6 : Int32) (t : MM) (res : (MM) ⊕ (Int32 × Int32 × MM)) (hf : lb_X0_goOn_45 n rec v1 v2 v3 v4 v5 v6 t = some res) (hK : Sum.elim (E_X0_goOn_45 F G Q r v1 v2 v3 v4) (fun q => match q with | (v5, v6, t) => P_X0_goOn_45 F G Q r v1 v2 v3 v4 v5 v6 t) res) : P_X0_goOn_45 F G Q r v1 v2 v3 v4 v5 v6 t := by
  unfold lb_X0_goOn_45 at hf
  show At F G Q 7 45 [(0, .ref (G.2.1 17)), (1, .int v1), (2, .int v2), (3, .int v3), (4, .int v4), (5, .int v5), (6, .int v6)] [] (t, r)
  refine a_iload C (i := 6) (q := 47) dX0_goOn_45 rfl 6 rfl ?_
  refine a_bipush C (v := (16 : Int32)) (q := 49) dX0_goOn_47 rfl (by decide) ?_
  refine a_icmp_ge C (tgt := 108) (q := 52) dX0_goOn_49 hf (by decide) rfl (fun hf => ?_) (fun hf => ?_)
  · have hf := Option.some.inj hf; subst hf
    exact a_sub [0, 1, 2, 3] rfl (show At F G Q 7 108 [(0, .ref (G.2.1 17)), (1, .int v1), (2, .int v2), (3, .int v3)] [] (t, r) from hK)
  · refine a_iload C (i := 5) (q := 54) dX0_goOn_52 rfl 5 rfl ?_
    refine a_if_ne C (tgt := 60) (q := 57) dX0_goOn_54 hf (by decide) rfl (fun hf => ?_) (fun hf => ?_)
    · refine a_aload_n C (i := 0) (q := 61) dX0_goOn_60 rfl 0 rfl rfl ?_
      refine a_iload C (i := 5) (q := 63) dX0_goOn_61 rfl 5 rfl ?_
      refine a_iload_n C (i := 2) (q := 64) dX0_goOn_63 rfl 2 rfl rfl ?_
      refine a_callVI C (q := 67) (As := [.int v5, .int v2]) (st := []) dX0_goOn_64 hR (by omega) hf (fun b => b) (fun _ => (t, r)) (by decide) rfl rfl cw_X0_mayGoTogether (fun b hb => c_X0_mayGoTogether _ G t r v5 v2 b hb) rfl rfl (Nat.le_of_ble_eq_true rfl) k_597 rfl (fun y_3 hf => ?_)
      refine a_if_eq C (tgt := 94) (q := 70) dX0_goOn_67 hf (by decide) rfl (fun hf => ?_) (fun hf => ?_)
      · refine a_iload C (i := 5) (q := 96) dX0_goOn_94 rfl 5 rfl ?_
        refine a_iconst C (v := (1 : Int32)) (q := 97) dX0_goOn_96 rfl (by decide) ?_
        refine a_isub C (q := 98) dX0_goOn_97 rfl ?_
        refine a_iload_n C (i := 2) (q := 99) dX0_goOn_98 rfl 2 rfl rfl ?_
        refine a_iand C (q := 100) dX0_goOn_99 rfl ?_
        refine a_istoreN C (i := 5) (q := 102) (lv' := fun z => [(5, .int z), (0, .ref (G.2.1 17)), (1, .int v1), (2, .int v2), (3, .int v3), (4, .int v4), (6, .int v6)]) dX0_goOn_100 hf (by decide) (fun _ => rfl) rfl (fun v5_4 hf => ?_)
        refine a_iincN C (i := 6) (k := 6) (q := 105) (lv' := fun z => [(6, .int z), (5, .int v5_4), (0, .ref (G.2.1 17)), (1, .int v1), (2, .int v2), (3, .int v3), (4, .int v4)]) dX0_goOn_102 hf rfl rfl (by decide) (fun _ => rfl) rfl (fun v6_5 hf => ?_)
        refine a_goto C (q := 45) dX0_goOn_105 (by decide) ?_
        have hf := Option.some.inj hf; subst hf
        exact a_sub [2, 3, 4, 5, 6, 1, 0] rfl (show At F G Q 7 45 [(0, .ref (G.2.1 17)), (1, .int v1), (2, .int v2), (3, .int v3), (4, .int v4), (5, .int v5_4), (6, .int v6_5)] [] (t, r) from hK)
      · refine a_aload_n C (i := 0) (q := 71) dX0_goOn_70 rfl 0 rfl rfl ?_
        refine a_get0 C (q := 74) dX0_goOn_71 0 (by decide) k_125 (by decide) rfl rfl rfl ?_
        refine a_iload C (i := 4) (q := 76) dX0_goOn_74 rfl 4 rfl ?_
        refine a_iload C (i := 5) (q := 78) dX0_goOn_76 rfl 5 rfl ?_
        refine a_ior C (q := 79) dX0_goOn_78 rfl ?_
        refine a_callVI C (q := 82) (As := [.int (v4 ||| v5)]) (st := []) dX0_goOn_79 hR (by omega) hf (fun b => b) (fun _ => (t, r)) (by decide) rfl rfl cw_X6_fitTogether (fun b hb => c_X6_fitTogether _ G n t r (v4 ||| v5) b hb) rfl rfl (Nat.le_of_ble_eq_true rfl) k_601 rfl (fun y_6 hf => ?_)
        refine a_if_eq C (tgt := 94) (q := 85) dX0_goOn_82 hf (by decide) rfl (fun hf => ?_) (fun hf => ?_)
        · refine a_iload C (i := 5) (q := 96) dX0_goOn_94 rfl 5 rfl ?_
          refine a_iconst C (v := (1 : Int32)) (q := 97) dX0_goOn_96 rfl (by decide) ?_
          refine a_isub C (q := 98) dX0_goOn_97 rfl ?_
          refine a_iload_n C (i := 2) (q := 99) dX0_goOn_98 rfl 2 rfl rfl ?_
          refine a_iand C (q := 100) dX0_goOn_99 rfl ?_
          refine a_istoreN C (i := 5) (q := 102) (lv' := fun z => [(5, .int z), (0, .ref (G.2.1 17)), (1, .int v1), (2, .int v2), (3, .int v3), (4, .int v4), (6, .int v6)]) dX0_goOn_100 hf (by decide) (fun _ => rfl) rfl (fun v5_7 hf => ?_)
          refine a_iincN C (i := 6) (k := 6) (q := 105) (lv' := fun z => [(6, .int z), (5, .int v5_7), (0, .ref (G.2.1 17)), (1, .int v1), (2, .int v2), (3, .int v3), (4, .int v4)]) dX0_goOn_102 hf rfl rfl (by decide) (fun _ => rfl) rfl (fun v6_8 hf => ?_)
          refine a_goto C (q := 45) dX0_goOn_105 (by decide) ?_
          have hf := Option.some.inj hf; subst hf
          exact a_sub [2, 3, 4, 5, 6, 1, 0] rfl (show At F G Q 7 45 [(0, .ref (G.2.1 17)), (1, .int v1), (2, .int v2), (3, .int v3), (4, .int v4), (5, .int v5_7), (6, .int v6_8)] [] (t, r) from hK)
        · refine a_aload_n C (i := 0) (q := 86) dX0_goOn_85 rfl 0 rfl rfl ?_
          refine a_iload_n C (i := 1) (q := 87) dX0_goOn_86 rfl 1 rfl rfl ?_
          refine a_iload_n C (i := 2) (q := 88) dX0_goOn_87 rfl 2 rfl rfl ?_
          refine a_iload_n C (i := 3) (q := 89) dX0_goOn_88 rfl 3 rfl rfl ?_
          refine a_iload C (i := 5) (q := 91) dX0_goOn_89 rfl 5 rfl ?_
          refine a_callVV C (q := 94) (As := [.int v1, .int v2, .int v3, .int v5]) (st := []) dX0_goOn_91 hR (by omega) hf (fun b => (b, r)) (by decide) rfl rfl cw_X0_putIn (fun b hb => c_X0_putIn _ G n t r hD rec hrec v1 v2 v3 v5 b hb) rfl rfl (Nat.le_of_ble_eq_true rfl) k_602 rfl (fun y_9 hf => ?_)
          refine a_iload C (i := 5) (q := 96) dX0_goOn_94 rfl 5 rfl ?_
          refine a_iconst C (v := (1 : Int32)) (q := 97) dX0_goOn_96 rfl (by decide) ?_
          refine a_isub C (q := 98) dX0_goOn_97 rfl ?_
          refine a_iload_n C (i := 2) (q := 99) dX0_goOn_98 rfl 2 rfl rfl ?_
          refine a_iand C (q := 100) dX0_goOn_99 rfl ?_
          refine a_istoreN C (i := 5) (q := 102) (lv' := fun z => [(5, .int z), (0, .ref (G.2.1 17)), (1, .int v1), (2, .int v2), (3, .int v3), (4, .int v4), (6, .int v6)]) dX0_goOn_100 hf (by decide) (fun _ => rfl) rfl (fun v5_10 hf => ?_)
          refine a_iincN C (i := 6) (k := 6) (q := 105) (lv' := fun z => [(6, .int z), (5, .int v5_10), (0, .ref (G.2.1 17)), (1, .int v1), (2, .int v2), (3, .int v3), (4, .int v4)]) dX0_goOn_102 hf rfl rfl (by decide) (fun _ => rfl) rfl (fun v6_11 hf => ?_)
          refine a_goto C (q := 45) dX0_goOn_105 (by decide) ?_
          have hf := Option.some.inj hf; subst hf
          exact a_sub [2, 3, 4, 5, 6, 1, 0] rfl (show At F G Q 7 45 [(0, .ref (G.2.1 17)), (1, .int v1), (2, .int v2), (3, .int v3), (4, .int v4), (5, .int v5_10), (6, .int v6_11)] [] (y_9, r) from hK)
    · refine a_goto C (q := 108) dX0_goOn_57 (by decide) ?_
      have hf := Option.some.inj hf; subst hf
      exact a_sub [0, 1, 2, 3] rfl (show At F G Q 7 108 [(0, .ref (G.2.1 17)), (1, .int v1), (2, .int v2), (3, .int v3)] [] (t, r) from hK)
theorem lp_X0_goOn_45 {F : FX} {G : GX} {Q : State → Prop} {D : Nat} (C : Cx F G cX0_goOn 7 RX0) (hR : Rm F (D + 2)) (n : Nat) (r : SR) (v1 : Int32) (v2 : Int32) (v3 : Int32) (v4 : Int32) (hD : 5 ≤ D) (rec : MM → Int32 → Int32 → Int32 → Option MM) (hrec : ∀ (t : MM) (a b c : Int32) (res : MM), rec t a b c = some res → MetC F.2.1 G yX0_goOn cX0_goOn 7 none D (t, r) [.ref (G.2.1 17), .int a, .int b, .int c] (PostV G (res, r))) (v5 : Int32) (v6 : Int32) (t : MM) (x : MM) (h : it3 (lb_X0_goOn_45 n rec v1 v2 v3 v4) n v5 v6 t = some x) (hE : E_X0_goOn_45 F G Q r v1 v2 v3 v4 x) : At F G Q 7 45 [(0, .ref (G.2.1 17)), (1, .int v1), (2, .int v2), (3, .int v3), (4, .int v4), (5, .int v5), (6, .int v6)] [] (t, r) :=
  it3_ind (b := (lb_X0_goOn_45 n rec v1 v2 v3 v4)) (E := E_X0_goOn_45 F G Q r v1 v2 v3 v4) (P := fun v5 v6 t => P_X0_goOn_45 F G Q r v1 v2 v3 v4 v5 v6 t) (fun v5 v6 t res hf hK => w_X0_goOn_45 C hR n r v1 v2 v3 v4 hD rec hrec  v5 v6 t res hf hK) n v5 v6 t x h hE
def g_X0_goOn_108 (n : Nat) (rec : MM → Int32 → Int32 → Int32 → Option MM) (t : MM) (v1 : Int32) (v2 : Int32) (v3 : Int32) : Option (MM) :=
  b1 (rec t (v1 + (1 : Int32)) v2 v3) (fun y_13 => some y_13)
set_option maxHeartbeats 4000000 in
theorem w_X0_goOn_108 {F : FX} {G : GX} {Q : State → Prop} {D : Nat} (C : Cx F G cX0_goOn 7 RX0) (hR : Rm F (D + 2)) (n : Nat) (t : MM) (r : SR) (hD : 5 ≤ D) (rec : MM → Int32 → Int32 → Int32 → Option MM) (hrec : ∀ (t : MM) (a b c : Int32) (res : MM), rec t a b c = some res → MetC F.2.1 G yX0_goOn cX0_goOn 7 none D (t, r) [.ref (G.2.1 17), .int a, .int b, .int c] (PostV G (res, r))) (v1 : Int32) (v2 : Int32) (v3 : Int32) (res : MM) (hf : g_X0_goOn_108 n rec t v1 v2 v3 = some res) (hK : RetV F G Q cX0_goOn 7 (res, r)) : At F G Q 7 108 [(0, .ref (G.2.1 17)), (1, .int v1), (2, .int v2), (3, .int v3)] [] (t, r) := by
  unfold g_X0_goOn_108 at hf
  refine a_aload_n C (i := 0) (q := 109) dX0_goOn_108 rfl 0 rfl rfl ?_
  refine a_iload_n C (i := 1) (q := 110) dX0_goOn_109 rfl 1 rfl rfl ?_
  refine a_iconst C (v := (1 : Int32)) (q := 111) dX0_goOn_110 rfl (by decide) ?_
  refine a_iadd C (q := 112) dX0_goOn_111 rfl ?_
  refine a_iload_n C (i := 2) (q := 113) dX0_goOn_112 rfl 2 rfl rfl ?_
  refine a_iload_n C (i := 3) (q := 114) dX0_goOn_113 rfl 3 rfl rfl ?_
  refine a_callVV C (q := 117) (As := [.int (v1 + (1 : Int32)), .int v2, .int v3]) (st := []) dX0_goOn_114 hR (by omega) hf (fun b => (b, r)) (by decide) rfl rfl cw_X0_goOn (fun b hb => hrec _ _ _ _ b hb) rfl rfl (Nat.le_of_ble_eq_true rfl) k_591 rfl (fun y_13 hf => ?_)
  have hf := Option.some.inj hf; subst hf
  exact (show RetV F G Q cX0_goOn 7 (y_13, r) from hK) _ _ dX0_goOn_117
def g_X0_goOn (n : Nat) (rec : MM → Int32 → Int32 → Int32 → Option MM) (t : MM) (v1 : Int32) (v2 : Int32) (v3 : Int32) : Option (MM) :=
  (if (11 : Int32) < v1 then some t else (if v1 ≤ ((t 17 4) >>> ((16 : Int32) &&& 31)) then b1 (f_X6_foot t) (fun y_1 => b1 (f_X6_whoIsAt n t ((y_1 + v1) - (y_1 + v1) / (12 : Int32) * (12 : Int32))) (fun y_2 => b1 (it3 (lb_X0_goOn_45 n rec v1 v2 v3 y_2) n v2 (0 : Int32) t) (fun t_12 => g_X0_goOn_108 n rec t_12 v1 v2 v3))) else some t))
set_option maxHeartbeats 4000000 in
theorem w_X0_goOn_e {F : FX} {G : GX} {Q : State → Prop} {D : Nat} (C : Cx F G cX0_goOn 7 RX0) (hR : Rm F (D + 2)) (n : Nat) (t : MM) (r : SR) (hD : 5 ≤ D) (rec : MM → Int32 → Int32 → Int32 → Option MM) (hrec : ∀ (t : MM) (a b c : Int32) (res : MM), rec t a b c = some res → MetC F.2.1 G yX0_goOn cX0_goOn 7 none D (t, r) [.ref (G.2.1 17), .int a, .int b, .int c] (PostV G (res, r))) (v1 : Int32) (v2 : Int32) (v3 : Int32) (res : MM) (hf : g_X0_goOn n rec t v1 v2 v3 = some res) (hK : RetV F G Q cX0_goOn 7 (res, r)) : At F G Q 7 0 [(0, .ref (G.2.1 17)), (1, .int v1), (2, .int v2), (3, .int v3)] [] (t, r) := by
  unfold g_X0_goOn at hf
  refine a_iload_n C (i := 1) (q := 1) dX0_goOn_0 rfl 1 rfl rfl ?_
  refine a_bipush C (v := (11 : Int32)) (q := 3) dX0_goOn_1 rfl (by decide) ?_
  refine a_icmp_gt C (tgt := 17) (q := 6) dX0_goOn_3 hf (by decide) rfl (fun hf => ?_) (fun hf => ?_)
  · have hf := Option.some.inj hf; subst hf
    exact (show RetV F G Q cX0_goOn 7 (t, r) from hK) _ _ dX0_goOn_17
  · refine a_iload_n C (i := 1) (q := 7) dX0_goOn_6 rfl 1 rfl rfl ?_
    refine a_aload_n C (i := 0) (q := 8) dX0_goOn_7 rfl 0 rfl rfl ?_
    refine a_get0 C (q := 11) dX0_goOn_8 4 (by decide) k_129 (by decide) rfl rfl rfl ?_
    refine a_bipush C (v := (16 : Int32)) (q := 13) dX0_goOn_11 rfl (by decide) ?_
    refine a_ishr C (q := 14) dX0_goOn_13 rfl ?_
    refine a_icmp_le C (tgt := 18) (q := 17) dX0_goOn_14 hf (by decide) rfl (fun hf => ?_) (fun hf => ?_)
    · refine a_aload_n C (i := 0) (q := 19) dX0_goOn_18 rfl 0 rfl rfl ?_
      refine a_get0 C (q := 22) dX0_goOn_19 0 (by decide) k_125 (by decide) rfl rfl rfl ?_
      refine a_aload_n C (i := 0) (q := 23) dX0_goOn_22 rfl 0 rfl rfl ?_
      refine a_get0 C (q := 26) dX0_goOn_23 0 (by decide) k_125 (by decide) rfl rfl rfl ?_
      refine a_callVI C (q := 29) (As := []) (st := [.ref (G.2.1 1)]) dX0_goOn_26 hR (by omega) hf (fun b => b) (fun _ => (t, r)) (by decide) rfl rfl cw_X6_foot (fun b hb => c_X6_foot _ G t r b hb) rfl rfl (Nat.le_of_ble_eq_true rfl) k_595 rfl (fun y_1 hf => ?_)
      refine a_iload_n C (i := 1) (q := 30) dX0_goOn_29 rfl 1 rfl rfl ?_
      refine a_iadd C (q := 31) dX0_goOn_30 rfl ?_
      refine a_bipush C (v := (12 : Int32)) (q := 33) dX0_goOn_31 rfl (by decide) ?_
      refine a_irem C (q := 34) dX0_goOn_33 rfl (by decide) ?_
      refine a_callVI C (q := 37) (As := [.int ((y_1 + v1) - (y_1 + v1) / (12 : Int32) * (12 : Int32))]) (st := []) dX0_goOn_34 hR (by omega) hf (fun b => b) (fun _ => (t, r)) (by decide) rfl rfl cw_X6_whoIsAt (fun b hb => c_X6_whoIsAt _ G n t r ((y_1 + v1) - (y_1 + v1) / (12 : Int32) * (12 : Int32)) b hb) rfl rfl (Nat.le_of_ble_eq_true rfl) k_596 rfl (fun y_2 hf => ?_)
      refine a_istore C (i := 4) (q := 39) (lv' := [(4, .int y_2), (0, .ref (G.2.1 17)), (1, .int v1), (2, .int v2), (3, .int v3)]) dX0_goOn_37 (by decide) rfl rfl ?_
      refine a_iload_n C (i := 2) (q := 40) dX0_goOn_39 rfl 3 rfl rfl ?_
      refine a_istore C (i := 5) (q := 42) (lv' := [(5, .int v2), (4, .int y_2), (0, .ref (G.2.1 17)), (1, .int v1), (2, .int v2), (3, .int v3)]) dX0_goOn_40 (by decide) rfl rfl ?_
      refine a_iconst C (v := (0 : Int32)) (q := 43) dX0_goOn_42 rfl (by decide) ?_
      refine a_istore C (i := 6) (q := 45) (lv' := [(6, .int (0 : Int32)), (5, .int v2), (4, .int y_2), (0, .ref (G.2.1 17)), (1, .int v1), (2, .int v2), (3, .int v3)]) dX0_goOn_43 (by decide) rfl rfl ?_
      obtain ⟨t_12, h1, hf⟩ := b1_some hf
      refine a_sub [3, 4, 5, 6, 2, 1, 0] rfl (lp_X0_goOn_45 C hR n r v1 v2 v3 y_2 hD rec hrec v2 (0 : Int32) t _ h1 ?_)
      show At F G Q 7 108 [(0, .ref (G.2.1 17)), (1, .int v1), (2, .int v2), (3, .int v3)] [] (t_12, r)
      exact a_sub [0, 1, 2, 3] rfl (w_X0_goOn_108 C hR n t_12 r hD rec hrec v1 v2 v3 res hf hK)
    · have hf := Option.some.inj hf; subst hf
      exact (show RetV F G Q cX0_goOn 7 (t, r) from hK) _ _ dX0_goOn_17
def f_X0_goOn (n : Nat) : Nat → MM → Int32 → Int32 → Int32 → Option MM
  | 0, _, _, _, _ => none
  | k + 1, t, v1, v2, v3 => g_X0_goOn n (f_X0_goOn n k) t v1 v2 v3
theorem c_X0_goOn (l : Launch) (G : GX) (n : Nat) (r : SR) : ∀ (k : Nat) (t : MM) (v1 v2 v3 : Int32) (res : MM), f_X0_goOn n k t v1 v2 v3 = some res → MetC l G yX0_goOn cX0_goOn 7 none (5 + 2 * k) (t, r) [.ref (G.2.1 17), .int v1, .int v2, .int v3] (PostV G (res, r)) := by
  intro k
  induction k with
  | zero => intro t v1 v2 v3 res h; cases h
  | succ k ih =>
    intro t v1 v2 v3 res hf
    exact m_V (by decide) (Nat.le_of_ble_eq_true rfl) (fun F Q C h1 h2 h3 hK => w_X0_goOn_e C (Rm.of h1 h3) n t r (D := 5 + 2 * k) (by omega) (f_X0_goOn n k) (by subst h2; exact ih) v1 v2 v3 res hf hK)
theorem cw_X0_search : CwV RX0 yX0_search cX0_search 3 2 (some .boolean) := ⟨k_588, k_586, k_587, k_4, by decide +kernel, by decide⟩
def f_X0_search (n : Nat) (t : MM) (v1 : Int32) (v2 : Int32) : Option (Int32 × MM) :=
  nm (st1 t 17 2 v1) (fun t_1 => nm (st1 t_1 17 3 v2) (fun t_2 => nm (st1 t_2 17 4 (786432 : Int32)) (fun t_3 => b1 (f_X6_weighAll n t_3 18) (fun y_4 => b1 (f_X0_goOn n 13 y_4 (0 : Int32) v1 (0 : Int32)) (fun y_5 => (if (786432 : Int32) ≤ (y_5 17 4) then some ((0 : Int32), y_5) else some ((1 : Int32), y_5)))))))
set_option maxHeartbeats 4000000 in
theorem w_X0_search_e {F : FX} {G : GX} {Q : State → Prop} (C : Cx F G cX0_search 3 RX0) (hR : Rm F 32) (n : Nat) (t : MM) (r : SR)  (v1 : Int32) (v2 : Int32) (res : Int32 × MM) (hf : f_X0_search n t v1 v2 = some res) (hK : RetI F G Q cX0_search 3 .boolean res.1 (res.2, r)) : At F G Q 3 0 [(0, .ref (G.2.1 17)), (1, .int v1), (2, .int v2)] [] (t, r) := by
  unfold f_X0_search at hf
  refine a_aload_n C (i := 0) (q := 1) dX0_search_0 rfl 0 rfl rfl ?_
  refine a_iload_n C (i := 1) (q := 2) dX0_search_1 rfl 1 rfl rfl ?_
  refine a_put0N C (q := 5) (mk := (fun z => (z, r))) dX0_search_2 hf 2 (by decide) k_127 (by decide) rfl rfl cellE_C1 rfl rfl rfl (Nat.le_of_ble_eq_true rfl) rfl (fun t_1 hf => ?_)
  refine a_aload_n C (i := 0) (q := 6) dX0_search_5 rfl 0 rfl rfl ?_
  refine a_iload_n C (i := 2) (q := 7) dX0_search_6 rfl 2 rfl rfl ?_
  refine a_put0N C (q := 10) (mk := (fun z => (z, r))) dX0_search_7 hf 3 (by decide) k_128 (by decide) rfl rfl cellE_C1 rfl rfl rfl (Nat.le_of_ble_eq_true rfl) rfl (fun t_2 hf => ?_)
  refine a_aload_n C (i := 0) (q := 11) dX0_search_10 rfl 0 rfl rfl ?_
  refine a_ldc C (v := (786432 : Int32)) (q := 13) dX0_search_11 rfl k_589 ?_
  refine a_put0N C (q := 16) (mk := (fun z => (z, r))) dX0_search_13 hf 4 (by decide) k_129 (by decide) rfl rfl cellE_C1 rfl rfl rfl (Nat.le_of_ble_eq_true rfl) rfl (fun t_3 hf => ?_)
  refine a_aload_n C (i := 0) (q := 17) dX0_search_16 rfl 0 rfl rfl ?_
  refine a_get0 C (q := 20) dX0_search_17 0 (by decide) k_125 (by decide) rfl rfl rfl ?_
  refine a_aload_n C (i := 0) (q := 21) dX0_search_20 rfl 0 rfl rfl ?_
  refine a_get0 C (q := 24) dX0_search_21 1 (by decide) k_126 (by decide) rfl rfl rfl ?_
  refine a_callVV C (q := 27) (As := [.ref (G.2.1 18)]) (st := []) dX0_search_24 hR (by decide) hf (fun b => (b, r)) (by decide) rfl rfl cw_X6_weighAll (fun b hb => c_X6_weighAll _ G n t_3 r 18 (by unfold isBal; decide) b hb) rfl rfl (Nat.le_of_ble_eq_true rfl) k_590 rfl (fun y_4 hf => ?_)
  refine a_aload_n C (i := 0) (q := 28) dX0_search_27 rfl 0 rfl rfl ?_
  refine a_iconst C (v := (0 : Int32)) (q := 29) dX0_search_28 rfl (by decide) ?_
  refine a_iload_n C (i := 1) (q := 30) dX0_search_29 rfl 1 rfl rfl ?_
  refine a_iconst C (v := (0 : Int32)) (q := 31) dX0_search_30 rfl (by decide) ?_
  refine a_callVV C (q := 34) (As := [.int (0 : Int32), .int v1, .int (0 : Int32)]) (st := []) dX0_search_31 hR (by decide) hf (fun b => (b, r)) (by decide) rfl rfl cw_X0_goOn (fun b hb => c_X0_goOn _ G n r 13 y_4 (0 : Int32) v1 (0 : Int32) b hb) rfl rfl (Nat.le_of_ble_eq_true rfl) k_591 rfl (fun y_5 hf => ?_)
  refine a_aload_n C (i := 0) (q := 35) dX0_search_34 rfl 0 rfl rfl ?_
  refine a_get0 C (q := 38) dX0_search_35 4 (by decide) k_129 (by decide) rfl rfl rfl ?_
  refine a_ldc C (v := (786432 : Int32)) (q := 40) dX0_search_38 rfl k_589 ?_
  refine a_icmp_ge C (tgt := 47) (q := 43) dX0_search_40 hf (by decide) rfl (fun hf => ?_) (fun hf => ?_)
  · refine a_iconst C (v := (0 : Int32)) (q := 48) dX0_search_47 rfl (by decide) ?_
    have hf := Option.some.inj hf; subst hf
    exact (show RetI F G Q cX0_search 3 .boolean (0 : Int32) (y_5, r) from hK) rfl _ _ dX0_search_48
  · refine a_iconst C (v := (1 : Int32)) (q := 44) dX0_search_43 rfl (by decide) ?_
    refine a_goto C (q := 48) dX0_search_44 (by decide) ?_
    have hf := Option.some.inj hf; subst hf
    exact (show RetI F G Q cX0_search 3 .boolean (1 : Int32) (y_5, r) from hK) rfl _ _ dX0_search_48
theorem c_X0_search (l : Launch) (G : GX) (n : Nat) (t : MM) (r : SR) (v1 : Int32) (v2 : Int32) (res : Int32 × MM) (hf : f_X0_search n t v1 v2 = some res) : MetC l G yX0_search cX0_search 3 (some .boolean) 32 (t, r) [.ref (G.2.1 17), .int v1, .int v2] (PostI G res.1 (res.2, r)) :=
  m_I (by decide) (Nat.le_of_ble_eq_true rfl) (fun F Q C h1 h2 h3 hK => w_X0_search_e C (Rm.of h1 h3) n t r v1 v2 res hf hK)
