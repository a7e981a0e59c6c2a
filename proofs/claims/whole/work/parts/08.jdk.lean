theorem cw_J6_bitCount_0f7a4 : CwS yJ6_bitCount_0f7a4 cJ6_bitCount_0f7a4 1 1 (some .int) := ⟨k_581, k_580, k_16, by decide +kernel, by decide⟩
def f_J6_bitCount_0f7a4 (v0 : Int32) : Option (Int32) :=
  nm (v0 - (((v0.toUInt32 >>> ((1 : Int32).toUInt32 &&& Int32.toUInt32 31)).toInt32) &&& (1431655765 : Int32))) (fun v0_1 => nm ((v0_1 &&& (858993459 : Int32)) + (((v0_1.toUInt32 >>> ((2 : Int32).toUInt32 &&& Int32.toUInt32 31)).toInt32) &&& (858993459 : Int32))) (fun v0_2 => nm ((v0_2 + ((v0_2.toUInt32 >>> ((4 : Int32).toUInt32 &&& Int32.toUInt32 31)).toInt32)) &&& (252645135 : Int32)) (fun v0_3 => nm (v0_3 + ((v0_3.toUInt32 >>> ((8 : Int32).toUInt32 &&& Int32.toUInt32 31)).toInt32)) (fun v0_4 => nm (v0_4 + ((v0_4.toUInt32 >>> ((16 : Int32).toUInt32 &&& Int32.toUInt32 31)).toInt32)) (fun v0_5 => some (v0_5 &&& (63 : Int32)))))))
set_option maxHeartbeats 4000000 in
theorem w_J6_bitCount_0f7a4_e {F : FX} {G : GX} {Q : State → Prop} (C : Cx F G cJ6_bitCount_0f7a4 1 RJ6) (hR : Rm F 2) (s : MM) (r : SR)  (v0 : Int32) (res : Int32) (hf : f_J6_bitCount_0f7a4 v0 = some res) (hK : RetI F G Q cJ6_bitCount_0f7a4 1 .int res (s, r)) : At F G Q 1 0 [(0, .int v0)] [] (s, r) := by
  unfold f_J6_bitCount_0f7a4 at hf
  refine a_iload_n C (i := 0) (q := 1) dJ6_bitCount_0f7a4_0 rfl 0 rfl rfl ?_
  refine a_iload_n C (i := 0) (q := 2) dJ6_bitCount_0f7a4_1 rfl 0 rfl rfl ?_
  refine a_iconst C (v := (1 : Int32)) (q := 3) dJ6_bitCount_0f7a4_2 rfl (by decide) ?_
  refine a_iushr C (q := 4) dJ6_bitCount_0f7a4_3 rfl ?_
  refine a_ldcw C (v := (1431655765 : Int32)) (q := 7) dJ6_bitCount_0f7a4_4 rfl k_582 ?_
  refine a_iand C (q := 8) dJ6_bitCount_0f7a4_7 rfl ?_
  refine a_isub C (q := 9) dJ6_bitCount_0f7a4_8 rfl ?_
  refine a_istore_nN C (i := 0) (q := 10) (lv' := fun z => [(0, .int z)]) dJ6_bitCount_0f7a4_9 hf rfl (by decide) (fun _ => rfl) rfl (fun v0_1 hf => ?_)
  refine a_iload_n C (i := 0) (q := 11) dJ6_bitCount_0f7a4_10 rfl 0 rfl rfl ?_
  refine a_ldcw C (v := (858993459 : Int32)) (q := 14) dJ6_bitCount_0f7a4_11 rfl k_583 ?_
  refine a_iand C (q := 15) dJ6_bitCount_0f7a4_14 rfl ?_
  refine a_iload_n C (i := 0) (q := 16) dJ6_bitCount_0f7a4_15 rfl 0 rfl rfl ?_
  refine a_iconst C (v := (2 : Int32)) (q := 17) dJ6_bitCount_0f7a4_16 rfl (by decide) ?_
  refine a_iushr C (q := 18) dJ6_bitCount_0f7a4_17 rfl ?_
  refine a_ldcw C (v := (858993459 : Int32)) (q := 21) dJ6_bitCount_0f7a4_18 rfl k_583 ?_
  refine a_iand C (q := 22) dJ6_bitCount_0f7a4_21 rfl ?_
  refine a_iadd C (q := 23) dJ6_bitCount_0f7a4_22 rfl ?_
  refine a_istore_nN C (i := 0) (q := 24) (lv' := fun z => [(0, .int z)]) dJ6_bitCount_0f7a4_23 hf rfl (by decide) (fun _ => rfl) rfl (fun v0_2 hf => ?_)
  refine a_iload_n C (i := 0) (q := 25) dJ6_bitCount_0f7a4_24 rfl 0 rfl rfl ?_
  refine a_iload_n C (i := 0) (q := 26) dJ6_bitCount_0f7a4_25 rfl 0 rfl rfl ?_
  refine a_iconst C (v := (4 : Int32)) (q := 27) dJ6_bitCount_0f7a4_26 rfl (by decide) ?_
  refine a_iushr C (q := 28) dJ6_bitCount_0f7a4_27 rfl ?_
  refine a_iadd C (q := 29) dJ6_bitCount_0f7a4_28 rfl ?_
  refine a_ldcw C (v := (252645135 : Int32)) (q := 32) dJ6_bitCount_0f7a4_29 rfl k_584 ?_
  refine a_iand C (q := 33) dJ6_bitCount_0f7a4_32 rfl ?_
  refine a_istore_nN C (i := 0) (q := 34) (lv' := fun z => [(0, .int z)]) dJ6_bitCount_0f7a4_33 hf rfl (by decide) (fun _ => rfl) rfl (fun v0_3 hf => ?_)
  refine a_iload_n C (i := 0) (q := 35) dJ6_bitCount_0f7a4_34 rfl 0 rfl rfl ?_
  refine a_iload_n C (i := 0) (q := 36) dJ6_bitCount_0f7a4_35 rfl 0 rfl rfl ?_
  refine a_bipush C (v := (8 : Int32)) (q := 38) dJ6_bitCount_0f7a4_36 rfl (by decide) ?_
  refine a_iushr C (q := 39) dJ6_bitCount_0f7a4_38 rfl ?_
  refine a_iadd C (q := 40) dJ6_bitCount_0f7a4_39 rfl ?_
  refine a_istore_nN C (i := 0) (q := 41) (lv' := fun z => [(0, .int z)]) dJ6_bitCount_0f7a4_40 hf rfl (by decide) (fun _ => rfl) rfl (fun v0_4 hf => ?_)
  refine a_iload_n C (i := 0) (q := 42) dJ6_bitCount_0f7a4_41 rfl 0 rfl rfl ?_
  refine a_iload_n C (i := 0) (q := 43) dJ6_bitCount_0f7a4_42 rfl 0 rfl rfl ?_
  refine a_bipush C (v := (16 : Int32)) (q := 45) dJ6_bitCount_0f7a4_43 rfl (by decide) ?_
  refine a_iushr C (q := 46) dJ6_bitCount_0f7a4_45 rfl ?_
  refine a_iadd C (q := 47) dJ6_bitCount_0f7a4_46 rfl ?_
  refine a_istore_nN C (i := 0) (q := 48) (lv' := fun z => [(0, .int z)]) dJ6_bitCount_0f7a4_47 hf rfl (by decide) (fun _ => rfl) rfl (fun v0_5 hf => ?_)
  refine a_iload_n C (i := 0) (q := 49) dJ6_bitCount_0f7a4_48 rfl 0 rfl rfl ?_
  refine a_bipush C (v := (63 : Int32)) (q := 51) dJ6_bitCount_0f7a4_49 rfl (by decide) ?_
  refine a_iand C (q := 52) dJ6_bitCount_0f7a4_51 rfl ?_
  have hf := Option.some.inj hf; subst hf
  exact (show RetI F G Q cJ6_bitCount_0f7a4 1 .int (v0_5 &&& (63 : Int32)) (s, r) from hK) rfl _ _ dJ6_bitCount_0f7a4_52
theorem c_J6_bitCount_0f7a4 (l : Launch) (G : GX) (s : MM) (r : SR) (v0 : Int32) (res : Int32) (hf : f_J6_bitCount_0f7a4 v0 = some res) : MetC l G yJ6_bitCount_0f7a4 cJ6_bitCount_0f7a4 1 (some .int) 2 (s, r) [.int v0] (PostI G res (s, r)) :=
  m_I (by decide) (Nat.le_of_ble_eq_true rfl) (fun F Q C h1 h2 h3 hK => w_J6_bitCount_0f7a4_e C (Rm.of h1 h3) s r v0 res hf hK)
theorem cw_J0_isLatin1_aae02 : CwV RJ0 yJ0_isLatin1_aae02 cJ0_isLatin1_aae02 1 0 (some .boolean) := ⟨k_390, k_388, k_389, k_10, by decide +kernel, by decide⟩
def f_J0_isLatin1_aae02 (k0 : Nat) : Option (Int32) :=
  (if (1 : Int32) = 0 then some (0 : Int32) else (if (0 : Int32) = 0 then some (1 : Int32) else some (0 : Int32)))
set_option maxHeartbeats 4000000 in
theorem w_J0_isLatin1_aae02_e {F : FX} {G : GX} {Q : State → Prop} (C : Cx F G cJ0_isLatin1_aae02 1 RJ0) (hR : Rm F 2) (s : MM) (r : SR)  (k0 : Nat) (hk0 : k0 < 2) (res : Int32) (hf : f_J0_isLatin1_aae02 k0 = some res) (hK : RetI F G Q cJ0_isLatin1_aae02 1 .boolean res (s, r)) : At F G Q 1 0 [(0, .ref (G.2.2.2 (5 + k0)))] [] (s, r) := by
  unfold f_J0_isLatin1_aae02 at hf
  refine a_getsCS C (q := 3) dJ0_isLatin1_aae02_0 k_391 rfl ?_
  refine a_if_eq C (tgt := 17) (q := 6) dJ0_isLatin1_aae02_3 hf (by decide) rfl (fun hf => ?_) (fun hf => ?_)
  · refine a_iconst C (v := (0 : Int32)) (q := 18) dJ0_isLatin1_aae02_17 rfl (by decide) ?_
    have hf := Option.some.inj hf; subst hf
    exact (show RetI F G Q cJ0_isLatin1_aae02 1 .boolean (0 : Int32) (s, r) from hK) rfl _ _ dJ0_isLatin1_aae02_18
  · refine a_aload_n C (i := 0) (q := 7) dJ0_isLatin1_aae02_6 rfl 0 rfl rfl ?_
    refine a_strcod C (q := 10) dJ0_isLatin1_aae02_7 hk0 k_1151 rfl ?_
    refine a_if_ne C (tgt := 17) (q := 13) dJ0_isLatin1_aae02_10 hf (by decide) rfl (fun hf => ?_) (fun hf => ?_)
    · refine a_iconst C (v := (0 : Int32)) (q := 18) dJ0_isLatin1_aae02_17 rfl (by decide) ?_
      have hf := Option.some.inj hf; subst hf
      exact (show RetI F G Q cJ0_isLatin1_aae02 1 .boolean (0 : Int32) (s, r) from hK) rfl _ _ dJ0_isLatin1_aae02_18
    · refine a_iconst C (v := (1 : Int32)) (q := 14) dJ0_isLatin1_aae02_13 rfl (by decide) ?_
      refine a_goto C (q := 18) dJ0_isLatin1_aae02_14 (by decide) ?_
      have hf := Option.some.inj hf; subst hf
      exact (show RetI F G Q cJ0_isLatin1_aae02 1 .boolean (1 : Int32) (s, r) from hK) rfl _ _ dJ0_isLatin1_aae02_18
theorem c_J0_isLatin1_aae02 (l : Launch) (G : GX) (s : MM) (r : SR) (k0 : Nat) (hk0 : k0 < 2) (res : Int32) (hf : f_J0_isLatin1_aae02 k0 = some res) : MetC l G yJ0_isLatin1_aae02 cJ0_isLatin1_aae02 1 (some .boolean) 2 (s, r) [.ref (G.2.2.2 (5 + k0))] (PostI G res (s, r)) :=
  m_I (by decide) (Nat.le_of_ble_eq_true rfl) (fun F Q C h1 h2 h3 hK => w_J0_isLatin1_aae02_e C (Rm.of h1 h3) s r k0 hk0 res hf hK)
theorem cw_J0_coder_7d493 : CwV RJ0 yJ0_coder_7d493 cJ0_coder_7d493 1 0 (some .byte) := ⟨k_400, k_398, k_399, k_10, by decide +kernel, by decide⟩
def f_J0_coder_7d493 (k0 : Nat) : Option (Int32) :=
  (if (1 : Int32) = 0 then some (1 : Int32) else some (0 : Int32))
set_option maxHeartbeats 4000000 in
theorem w_J0_coder_7d493_e {F : FX} {G : GX} {Q : State → Prop} (C : Cx F G cJ0_coder_7d493 1 RJ0) (hR : Rm F 2) (s : MM) (r : SR)  (k0 : Nat) (hk0 : k0 < 2) (res : Int32) (hf : f_J0_coder_7d493 k0 = some res) (hK : RetI F G Q cJ0_coder_7d493 1 .byte res (s, r)) : At F G Q 1 0 [(0, .ref (G.2.2.2 (5 + k0)))] [] (s, r) := by
  unfold f_J0_coder_7d493 at hf
  refine a_getsCS C (q := 3) dJ0_coder_7d493_0 k_391 rfl ?_
  refine a_if_eq C (tgt := 13) (q := 6) dJ0_coder_7d493_3 hf (by decide) rfl (fun hf => ?_) (fun hf => ?_)
  · refine a_iconst C (v := (1 : Int32)) (q := 14) dJ0_coder_7d493_13 rfl (by decide) ?_
    have hf := Option.some.inj hf; subst hf
    exact (show RetI F G Q cJ0_coder_7d493 1 .byte (1 : Int32) (s, r) from hK) rfl _ _ dJ0_coder_7d493_14
  · refine a_aload_n C (i := 0) (q := 7) dJ0_coder_7d493_6 rfl 0 rfl rfl ?_
    refine a_strcod C (q := 10) dJ0_coder_7d493_7 hk0 k_1151 rfl ?_
    refine a_goto C (q := 14) dJ0_coder_7d493_10 (by decide) ?_
    have hf := Option.some.inj hf; subst hf
    exact (show RetI F G Q cJ0_coder_7d493 1 .byte (0 : Int32) (s, r) from hK) rfl _ _ dJ0_coder_7d493_14
theorem c_J0_coder_7d493 (l : Launch) (G : GX) (s : MM) (r : SR) (k0 : Nat) (hk0 : k0 < 2) (res : Int32) (hf : f_J0_coder_7d493 k0 = some res) : MetC l G yJ0_coder_7d493 cJ0_coder_7d493 1 (some .byte) 2 (s, r) [.ref (G.2.2.2 (5 + k0))] (PostI G res (s, r)) :=
  m_I (by decide) (Nat.le_of_ble_eq_true rfl) (fun F Q C h1 h2 h3 hK => w_J0_coder_7d493_e C (Rm.of h1 h3) s r k0 hk0 res hf hK)
theorem cw_J0_length_8abf5 : CwV RJ0 yJ0_length_8abf5 cJ0_length_8abf5 1 0 (some .int) := ⟨k_396, k_394, k_395, k_10, by decide +kernel, by decide⟩
def f_J0_length_8abf5 (k0 : Nat) : Option (Int32) :=
  b1 (f_J0_coder_7d493 k0) (fun y_1 => some ((4 : Int32) >>> (y_1 &&& 31)))
set_option maxHeartbeats 4000000 in
theorem w_J0_length_8abf5_e {F : FX} {G : GX} {Q : State → Prop} (C : Cx F G cJ0_length_8abf5 1 RJ0) (hR : Rm F 3) (s : MM) (r : SR)  (k0 : Nat) (hk0 : k0 < 2) (res : Int32) (hf : f_J0_length_8abf5 k0 = some res) (hK : RetI F G Q cJ0_length_8abf5 1 .int res (s, r)) : At F G Q 1 0 [(0, .ref (G.2.2.2 (5 + k0)))] [] (s, r) := by
  unfold f_J0_length_8abf5 at hf
  refine a_aload_n C (i := 0) (q := 1) dJ0_length_8abf5_0 rfl 0 rfl rfl ?_
  refine a_strval C (q := 4) dJ0_length_8abf5_1 hk0 k_1152 rfl ?_
  refine a_strlen C (q := 5) dJ0_length_8abf5_4 hk0 rfl ?_
  refine a_aload_n C (i := 0) (q := 6) dJ0_length_8abf5_5 rfl 0 rfl rfl ?_
  refine a_callTI C (q := 9) (As := []) (st := [.int (4 : Int32)]) dJ0_length_8abf5_6 hR (by decide) hf (fun b => b) (fun _ => (s, r)) hk0 cw_J0_coder_7d493 (fun b hb => c_J0_coder_7d493 _ G s r k0 hk0 b hb) rfl rfl (Nat.le_of_ble_eq_true rfl) k_397 rfl (fun y_1 hf => ?_)
  refine a_ishr C (q := 10) dJ0_length_8abf5_9 rfl ?_
  have hf := Option.some.inj hf; subst hf
  exact (show RetI F G Q cJ0_length_8abf5 1 .int ((4 : Int32) >>> (y_1 &&& 31)) (s, r) from hK) rfl _ _ dJ0_length_8abf5_10
theorem c_J0_length_8abf5 (l : Launch) (G : GX) (s : MM) (r : SR) (k0 : Nat) (hk0 : k0 < 2) (res : Int32) (hf : f_J0_length_8abf5 k0 = some res) : MetC l G yJ0_length_8abf5 cJ0_length_8abf5 1 (some .int) 3 (s, r) [.ref (G.2.2.2 (5 + k0))] (PostI G res (s, r)) :=
  m_I (by decide) (Nat.le_of_ble_eq_true rfl) (fun F Q C h1 h2 h3 hK => w_J0_length_8abf5_e C (Rm.of h1 h3) s r k0 hk0 res hf hK)
theorem cw_J1_canEncode_9a6ad : CwS yJ1_canEncode_9a6ad cJ1_canEncode_9a6ad 1 1 (some .boolean) := ⟨k_406, k_405, k_11, by decide +kernel, by decide⟩
def f_J1_canEncode_9a6ad (v0 : Int32) : Option (Int32) :=
  (if v0 < 0 then some (0 : Int32) else (if (255 : Int32) < v0 then some (0 : Int32) else some (1 : Int32)))
set_option maxHeartbeats 4000000 in
theorem w_J1_canEncode_9a6ad_e {F : FX} {G : GX} {Q : State → Prop} (C : Cx F G cJ1_canEncode_9a6ad 1 RJ1) (hR : Rm F 2) (s : MM) (r : SR)  (v0 : Int32) (res : Int32) (hf : f_J1_canEncode_9a6ad v0 = some res) (hK : RetI F G Q cJ1_canEncode_9a6ad 1 .boolean res (s, r)) : At F G Q 1 0 [(0, .int v0)] [] (s, r) := by
  unfold f_J1_canEncode_9a6ad at hf
  refine a_iload_n C (i := 0) (q := 1) dJ1_canEncode_9a6ad_0 rfl 0 rfl rfl ?_
  refine a_if_lt C (tgt := 15) (q := 4) dJ1_canEncode_9a6ad_1 hf (by decide) rfl (fun hf => ?_) (fun hf => ?_)
  · refine a_iconst C (v := (0 : Int32)) (q := 16) dJ1_canEncode_9a6ad_15 rfl (by decide) ?_
    have hf := Option.some.inj hf; subst hf
    exact (show RetI F G Q cJ1_canEncode_9a6ad 1 .boolean (0 : Int32) (s, r) from hK) rfl _ _ dJ1_canEncode_9a6ad_16
  · refine a_iload_n C (i := 0) (q := 5) dJ1_canEncode_9a6ad_4 rfl 0 rfl rfl ?_
    refine a_sipush C (v := (255 : Int32)) (q := 8) dJ1_canEncode_9a6ad_5 rfl (by decide) ?_
    refine a_icmp_gt C (tgt := 15) (q := 11) dJ1_canEncode_9a6ad_8 hf (by decide) rfl (fun hf => ?_) (fun hf => ?_)
    · refine a_iconst C (v := (0 : Int32)) (q := 16) dJ1_canEncode_9a6ad_15 rfl (by decide) ?_
      have hf := Option.some.inj hf; subst hf
      exact (show RetI F G Q cJ1_canEncode_9a6ad 1 .boolean (0 : Int32) (s, r) from hK) rfl _ _ dJ1_canEncode_9a6ad_16
    · refine a_iconst C (v := (1 : Int32)) (q := 12) dJ1_canEncode_9a6ad_11 rfl (by decide) ?_
      refine a_goto C (q := 16) dJ1_canEncode_9a6ad_12 (by decide) ?_
      have hf := Option.some.inj hf; subst hf
      exact (show RetI F G Q cJ1_canEncode_9a6ad 1 .boolean (1 : Int32) (s, r) from hK) rfl _ _ dJ1_canEncode_9a6ad_16
theorem c_J1_canEncode_9a6ad (l : Launch) (G : GX) (s : MM) (r : SR) (v0 : Int32) (res : Int32) (hf : f_J1_canEncode_9a6ad v0 = some res) : MetC l G yJ1_canEncode_9a6ad cJ1_canEncode_9a6ad 1 (some .boolean) 2 (s, r) [.int v0] (PostI G res (s, r)) :=
  m_I (by decide) (Nat.le_of_ble_eq_true rfl) (fun F Q C h1 h2 h3 hK => w_J1_canEncode_9a6ad_e C (Rm.of h1 h3) s r v0 res hf hK)
theorem cw_J1_indexOfChar_4cfef : CwS yJ1_indexOfChar_4cfef cJ1_indexOfChar_4cfef 6 4 (some .int) := ⟨k_415, k_414, k_11, by decide +kernel, by decide⟩
def P_J1_indexOfChar_4cfef_7 (F : FX) (G : GX) (Q : State → Prop) (s : MM) (r : SR) (k0 : Nat) (v3 : Int32) (v4 : Int32) (v5 : Int32) : Prop := At F G Q 6 7 [(0, .ref (G.2.2.2 (7 + k0))), (3, .int v3), (4, .int v4), (5, .int v5)] [] (s, r)
def E_J1_indexOfChar_4cfef_7 (F : FX) (G : GX) (Q : State → Prop) (s : MM) (r : SR) (k0 : Nat) (v3 : Int32) (v4 : Int32) : (Int32) ⊕ (Unit) → Prop := fun q => match q with
  | .inl y => RetI F G Q cJ1_indexOfChar_4cfef 6 .int y (s, r)
  | .inr _ => At F G Q 6 31 [] [] (s, r)
def lb_J1_indexOfChar_4cfef_7 (n : Nat) (k0 : Nat) (v3 : Int32) (v4 : Int32) (v5 : Int32) : Option (((Int32) ⊕ (Unit)) ⊕ (Int32)) :=
  (if v3 ≤ v5 then some (.inl (.inr ())) else ix v5 4 ((if (txv k0 v5.toNatClampNeg) = v4 then some (.inl (.inl v5)) else nm (v5 + 1) (fun v5_2 => some (.inr v5_2)))))
set_option maxHeartbeats 4000000 in
theorem w_J1_indexOfChar_4cfef_7 {F : FX} {G : GX} {Q : State → Prop} (C : Cx F G cJ1_indexOfChar_4cfef 6 RJ1) (hR : Rm F 2) (n : Nat) (s : MM) (r : SR) (k0 : Nat) (v3 : Int32) (v4 : Int32)  (hk0 : k0 < 2) (v5 : Int32) (res : ((Int32) ⊕ (Unit)) ⊕ (Int32)) (hf : lb_J1_indexOfChar_4cfef_7 n k0 v3 v4 v5 = some res) (hK : Sum.elim (E_J1_indexOfChar_4cfef_7 F G Q s r k0 v3 v4) (fun q => match q with | v5 => P_J1_indexOfChar_4cfef_7 F G Q s r k0 v3 v4 v5) res) : P_J1_indexOfChar_4cfef_7 F G Q s r k0 v3 v4 v5 := by
  unfold lb_J1_indexOfChar_4cfef_7 at hf
  show At F G Q 6 7 [(0, .ref (G.2.2.2 (7 + k0))), (3, .int v3), (4, .int v4), (5, .int v5)] [] (s, r)
  refine a_iload C (i := 5) (q := 9) dJ1_indexOfChar_4cfef_7 rfl 3 rfl ?_
  refine a_iload_n C (i := 3) (q := 10) dJ1_indexOfChar_4cfef_9 rfl 1 rfl rfl ?_
  refine a_icmp_ge C (tgt := 31) (q := 13) dJ1_indexOfChar_4cfef_10 hf (by decide) rfl (fun hf => ?_) (fun hf => ?_)
  · have hf := Option.some.inj hf; subst hf
    exact a_sub [] rfl (show At F G Q 6 31 [] [] (s, r) from hK)
  · refine a_aload_n C (i := 0) (q := 14) dJ1_indexOfChar_4cfef_13 rfl 0 rfl rfl ?_
    refine a_iload C (i := 5) (q := 16) dJ1_indexOfChar_4cfef_14 rfl 3 rfl ?_
    refine a_strld C (q := 17) dJ1_indexOfChar_4cfef_16 hf hk0 rfl (fun hf => ?_)
    refine a_iload C (i := 4) (q := 19) dJ1_indexOfChar_4cfef_17 rfl 2 rfl ?_
    refine a_icmp_ne C (tgt := 25) (q := 22) dJ1_indexOfChar_4cfef_19 hf (by decide) rfl (fun hf => ?_) (fun hf => ?_)
    · refine a_iincN C (i := 5) (k := 3) (q := 28) (lv' := fun z => [(5, .int z), (0, .ref (G.2.2.2 (7 + k0))), (3, .int v3), (4, .int v4)]) dJ1_indexOfChar_4cfef_25 hf rfl rfl (by decide) (fun _ => rfl) rfl (fun v5_2 hf => ?_)
      refine a_goto C (q := 7) dJ1_indexOfChar_4cfef_28 (by decide) ?_
      have hf := Option.some.inj hf; subst hf
      exact a_sub [1, 2, 3, 0] rfl (show At F G Q 6 7 [(0, .ref (G.2.2.2 (7 + k0))), (3, .int v3), (4, .int v4), (5, .int v5_2)] [] (s, r) from hK)
    · refine a_iload C (i := 5) (q := 24) dJ1_indexOfChar_4cfef_22 rfl 3 rfl ?_
      have hf := Option.some.inj hf; subst hf
      exact (show RetI F G Q cJ1_indexOfChar_4cfef 6 .int v5 (s, r) from hK) rfl _ _ dJ1_indexOfChar_4cfef_24
theorem lp_J1_indexOfChar_4cfef_7 {F : FX} {G : GX} {Q : State → Prop} (C : Cx F G cJ1_indexOfChar_4cfef 6 RJ1) (hR : Rm F 2) (n : Nat) (s : MM) (r : SR) (k0 : Nat) (v3 : Int32) (v4 : Int32)  (hk0 : k0 < 2) (v5 : Int32) (x : (Int32) ⊕ (Unit)) (h : it1 (lb_J1_indexOfChar_4cfef_7 n k0 v3 v4) n v5 = some x) (hE : E_J1_indexOfChar_4cfef_7 F G Q s r k0 v3 v4 x) : At F G Q 6 7 [(0, .ref (G.2.2.2 (7 + k0))), (3, .int v3), (4, .int v4), (5, .int v5)] [] (s, r) :=
  it1_ind (b := (lb_J1_indexOfChar_4cfef_7 n k0 v3 v4)) (E := E_J1_indexOfChar_4cfef_7 F G Q s r k0 v3 v4) (P := fun v5 => P_J1_indexOfChar_4cfef_7 F G Q s r k0 v3 v4 v5) (fun v5 res hf hK => w_J1_indexOfChar_4cfef_7 C hR n s r k0 v3 v4  hk0 v5 res hf hK) n v5 x h hE
def f_J1_indexOfChar_4cfef (n : Nat) (k0 : Nat) (v1 : Int32) (v2 : Int32) (v3 : Int32) : Option (Int32) :=
  nm v1.toInt8.toInt32 (fun v4_1 => bR (it1 (lb_J1_indexOfChar_4cfef_7 n k0 v3 v4_1) n v2) (fun y => some y) (fun _ => some (-1 : Int32)))
set_option maxHeartbeats 4000000 in
theorem w_J1_indexOfChar_4cfef_e {F : FX} {G : GX} {Q : State → Prop} (C : Cx F G cJ1_indexOfChar_4cfef 6 RJ1) (hR : Rm F 2) (n : Nat) (s : MM) (r : SR)  (k0 : Nat) (v1 : Int32) (v2 : Int32) (v3 : Int32) (hk0 : k0 < 2) (res : Int32) (hf : f_J1_indexOfChar_4cfef n k0 v1 v2 v3 = some res) (hK : RetI F G Q cJ1_indexOfChar_4cfef 6 .int res (s, r)) : At F G Q 6 0 [(0, .ref (G.2.2.2 (7 + k0))), (1, .int v1), (2, .int v2), (3, .int v3)] [] (s, r) := by
  unfold f_J1_indexOfChar_4cfef at hf
  refine a_iload_n C (i := 1) (q := 1) dJ1_indexOfChar_4cfef_0 rfl 1 rfl rfl ?_
  refine a_i2b C (q := 2) dJ1_indexOfChar_4cfef_1 rfl ?_
  refine a_istoreN C (i := 4) (q := 4) (lv' := fun z => [(4, .int z), (0, .ref (G.2.2.2 (7 + k0))), (1, .int v1), (2, .int v2), (3, .int v3)]) dJ1_indexOfChar_4cfef_2 hf (by decide) (fun _ => rfl) rfl (fun v4_1 hf => ?_)
  refine a_iload_n C (i := 2) (q := 5) dJ1_indexOfChar_4cfef_4 rfl 3 rfl rfl ?_
  refine a_istore C (i := 5) (q := 7) (lv' := [(5, .int v2), (4, .int v4_1), (0, .ref (G.2.2.2 (7 + k0))), (1, .int v1), (2, .int v2), (3, .int v3)]) dJ1_indexOfChar_4cfef_5 (by decide) rfl rfl ?_
  rcases bR_some hf with ⟨y, h1, hf⟩ | ⟨u0, h1, hf⟩
  · refine a_sub [2, 5, 1, 0] rfl (lp_J1_indexOfChar_4cfef_7 C hR n s r k0 v3 v4_1  hk0 v2 _ h1 ?_)
    have hf := Option.some.inj hf; subst hf
    exact hK
  · refine a_sub [2, 5, 1, 0] rfl (lp_J1_indexOfChar_4cfef_7 C hR n s r k0 v3 v4_1  hk0 v2 _ h1 ?_)
    show At F G Q 6 31 [] [] (s, r)
    refine a_iconst C (v := (-1 : Int32)) (q := 32) dJ1_indexOfChar_4cfef_31 rfl (by decide) ?_
    have hf := Option.some.inj hf; subst hf
    exact (show RetI F G Q cJ1_indexOfChar_4cfef 6 .int (-1 : Int32) (s, r) from hK) rfl _ _ dJ1_indexOfChar_4cfef_32
theorem c_J1_indexOfChar_4cfef (l : Launch) (G : GX) (n : Nat) (s : MM) (r : SR) (k0 : Nat) (v1 : Int32) (v2 : Int32) (v3 : Int32) (hk0 : k0 < 2) (res : Int32) (hf : f_J1_indexOfChar_4cfef n k0 v1 v2 v3 = some res) : MetC l G yJ1_indexOfChar_4cfef cJ1_indexOfChar_4cfef 6 (some .int) 2 (s, r) [.ref (G.2.2.2 (7 + k0)), .int v1, .int v2, .int v3] (PostI G res (s, r)) :=
  m_I (by decide) (Nat.le_of_ble_eq_true rfl) (fun F Q C h1 h2 h3 hK => w_J1_indexOfChar_4cfef_e C (Rm.of h1 h3) n s r k0 v1 v2 v3 hk0 res hf hK)
theorem cw_J1_indexOf_4cfef : CwS yJ1_indexOf_4cfef cJ1_indexOf_4cfef 4 4 (some .int) := ⟨k_403, k_402, k_11, by decide +kernel, by decide⟩
def f_J1_indexOf_4cfef (n : Nat) (k0 : Nat) (v1 : Int32) (v2 : Int32) (v3 : Int32) : Option (Int32) :=
  b1 (f_J1_canEncode_9a6ad v1) (fun y_1 => (if y_1 = 0 then some (-1 : Int32) else nm (if v2 < (0 : Int32) then (0 : Int32) else v2) (fun v2_2 => nm (if (4 : Int32) < v3 then (4 : Int32) else v3) (fun v3_3 => (if v2_2 < v3_3 then b1 (f_J1_indexOfChar_4cfef n k0 v1 v2_2 v3_3) (fun y_4 => some y_4) else some (-1 : Int32))))))
set_option maxHeartbeats 4000000 in
theorem w_J1_indexOf_4cfef_e {F : FX} {G : GX} {Q : State → Prop} (C : Cx F G cJ1_indexOf_4cfef 4 RJ1) (hR : Rm F 3) (n : Nat) (s : MM) (r : SR)  (k0 : Nat) (v1 : Int32) (v2 : Int32) (v3 : Int32) (hk0 : k0 < 2) (res : Int32) (hf : f_J1_indexOf_4cfef n k0 v1 v2 v3 = some res) (hK : RetI F G Q cJ1_indexOf_4cfef 4 .int res (s, r)) : At F G Q 4 0 [(0, .ref (G.2.2.2 (7 + k0))), (1, .int v1), (2, .int v2), (3, .int v3)] [] (s, r) := by
  unfold f_J1_indexOf_4cfef at hf
  refine a_iload_n C (i := 1) (q := 1) dJ1_indexOf_4cfef_0 rfl 1 rfl rfl ?_
  refine a_callSI C (q := 4) (As := [.int v1]) (st := []) dJ1_indexOf_4cfef_1 hR (by decide) hf (fun b => b) (fun _ => (s, r)) cw_J1_canEncode_9a6ad (fun b hb => c_J1_canEncode_9a6ad _ G s r v1 b hb) rfl rfl (Nat.le_of_ble_eq_true rfl) k_404 rfl (fun y_1 hf => ?_)
  refine a_if_ne C (tgt := 9) (q := 7) dJ1_indexOf_4cfef_4 hf (by decide) rfl (fun hf => ?_) (fun hf => ?_)
  · refine a_iload_n C (i := 2) (q := 10) dJ1_indexOf_4cfef_9 rfl 2 rfl rfl ?_
    refine a_iconst C (v := (0 : Int32)) (q := 11) dJ1_indexOf_4cfef_10 rfl (by decide) ?_
    refine a_mmax C (q := 14) (st := []) dJ1_indexOf_4cfef_11 hR (by decide) (Nat.le_of_ble_eq_true rfl) k_407 rfl ?_
    refine a_istore_nN C (i := 2) (q := 15) (lv' := fun z => [(2, .int z), (0, .ref (G.2.2.2 (7 + k0))), (1, .int v1), (3, .int v3)]) dJ1_indexOf_4cfef_14 hf rfl (by decide) (fun _ => rfl) rfl (fun v2_2 hf => ?_)
    refine a_iload_n C (i := 3) (q := 16) dJ1_indexOf_4cfef_15 rfl 3 rfl rfl ?_
    refine a_aload_n C (i := 0) (q := 17) dJ1_indexOf_4cfef_16 rfl 1 rfl rfl ?_
    refine a_strlen C (q := 18) dJ1_indexOf_4cfef_17 hk0 rfl ?_
    refine a_mmin C (q := 21) (st := []) dJ1_indexOf_4cfef_18 hR (by decide) (Nat.le_of_ble_eq_true rfl) k_410 rfl ?_
    refine a_istore_nN C (i := 3) (q := 22) (lv' := fun z => [(3, .int z), (2, .int v2_2), (0, .ref (G.2.2.2 (7 + k0))), (1, .int v1)]) dJ1_indexOf_4cfef_21 hf rfl (by decide) (fun _ => rfl) rfl (fun v3_3 hf => ?_)
    refine a_iload_n C (i := 2) (q := 23) dJ1_indexOf_4cfef_22 rfl 1 rfl rfl ?_
    refine a_iload_n C (i := 3) (q := 24) dJ1_indexOf_4cfef_23 rfl 0 rfl rfl ?_
    refine a_icmp_lt C (tgt := 29) (q := 27) dJ1_indexOf_4cfef_24 hf (by decide) rfl (fun hf => ?_) (fun hf => ?_)
    · refine a_aload_n C (i := 0) (q := 30) dJ1_indexOf_4cfef_29 rfl 2 rfl rfl ?_
      refine a_iload_n C (i := 1) (q := 31) dJ1_indexOf_4cfef_30 rfl 3 rfl rfl ?_
      refine a_iload_n C (i := 2) (q := 32) dJ1_indexOf_4cfef_31 rfl 1 rfl rfl ?_
      refine a_iload_n C (i := 3) (q := 33) dJ1_indexOf_4cfef_32 rfl 0 rfl rfl ?_
      refine a_callSI C (q := 36) (As := [.ref (G.2.2.2 (7 + k0)), .int v1, .int v2_2, .int v3_3]) (st := []) dJ1_indexOf_4cfef_33 hR (by decide) hf (fun b => b) (fun _ => (s, r)) cw_J1_indexOfChar_4cfef (fun b hb => c_J1_indexOfChar_4cfef _ G n s r k0 v1 v2_2 v3_3 hk0 b hb) rfl rfl (Nat.le_of_ble_eq_true rfl) k_413 rfl (fun y_4 hf => ?_)
      have hf := Option.some.inj hf; subst hf
      exact (show RetI F G Q cJ1_indexOf_4cfef 4 .int y_4 (s, r) from hK) rfl _ _ dJ1_indexOf_4cfef_36
    · refine a_iconst C (v := (-1 : Int32)) (q := 28) dJ1_indexOf_4cfef_27 rfl (by decide) ?_
      have hf := Option.some.inj hf; subst hf
      exact (show RetI F G Q cJ1_indexOf_4cfef 4 .int (-1 : Int32) (s, r) from hK) rfl _ _ dJ1_indexOf_4cfef_28
  · refine a_iconst C (v := (-1 : Int32)) (q := 8) dJ1_indexOf_4cfef_7 rfl (by decide) ?_
    have hf := Option.some.inj hf; subst hf
    exact (show RetI F G Q cJ1_indexOf_4cfef 4 .int (-1 : Int32) (s, r) from hK) rfl _ _ dJ1_indexOf_4cfef_8
theorem c_J1_indexOf_4cfef (l : Launch) (G : GX) (n : Nat) (s : MM) (r : SR) (k0 : Nat) (v1 : Int32) (v2 : Int32) (v3 : Int32) (hk0 : k0 < 2) (res : Int32) (hf : f_J1_indexOf_4cfef n k0 v1 v2 v3 = some res) : MetC l G yJ1_indexOf_4cfef cJ1_indexOf_4cfef 4 (some .int) 3 (s, r) [.ref (G.2.2.2 (7 + k0)), .int v1, .int v2, .int v3] (PostI G res (s, r)) :=
  m_I (by decide) (Nat.le_of_ble_eq_true rfl) (fun F Q C h1 h2 h3 hK => w_J1_indexOf_4cfef_e C (Rm.of h1 h3) n s r k0 v1 v2 v3 hk0 res hf hK)
theorem cw_J0_indexOf_7cf53 : CwV RJ0 yJ0_indexOf_7cf53 cJ0_indexOf_7cf53 3 2 (some .int) := ⟨k_386, k_384, k_385, k_10, by decide +kernel, by decide⟩
def f_J0_indexOf_7cf53 (n : Nat) (k0 : Nat) (v1 : Int32) (v2 : Int32) : Option (Int32) :=
  b1 (f_J0_isLatin1_aae02 k0) (fun y_1 => (if y_1 = 0 then b1 (f_J0_length_8abf5 k0) (fun y_2 => (none : Option (Int32))) else b1 (f_J0_length_8abf5 k0) (fun y_3 => b1 (f_J1_indexOf_4cfef n k0 v1 v2 y_3) (fun y_4 => some y_4))))
set_option maxHeartbeats 4000000 in
theorem w_J0_indexOf_7cf53_e {F : FX} {G : GX} {Q : State → Prop} (C : Cx F G cJ0_indexOf_7cf53 3 RJ0) (hR : Rm F 7) (n : Nat) (s : MM) (r : SR)  (k0 : Nat) (v1 : Int32) (v2 : Int32) (hk0 : k0 < 2) (res : Int32) (hf : f_J0_indexOf_7cf53 n k0 v1 v2 = some res) (hK : RetI F G Q cJ0_indexOf_7cf53 3 .int res (s, r)) : At F G Q 3 0 [(0, .ref (G.2.2.2 (5 + k0))), (1, .int v1), (2, .int v2)] [] (s, r) := by
  unfold f_J0_indexOf_7cf53 at hf
  refine a_aload_n C (i := 0) (q := 1) dJ0_indexOf_7cf53_0 rfl 0 rfl rfl ?_
  refine a_callTI C (q := 4) (As := []) (st := []) dJ0_indexOf_7cf53_1 hR (by decide) hf (fun b => b) (fun _ => (s, r)) hk0 cw_J0_isLatin1_aae02 (fun b hb => c_J0_isLatin1_aae02 _ G s r k0 hk0 b hb) rfl rfl (Nat.le_of_ble_eq_true rfl) k_387 rfl (fun y_1 hf => ?_)
  refine a_if_eq C (tgt := 23) (q := 7) dJ0_indexOf_7cf53_4 hf (by decide) rfl (fun hf => ?_) (fun hf => ?_)
  · refine a_aload_n C (i := 0) (q := 24) dJ0_indexOf_7cf53_23 rfl 0 rfl rfl ?_
    refine a_strval C (q := 27) dJ0_indexOf_7cf53_24 hk0 k_1152 rfl ?_
    refine a_iload_n C (i := 1) (q := 28) dJ0_indexOf_7cf53_27 rfl 1 rfl rfl ?_
    refine a_iload_n C (i := 2) (q := 29) dJ0_indexOf_7cf53_28 rfl 2 rfl rfl ?_
    refine a_aload_n C (i := 0) (q := 30) dJ0_indexOf_7cf53_29 rfl 0 rfl rfl ?_
    refine a_callTI C (q := 33) (As := []) (st := [.int v2, .int v1, .ref (G.2.2.2 (7 + k0))]) dJ0_indexOf_7cf53_30 hR (by decide) hf (fun b => b) (fun _ => (s, r)) hk0 cw_J0_length_8abf5 (fun b hb => c_J0_length_8abf5 _ G s r k0 hk0 b hb) rfl rfl (Nat.le_of_ble_eq_true rfl) k_393 rfl (fun y_2 hf => ?_)
    cases hf
  · refine a_aload_n C (i := 0) (q := 8) dJ0_indexOf_7cf53_7 rfl 0 rfl rfl ?_
    refine a_strval C (q := 11) dJ0_indexOf_7cf53_8 hk0 k_1152 rfl ?_
    refine a_iload_n C (i := 1) (q := 12) dJ0_indexOf_7cf53_11 rfl 1 rfl rfl ?_
    refine a_iload_n C (i := 2) (q := 13) dJ0_indexOf_7cf53_12 rfl 2 rfl rfl ?_
    refine a_aload_n C (i := 0) (q := 14) dJ0_indexOf_7cf53_13 rfl 0 rfl rfl ?_
    refine a_callTI C (q := 17) (As := []) (st := [.int v2, .int v1, .ref (G.2.2.2 (7 + k0))]) dJ0_indexOf_7cf53_14 hR (by decide) hf (fun b => b) (fun _ => (s, r)) hk0 cw_J0_length_8abf5 (fun b hb => c_J0_length_8abf5 _ G s r k0 hk0 b hb) rfl rfl (Nat.le_of_ble_eq_true rfl) k_393 rfl (fun y_3 hf => ?_)
    refine a_callSI C (q := 20) (As := [.ref (G.2.2.2 (7 + k0)), .int v1, .int v2, .int y_3]) (st := []) dJ0_indexOf_7cf53_17 hR (by decide) hf (fun b => b) (fun _ => (s, r)) cw_J1_indexOf_4cfef (fun b hb => c_J1_indexOf_4cfef _ G n s r k0 v1 v2 y_3 hk0 b hb) rfl rfl (Nat.le_of_ble_eq_true rfl) k_401 rfl (fun y_4 hf => ?_)
    refine a_goto C (q := 36) dJ0_indexOf_7cf53_20 (by decide) ?_
    have hf := Option.some.inj hf; subst hf
    exact (show RetI F G Q cJ0_indexOf_7cf53 3 .int y_4 (s, r) from hK) rfl _ _ dJ0_indexOf_7cf53_36
theorem c_J0_indexOf_7cf53 (l : Launch) (G : GX) (n : Nat) (s : MM) (r : SR) (k0 : Nat) (v1 : Int32) (v2 : Int32) (hk0 : k0 < 2) (res : Int32) (hf : f_J0_indexOf_7cf53 n k0 v1 v2 = some res) : MetC l G yJ0_indexOf_7cf53 cJ0_indexOf_7cf53 3 (some .int) 7 (s, r) [.ref (G.2.2.2 (5 + k0)), .int v1, .int v2] (PostI G res (s, r)) :=
  m_I (by decide) (Nat.le_of_ble_eq_true rfl) (fun F Q C h1 h2 h3 hK => w_J0_indexOf_7cf53_e C (Rm.of h1 h3) n s r k0 v1 v2 hk0 res hf hK)
theorem cw_J0_indexOf_0f7a4 : CwV RJ0 yJ0_indexOf_0f7a4 cJ0_indexOf_0f7a4 2 1 (some .int) := ⟨k_382, k_380, k_381, k_10, by decide +kernel, by decide⟩
def f_J0_indexOf_0f7a4 (n : Nat) (k0 : Nat) (v1 : Int32) : Option (Int32) :=
  b1 (f_J0_indexOf_7cf53 n k0 v1 (0 : Int32)) (fun y_1 => some y_1)
set_option maxHeartbeats 4000000 in
theorem w_J0_indexOf_0f7a4_e {F : FX} {G : GX} {Q : State → Prop} (C : Cx F G cJ0_indexOf_0f7a4 2 RJ0) (hR : Rm F 8) (n : Nat) (s : MM) (r : SR)  (k0 : Nat) (v1 : Int32) (hk0 : k0 < 2) (res : Int32) (hf : f_J0_indexOf_0f7a4 n k0 v1 = some res) (hK : RetI F G Q cJ0_indexOf_0f7a4 2 .int res (s, r)) : At F G Q 2 0 [(0, .ref (G.2.2.2 (5 + k0))), (1, .int v1)] [] (s, r) := by
  unfold f_J0_indexOf_0f7a4 at hf
  refine a_aload_n C (i := 0) (q := 1) dJ0_indexOf_0f7a4_0 rfl 0 rfl rfl ?_
  refine a_iload_n C (i := 1) (q := 2) dJ0_indexOf_0f7a4_1 rfl 1 rfl rfl ?_
  refine a_iconst C (v := (0 : Int32)) (q := 3) dJ0_indexOf_0f7a4_2 rfl (by decide) ?_
  refine a_callTI C (q := 6) (As := [.int v1, .int (0 : Int32)]) (st := []) dJ0_indexOf_0f7a4_3 hR (by decide) hf (fun b => b) (fun _ => (s, r)) hk0 cw_J0_indexOf_7cf53 (fun b hb => c_J0_indexOf_7cf53 _ G n s r k0 v1 (0 : Int32) hk0 b hb) rfl rfl (Nat.le_of_ble_eq_true rfl) k_383 rfl (fun y_1 hf => ?_)
  have hf := Option.some.inj hf; subst hf
  exact (show RetI F G Q cJ0_indexOf_0f7a4 2 .int y_1 (s, r) from hK) rfl _ _ dJ0_indexOf_0f7a4_6
theorem c_J0_indexOf_0f7a4 (l : Launch) (G : GX) (n : Nat) (s : MM) (r : SR) (k0 : Nat) (v1 : Int32) (hk0 : k0 < 2) (res : Int32) (hf : f_J0_indexOf_0f7a4 n k0 v1 = some res) : MetC l G yJ0_indexOf_0f7a4 cJ0_indexOf_0f7a4 2 (some .int) 8 (s, r) [.ref (G.2.2.2 (5 + k0)), .int v1] (PostI G res (s, r)) :=
  m_I (by decide) (Nat.le_of_ble_eq_true rfl) (fun F Q C h1 h2 h3 hK => w_J0_indexOf_0f7a4_e C (Rm.of h1 h3) n s r k0 v1 hk0 res hf hK)
