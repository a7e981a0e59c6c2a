theorem cw_X2_clear : CwV RX2 yX2_clear cX2_clear 1 0 none := ⟨k_298, k_296, k_297, k_5, by decide +kernel, by decide⟩
def f_X2_clear (t : MM) (k0 : Nat) : Option (MM) :=
  nm (st1 t k0 0 (0 : Int32)) (fun t_1 => nm (st1 t_1 k0 1 (0 : Int32)) (fun t_2 => nm (st1 t_2 k0 2 (0 : Int32)) (fun t_3 => nm (st1 t_3 k0 3 (0 : Int32)) (fun t_4 => some t_4))))
set_option maxHeartbeats 4000000 in
theorem w_X2_clear_e {F : FX} {G : GX} {Q : State → Prop} (C : Cx F G cX2_clear 1 RX2) (hR : Rm F 2) (t : MM) (r : SR)  (k0 : Nat) (hk0 : isBal k0) (res : MM) (hf : f_X2_clear t k0 = some res) (hK : RetV F G Q cX2_clear 1 (res, r)) : At F G Q 1 0 [(0, .ref (G.2.1 k0))] [] (t, r) := by
  unfold f_X2_clear at hf
  refine a_aload_n C (i := 0) (q := 1) dX2_clear_0 rfl 0 rfl rfl ?_
  refine a_iconst C (v := (0 : Int32)) (q := 2) dX2_clear_1 rfl (by decide) ?_
  refine a_put2N C (q := 5) (mk := (fun z => (z, r))) dX2_clear_2 hf 0 (by decide) k_108 hk0.lt (hk0.at G _ _) (hk0.put (by decide) G _ _ _) cellE_C1 rfl rfl rfl (Nat.le_of_ble_eq_true rfl) rfl (fun t_1 hf => ?_)
  refine a_aload_n C (i := 0) (q := 6) dX2_clear_5 rfl 0 rfl rfl ?_
  refine a_iconst C (v := (0 : Int32)) (q := 7) dX2_clear_6 rfl (by decide) ?_
  refine a_put2N C (q := 10) (mk := (fun z => (z, r))) dX2_clear_7 hf 1 (by decide) k_110 hk0.lt (hk0.at G _ _) (hk0.put (by decide) G _ _ _) cellE_C1 rfl rfl rfl (Nat.le_of_ble_eq_true rfl) rfl (fun t_2 hf => ?_)
  refine a_aload_n C (i := 0) (q := 11) dX2_clear_10 rfl 0 rfl rfl ?_
  refine a_iconst C (v := (0 : Int32)) (q := 12) dX2_clear_11 rfl (by decide) ?_
  refine a_put2N C (q := 15) (mk := (fun z => (z, r))) dX2_clear_12 hf 2 (by decide) k_112 hk0.lt (hk0.at G _ _) (hk0.put (by decide) G _ _ _) cellE_C1 rfl rfl rfl (Nat.le_of_ble_eq_true rfl) rfl (fun t_3 hf => ?_)
  refine a_aload_n C (i := 0) (q := 16) dX2_clear_15 rfl 0 rfl rfl ?_
  refine a_iconst C (v := (0 : Int32)) (q := 17) dX2_clear_16 rfl (by decide) ?_
  refine a_put2N C (q := 20) (mk := (fun z => (z, r))) dX2_clear_17 hf 3 (by decide) k_114 hk0.lt (hk0.at G _ _) (hk0.put (by decide) G _ _ _) cellE_C1 rfl rfl rfl (Nat.le_of_ble_eq_true rfl) rfl (fun t_4 hf => ?_)
  have hf := Option.some.inj hf; subst hf
  exact (show RetV F G Q cX2_clear 1 (t_4, r) from hK) _ _ dX2_clear_20
theorem c_X2_clear (l : Launch) (G : GX) (t : MM) (r : SR) (k0 : Nat) (hk0 : isBal k0) (res : MM) (hf : f_X2_clear t k0 = some res) : MetC l G yX2_clear cX2_clear 1 none 2 (t, r) [.ref (G.2.1 k0)] (PostV G (res, r)) :=
  m_V (by decide) (Nat.le_of_ble_eq_true rfl) (fun F Q C h1 h2 h3 hK => w_X2_clear_e C (Rm.of h1 h3) t r k0 hk0 res hf hK)
theorem cw_X2_hang : CwV RX2 yX2_hang cX2_hang 3 2 none := ⟨k_302, k_300, k_301, k_5, by decide +kernel, by decide⟩
def f_X2_hang (t : MM) (k0 : Nat) (v1 : Int32) (v2 : Int32) : Option (MM) :=
  (if v1 < 0 then some t else (if v1 < (12 : Int32) then ix v1 12 (nm (st1 t k0 0 ((t k0 0) + (v2 * (tabv 1 v1.toNatClampNeg)))) (fun t_1 => ix v1 12 (nm (st1 t_1 k0 1 ((t_1 k0 1) + (v2 * (tabv 2 v1.toNatClampNeg)))) (fun t_2 => ix v1 12 (nm (st1 t_2 k0 2 ((t_2 k0 2) + (v2 * (tabv 3 v1.toNatClampNeg)))) (fun t_3 => ix v1 12 (nm (st1 t_3 k0 3 ((t_3 k0 3) + (v2 * (tabv 4 v1.toNatClampNeg)))) (fun t_4 => some t_4)))))))) else some t))
set_option maxHeartbeats 4000000 in
theorem w_X2_hang_e {F : FX} {G : GX} {Q : State → Prop} (C : Cx F G cX2_hang 3 RX2) (hR : Rm F 2) (t : MM) (r : SR)  (k0 : Nat) (v1 : Int32) (v2 : Int32) (hk0 : isBal k0) (res : MM) (hf : f_X2_hang t k0 v1 v2 = some res) (hK : RetV F G Q cX2_hang 3 (res, r)) : At F G Q 3 0 [(0, .ref (G.2.1 k0)), (1, .int v1), (2, .int v2)] [] (t, r) := by
  unfold f_X2_hang at hf
  refine a_iload_n C (i := 1) (q := 1) dX2_hang_0 rfl 1 rfl rfl ?_
  refine a_if_lt C (tgt := 10) (q := 4) dX2_hang_1 hf (by decide) rfl (fun hf => ?_) (fun hf => ?_)
  · have hf := Option.some.inj hf; subst hf
    exact (show RetV F G Q cX2_hang 3 (t, r) from hK) _ _ dX2_hang_10
  · refine a_iload_n C (i := 1) (q := 5) dX2_hang_4 rfl 1 rfl rfl ?_
    refine a_bipush C (v := (12 : Int32)) (q := 7) dX2_hang_5 rfl (by decide) ?_
    refine a_icmp_lt C (tgt := 11) (q := 10) dX2_hang_7 hf (by decide) rfl (fun hf => ?_) (fun hf => ?_)
    · refine a_aload_n C (i := 0) (q := 12) dX2_hang_11 rfl 0 rfl rfl ?_
      refine a_dup C (q := 13) dX2_hang_12 rfl rfl ?_
      refine a_get2 C (q := 16) dX2_hang_13 0 (by decide) k_108 hk0.lt (hk0.at G _ _) rfl rfl ?_
      refine a_iload_n C (i := 2) (q := 17) dX2_hang_16 rfl 2 rfl rfl ?_
      refine a_getsCW C (q := 20) dX2_hang_17 k_303 rfl ?_
      refine a_iload_n C (i := 1) (q := 21) dX2_hang_20 rfl 1 rfl rfl ?_
      refine a_tldCW C (q := 22) dX2_hang_21 hf rfl (fun hf => ?_)
      refine a_imul C (q := 23) dX2_hang_22 rfl ?_
      refine a_iadd C (q := 24) dX2_hang_23 rfl ?_
      refine a_put2N C (q := 27) (mk := (fun z => (z, r))) dX2_hang_24 hf 0 (by decide) k_108 hk0.lt (hk0.at G _ _) (hk0.put (by decide) G _ _ _) cellE_C1 rfl rfl rfl (Nat.le_of_ble_eq_true rfl) rfl (fun t_1 hf => ?_)
      refine a_aload_n C (i := 0) (q := 28) dX2_hang_27 rfl 0 rfl rfl ?_
      refine a_dup C (q := 29) dX2_hang_28 rfl rfl ?_
      refine a_get2 C (q := 32) dX2_hang_29 1 (by decide) k_110 hk0.lt (hk0.at G _ _) rfl rfl ?_
      refine a_iload_n C (i := 2) (q := 33) dX2_hang_32 rfl 2 rfl rfl ?_
      refine a_getsCR C (q := 36) dX2_hang_33 k_305 rfl ?_
      refine a_iload_n C (i := 1) (q := 37) dX2_hang_36 rfl 1 rfl rfl ?_
      refine a_tldCR C (q := 38) dX2_hang_37 hf rfl (fun hf => ?_)
      refine a_imul C (q := 39) dX2_hang_38 rfl ?_
      refine a_iadd C (q := 40) dX2_hang_39 rfl ?_
      refine a_put2N C (q := 43) (mk := (fun z => (z, r))) dX2_hang_40 hf 1 (by decide) k_110 hk0.lt (hk0.at G _ _) (hk0.put (by decide) G _ _ _) cellE_C1 rfl rfl rfl (Nat.le_of_ble_eq_true rfl) rfl (fun t_2 hf => ?_)
      refine a_aload_n C (i := 0) (q := 44) dX2_hang_43 rfl 0 rfl rfl ?_
      refine a_dup C (q := 45) dX2_hang_44 rfl rfl ?_
      refine a_get2 C (q := 48) dX2_hang_45 2 (by decide) k_112 hk0.lt (hk0.at G _ _) rfl rfl ?_
      refine a_iload_n C (i := 2) (q := 49) dX2_hang_48 rfl 2 rfl rfl ?_
      refine a_getsSW C (q := 52) dX2_hang_49 k_307 rfl ?_
      refine a_iload_n C (i := 1) (q := 53) dX2_hang_52 rfl 1 rfl rfl ?_
      refine a_tldSW C (q := 54) dX2_hang_53 hf rfl (fun hf => ?_)
      refine a_imul C (q := 55) dX2_hang_54 rfl ?_
      refine a_iadd C (q := 56) dX2_hang_55 rfl ?_
      refine a_put2N C (q := 59) (mk := (fun z => (z, r))) dX2_hang_56 hf 2 (by decide) k_112 hk0.lt (hk0.at G _ _) (hk0.put (by decide) G _ _ _) cellE_C1 rfl rfl rfl (Nat.le_of_ble_eq_true rfl) rfl (fun t_3 hf => ?_)
      refine a_aload_n C (i := 0) (q := 60) dX2_hang_59 rfl 0 rfl rfl ?_
      refine a_dup C (q := 61) dX2_hang_60 rfl rfl ?_
      refine a_get2 C (q := 64) dX2_hang_61 3 (by decide) k_114 hk0.lt (hk0.at G _ _) rfl rfl ?_
      refine a_iload_n C (i := 2) (q := 65) dX2_hang_64 rfl 2 rfl rfl ?_
      refine a_getsSRt C (q := 68) dX2_hang_65 k_309 rfl ?_
      refine a_iload_n C (i := 1) (q := 69) dX2_hang_68 rfl 1 rfl rfl ?_
      refine a_tldSRt C (q := 70) dX2_hang_69 hf rfl (fun hf => ?_)
      refine a_imul C (q := 71) dX2_hang_70 rfl ?_
      refine a_iadd C (q := 72) dX2_hang_71 rfl ?_
      refine a_put2N C (q := 75) (mk := (fun z => (z, r))) dX2_hang_72 hf 3 (by decide) k_114 hk0.lt (hk0.at G _ _) (hk0.put (by decide) G _ _ _) cellE_C1 rfl rfl rfl (Nat.le_of_ble_eq_true rfl) rfl (fun t_4 hf => ?_)
      have hf := Option.some.inj hf; subst hf
      exact (show RetV F G Q cX2_hang 3 (t_4, r) from hK) _ _ dX2_hang_75
    · have hf := Option.some.inj hf; subst hf
      exact (show RetV F G Q cX2_hang 3 (t, r) from hK) _ _ dX2_hang_10
theorem c_X2_hang (l : Launch) (G : GX) (t : MM) (r : SR) (k0 : Nat) (v1 : Int32) (v2 : Int32) (hk0 : isBal k0) (res : MM) (hf : f_X2_hang t k0 v1 v2 = some res) : MetC l G yX2_hang cX2_hang 3 none 2 (t, r) [.ref (G.2.1 k0), .int v1, .int v2] (PostV G (res, r)) :=
  m_V (by decide) (Nat.le_of_ble_eq_true rfl) (fun F Q C h1 h2 h3 hK => w_X2_hang_e C (Rm.of h1 h3) t r k0 v1 v2 hk0 res hf hK)
theorem cw_X2_become : CwV RX2 yX2_become cX2_become 2 1 none := ⟨k_659, k_657, k_658, k_5, by decide +kernel, by decide⟩
def f_X2_become (t : MM) (k0 : Nat) (k1 : Nat) : Option (MM) :=
  nm (st1 t k0 0 (t k1 0)) (fun t_1 => nm (st1 t_1 k0 1 (t_1 k1 1)) (fun t_2 => nm (st1 t_2 k0 2 (t_2 k1 2)) (fun t_3 => nm (st1 t_3 k0 3 (t_3 k1 3)) (fun t_4 => some t_4))))
set_option maxHeartbeats 4000000 in
theorem w_X2_become_e {F : FX} {G : GX} {Q : State → Prop} (C : Cx F G cX2_become 2 RX2) (hR : Rm F 2) (t : MM) (r : SR)  (k0 : Nat) (k1 : Nat) (hk0 : isBal k0) (hk1 : isBal k1) (res : MM) (hf : f_X2_become t k0 k1 = some res) (hK : RetV F G Q cX2_become 2 (res, r)) : At F G Q 2 0 [(0, .ref (G.2.1 k0)), (1, .ref (G.2.1 k1))] [] (t, r) := by
  unfold f_X2_become at hf
  refine a_aload_n C (i := 0) (q := 1) dX2_become_0 rfl 0 rfl rfl ?_
  refine a_aload_n C (i := 1) (q := 2) dX2_become_1 rfl 1 rfl rfl ?_
  refine a_get2 C (q := 5) dX2_become_2 0 (by decide) k_108 hk1.lt (hk1.at G _ _) rfl rfl ?_
  refine a_put2N C (q := 8) (mk := (fun z => (z, r))) dX2_become_5 hf 0 (by decide) k_108 hk0.lt (hk0.at G _ _) (hk0.put (by decide) G _ _ _) cellE_C1 rfl rfl rfl (Nat.le_of_ble_eq_true rfl) rfl (fun t_1 hf => ?_)
  refine a_aload_n C (i := 0) (q := 9) dX2_become_8 rfl 0 rfl rfl ?_
  refine a_aload_n C (i := 1) (q := 10) dX2_become_9 rfl 1 rfl rfl ?_
  refine a_get2 C (q := 13) dX2_become_10 1 (by decide) k_110 hk1.lt (hk1.at G _ _) rfl rfl ?_
  refine a_put2N C (q := 16) (mk := (fun z => (z, r))) dX2_become_13 hf 1 (by decide) k_110 hk0.lt (hk0.at G _ _) (hk0.put (by decide) G _ _ _) cellE_C1 rfl rfl rfl (Nat.le_of_ble_eq_true rfl) rfl (fun t_2 hf => ?_)
  refine a_aload_n C (i := 0) (q := 17) dX2_become_16 rfl 0 rfl rfl ?_
  refine a_aload_n C (i := 1) (q := 18) dX2_become_17 rfl 1 rfl rfl ?_
  refine a_get2 C (q := 21) dX2_become_18 2 (by decide) k_112 hk1.lt (hk1.at G _ _) rfl rfl ?_
  refine a_put2N C (q := 24) (mk := (fun z => (z, r))) dX2_become_21 hf 2 (by decide) k_112 hk0.lt (hk0.at G _ _) (hk0.put (by decide) G _ _ _) cellE_C1 rfl rfl rfl (Nat.le_of_ble_eq_true rfl) rfl (fun t_3 hf => ?_)
  refine a_aload_n C (i := 0) (q := 25) dX2_become_24 rfl 0 rfl rfl ?_
  refine a_aload_n C (i := 1) (q := 26) dX2_become_25 rfl 1 rfl rfl ?_
  refine a_get2 C (q := 29) dX2_become_26 3 (by decide) k_114 hk1.lt (hk1.at G _ _) rfl rfl ?_
  refine a_put2N C (q := 32) (mk := (fun z => (z, r))) dX2_become_29 hf 3 (by decide) k_114 hk0.lt (hk0.at G _ _) (hk0.put (by decide) G _ _ _) cellE_C1 rfl rfl rfl (Nat.le_of_ble_eq_true rfl) rfl (fun t_4 hf => ?_)
  have hf := Option.some.inj hf; subst hf
  exact (show RetV F G Q cX2_become 2 (t_4, r) from hK) _ _ dX2_become_32
theorem c_X2_become (l : Launch) (G : GX) (t : MM) (r : SR) (k0 : Nat) (k1 : Nat) (hk0 : isBal k0) (hk1 : isBal k1) (res : MM) (hf : f_X2_become t k0 k1 = some res) : MetC l G yX2_become cX2_become 2 none 2 (t, r) [.ref (G.2.1 k0), .ref (G.2.1 k1)] (PostV G (res, r)) :=
  m_V (by decide) (Nat.le_of_ble_eq_true rfl) (fun F Q C h1 h2 h3 hK => w_X2_become_e C (Rm.of h1 h3) t r k0 k1 hk0 hk1 res hf hK)
theorem cw_X2_wholePart : CwV RX2 yX2_wholePart cX2_wholePart 1 0 (some .long) := ⟨k_326, k_324, k_325, k_5, by decide +kernel, by decide⟩
def f_X2_wholePart (t : MM) (k0 : Nat) : Option (Int64) :=
  some ((((((t k0 0).toInt64) * ((t k0 0).toInt64)) + (((3 : Int64) * ((t k0 1).toInt64)) * ((t k0 1).toInt64))) + (((t k0 2).toInt64) * ((t k0 2).toInt64))) + (((3 : Int64) * ((t k0 3).toInt64)) * ((t k0 3).toInt64)))
set_option maxHeartbeats 4000000 in
theorem w_X2_wholePart_e {F : FX} {G : GX} {Q : State → Prop} (C : Cx F G cX2_wholePart 1 RX2) (hR : Rm F 2) (t : MM) (r : SR)  (k0 : Nat) (hk0 : isBal k0) (res : Int64) (hf : f_X2_wholePart t k0 = some res) (hK : RetL F G Q cX2_wholePart 1 res (t, r)) : At F G Q 1 0 [(0, .ref (G.2.1 k0))] [] (t, r) := by
  unfold f_X2_wholePart at hf
  refine a_aload_n C (i := 0) (q := 1) dX2_wholePart_0 rfl 0 rfl rfl ?_
  refine a_get2 C (q := 4) dX2_wholePart_1 0 (by decide) k_108 hk0.lt (hk0.at G _ _) rfl rfl ?_
  refine a_i2l C (q := 5) dX2_wholePart_4 rfl ?_
  refine a_aload_n C (i := 0) (q := 6) dX2_wholePart_5 rfl 0 rfl rfl ?_
  refine a_get2 C (q := 9) dX2_wholePart_6 0 (by decide) k_108 hk0.lt (hk0.at G _ _) rfl rfl ?_
  refine a_i2l C (q := 10) dX2_wholePart_9 rfl ?_
  refine a_lmul C (q := 11) dX2_wholePart_10 rfl ?_
  refine a_ldc2 C (v := (3 : Int64)) (q := 14) dX2_wholePart_11 rfl k_327 ?_
  refine a_aload_n C (i := 0) (q := 15) dX2_wholePart_14 rfl 0 rfl rfl ?_
  refine a_get2 C (q := 18) dX2_wholePart_15 1 (by decide) k_110 hk0.lt (hk0.at G _ _) rfl rfl ?_
  refine a_i2l C (q := 19) dX2_wholePart_18 rfl ?_
  refine a_lmul C (q := 20) dX2_wholePart_19 rfl ?_
  refine a_aload_n C (i := 0) (q := 21) dX2_wholePart_20 rfl 0 rfl rfl ?_
  refine a_get2 C (q := 24) dX2_wholePart_21 1 (by decide) k_110 hk0.lt (hk0.at G _ _) rfl rfl ?_
  refine a_i2l C (q := 25) dX2_wholePart_24 rfl ?_
  refine a_lmul C (q := 26) dX2_wholePart_25 rfl ?_
  refine a_ladd C (q := 27) dX2_wholePart_26 rfl ?_
  refine a_aload_n C (i := 0) (q := 28) dX2_wholePart_27 rfl 0 rfl rfl ?_
  refine a_get2 C (q := 31) dX2_wholePart_28 2 (by decide) k_112 hk0.lt (hk0.at G _ _) rfl rfl ?_
  refine a_i2l C (q := 32) dX2_wholePart_31 rfl ?_
  refine a_aload_n C (i := 0) (q := 33) dX2_wholePart_32 rfl 0 rfl rfl ?_
  refine a_get2 C (q := 36) dX2_wholePart_33 2 (by decide) k_112 hk0.lt (hk0.at G _ _) rfl rfl ?_
  refine a_i2l C (q := 37) dX2_wholePart_36 rfl ?_
  refine a_lmul C (q := 38) dX2_wholePart_37 rfl ?_
  refine a_ladd C (q := 39) dX2_wholePart_38 rfl ?_
  refine a_ldc2 C (v := (3 : Int64)) (q := 42) dX2_wholePart_39 rfl k_327 ?_
  refine a_aload_n C (i := 0) (q := 43) dX2_wholePart_42 rfl 0 rfl rfl ?_
  refine a_get2 C (q := 46) dX2_wholePart_43 3 (by decide) k_114 hk0.lt (hk0.at G _ _) rfl rfl ?_
  refine a_i2l C (q := 47) dX2_wholePart_46 rfl ?_
  refine a_lmul C (q := 48) dX2_wholePart_47 rfl ?_
  refine a_aload_n C (i := 0) (q := 49) dX2_wholePart_48 rfl 0 rfl rfl ?_
  refine a_get2 C (q := 52) dX2_wholePart_49 3 (by decide) k_114 hk0.lt (hk0.at G _ _) rfl rfl ?_
  refine a_i2l C (q := 53) dX2_wholePart_52 rfl ?_
  refine a_lmul C (q := 54) dX2_wholePart_53 rfl ?_
  refine a_ladd C (q := 55) dX2_wholePart_54 rfl ?_
  have hf := Option.some.inj hf; subst hf
  exact (show RetL F G Q cX2_wholePart 1 ((((((t k0 0).toInt64) * ((t k0 0).toInt64)) + (((3 : Int64) * ((t k0 1).toInt64)) * ((t k0 1).toInt64))) + (((t k0 2).toInt64) * ((t k0 2).toInt64))) + (((3 : Int64) * ((t k0 3).toInt64)) * ((t k0 3).toInt64))) (t, r) from hK) _ _ dX2_wholePart_55
theorem c_X2_wholePart (l : Launch) (G : GX) (t : MM) (r : SR) (k0 : Nat) (hk0 : isBal k0) (res : Int64) (hf : f_X2_wholePart t k0 = some res) : MetC l G yX2_wholePart cX2_wholePart 1 (some .long) 2 (t, r) [.ref (G.2.1 k0)] (PostL G res (t, r)) :=
  m_L (by decide) (Nat.le_of_ble_eq_true rfl) (fun F Q C h1 h2 h3 hK => w_X2_wholePart_e C (Rm.of h1 h3) t r k0 hk0 res hf hK)
theorem cw_X2_rootPart : CwV RX2 yX2_rootPart cX2_rootPart 1 0 (some .long) := ⟨k_332, k_330, k_331, k_5, by decide +kernel, by decide⟩
def f_X2_rootPart (t : MM) (k0 : Nat) : Option (Int64) :=
  some ((2 : Int64) * ((((t k0 0).toInt64) * ((t k0 1).toInt64)) + (((t k0 2).toInt64) * ((t k0 3).toInt64))))
set_option maxHeartbeats 4000000 in
theorem w_X2_rootPart_e {F : FX} {G : GX} {Q : State → Prop} (C : Cx F G cX2_rootPart 1 RX2) (hR : Rm F 2) (t : MM) (r : SR)  (k0 : Nat) (hk0 : isBal k0) (res : Int64) (hf : f_X2_rootPart t k0 = some res) (hK : RetL F G Q cX2_rootPart 1 res (t, r)) : At F G Q 1 0 [(0, .ref (G.2.1 k0))] [] (t, r) := by
  unfold f_X2_rootPart at hf
  refine a_ldc2 C (v := (2 : Int64)) (q := 3) dX2_rootPart_0 rfl k_333 ?_
  refine a_aload_n C (i := 0) (q := 4) dX2_rootPart_3 rfl 0 rfl rfl ?_
  refine a_get2 C (q := 7) dX2_rootPart_4 0 (by decide) k_108 hk0.lt (hk0.at G _ _) rfl rfl ?_
  refine a_i2l C (q := 8) dX2_rootPart_7 rfl ?_
  refine a_aload_n C (i := 0) (q := 9) dX2_rootPart_8 rfl 0 rfl rfl ?_
  refine a_get2 C (q := 12) dX2_rootPart_9 1 (by decide) k_110 hk0.lt (hk0.at G _ _) rfl rfl ?_
  refine a_i2l C (q := 13) dX2_rootPart_12 rfl ?_
  refine a_lmul C (q := 14) dX2_rootPart_13 rfl ?_
  refine a_aload_n C (i := 0) (q := 15) dX2_rootPart_14 rfl 0 rfl rfl ?_
  refine a_get2 C (q := 18) dX2_rootPart_15 2 (by decide) k_112 hk0.lt (hk0.at G _ _) rfl rfl ?_
  refine a_i2l C (q := 19) dX2_rootPart_18 rfl ?_
  refine a_aload_n C (i := 0) (q := 20) dX2_rootPart_19 rfl 0 rfl rfl ?_
  refine a_get2 C (q := 23) dX2_rootPart_20 3 (by decide) k_114 hk0.lt (hk0.at G _ _) rfl rfl ?_
  refine a_i2l C (q := 24) dX2_rootPart_23 rfl ?_
  refine a_lmul C (q := 25) dX2_rootPart_24 rfl ?_
  refine a_ladd C (q := 26) dX2_rootPart_25 rfl ?_
  refine a_lmul C (q := 27) dX2_rootPart_26 rfl ?_
  have hf := Option.some.inj hf; subst hf
  exact (show RetL F G Q cX2_rootPart 1 ((2 : Int64) * ((((t k0 0).toInt64) * ((t k0 1).toInt64)) + (((t k0 2).toInt64) * ((t k0 3).toInt64)))) (t, r) from hK) _ _ dX2_rootPart_27
theorem c_X2_rootPart (l : Launch) (G : GX) (t : MM) (r : SR) (k0 : Nat) (hk0 : isBal k0) (res : Int64) (hf : f_X2_rootPart t k0 = some res) : MetC l G yX2_rootPart cX2_rootPart 1 (some .long) 2 (t, r) [.ref (G.2.1 k0)] (PostL G res (t, r)) :=
  m_L (by decide) (Nat.le_of_ble_eq_true rfl) (fun F Q C h1 h2 h3 hK => w_X2_rootPart_e C (Rm.of h1 h3) t r k0 hk0 res hf hK)
theorem cw_X2_isAboveZero : CwS yX2_isAboveZero cX2_isAboveZero 4 2 (some .boolean) := ⟨k_336, k_335, k_5, by decide +kernel, by decide⟩
def f_X2_isAboveZero_44 (v0 : Int64) (v2 : Int64) : Option (Int32) :=
  (if (lg_cmp v0 (0 : Int64)) ≤ 0 then (if (lg_cmp (((3 : Int64) * v2) * v2) (v0 * v0)) ≤ 0 then some (0 : Int32) else some (1 : Int32)) else (if (lg_cmp (v0 * v0) (((3 : Int64) * v2) * v2)) ≤ 0 then some (0 : Int32) else some (1 : Int32)))
set_option maxHeartbeats 4000000 in
theorem w_X2_isAboveZero_44 {F : FX} {G : GX} {Q : State → Prop} (C : Cx F G cX2_isAboveZero 4 RX2) (hR : Rm F 2) (s : MM) (r : SR)  (v0 : Int64) (v2 : Int64) (res : Int32) (hf : f_X2_isAboveZero_44 v0 v2 = some res) (hK : RetI F G Q cX2_isAboveZero 4 .boolean res (s, r)) : At F G Q 4 44 [(0, .long v0), (2, .long v2)] [] (s, r) := by
  unfold f_X2_isAboveZero_44 at hf
  refine a_lload_n C (i := 0) (q := 45) dX2_isAboveZero_44 rfl 0 rfl rfl ?_
  refine a_lconst C (v := (0 : Int64)) (q := 46) dX2_isAboveZero_45 rfl (by decide) ?_
  refine a_lcmp C (q := 47) dX2_isAboveZero_46 rfl ?_
  refine a_if_le C (tgt := 72) (q := 50) dX2_isAboveZero_47 hf (by decide) rfl (fun hf => ?_) (fun hf => ?_)
  · refine a_ldc2 C (v := (3 : Int64)) (q := 75) dX2_isAboveZero_72 rfl k_327 ?_
    refine a_lload_n C (i := 2) (q := 76) dX2_isAboveZero_75 rfl 1 rfl rfl ?_
    refine a_lmul C (q := 77) dX2_isAboveZero_76 rfl ?_
    refine a_lload_n C (i := 2) (q := 78) dX2_isAboveZero_77 rfl 1 rfl rfl ?_
    refine a_lmul C (q := 79) dX2_isAboveZero_78 rfl ?_
    refine a_lload_n C (i := 0) (q := 80) dX2_isAboveZero_79 rfl 0 rfl rfl ?_
    refine a_lload_n C (i := 0) (q := 81) dX2_isAboveZero_80 rfl 0 rfl rfl ?_
    refine a_lmul C (q := 82) dX2_isAboveZero_81 rfl ?_
    refine a_lcmp C (q := 83) dX2_isAboveZero_82 rfl ?_
    refine a_if_le C (tgt := 90) (q := 86) dX2_isAboveZero_83 hf (by decide) rfl (fun hf => ?_) (fun hf => ?_)
    · refine a_iconst C (v := (0 : Int32)) (q := 91) dX2_isAboveZero_90 rfl (by decide) ?_
      have hf := Option.some.inj hf; subst hf
      exact (show RetI F G Q cX2_isAboveZero 4 .boolean (0 : Int32) (s, r) from hK) rfl _ _ dX2_isAboveZero_91
    · refine a_iconst C (v := (1 : Int32)) (q := 87) dX2_isAboveZero_86 rfl (by decide) ?_
      refine a_goto C (q := 91) dX2_isAboveZero_87 (by decide) ?_
      have hf := Option.some.inj hf; subst hf
      exact (show RetI F G Q cX2_isAboveZero 4 .boolean (1 : Int32) (s, r) from hK) rfl _ _ dX2_isAboveZero_91
  · refine a_lload_n C (i := 0) (q := 51) dX2_isAboveZero_50 rfl 0 rfl rfl ?_
    refine a_lload_n C (i := 0) (q := 52) dX2_isAboveZero_51 rfl 0 rfl rfl ?_
    refine a_lmul C (q := 53) dX2_isAboveZero_52 rfl ?_
    refine a_ldc2 C (v := (3 : Int64)) (q := 56) dX2_isAboveZero_53 rfl k_327 ?_
    refine a_lload_n C (i := 2) (q := 57) dX2_isAboveZero_56 rfl 1 rfl rfl ?_
    refine a_lmul C (q := 58) dX2_isAboveZero_57 rfl ?_
    refine a_lload_n C (i := 2) (q := 59) dX2_isAboveZero_58 rfl 1 rfl rfl ?_
    refine a_lmul C (q := 60) dX2_isAboveZero_59 rfl ?_
    refine a_lcmp C (q := 61) dX2_isAboveZero_60 rfl ?_
    refine a_if_le C (tgt := 68) (q := 64) dX2_isAboveZero_61 hf (by decide) rfl (fun hf => ?_) (fun hf => ?_)
    · refine a_iconst C (v := (0 : Int32)) (q := 69) dX2_isAboveZero_68 rfl (by decide) ?_
      refine a_goto C (q := 91) dX2_isAboveZero_69 (by decide) ?_
      have hf := Option.some.inj hf; subst hf
      exact (show RetI F G Q cX2_isAboveZero 4 .boolean (0 : Int32) (s, r) from hK) rfl _ _ dX2_isAboveZero_91
    · refine a_iconst C (v := (1 : Int32)) (q := 65) dX2_isAboveZero_64 rfl (by decide) ?_
      refine a_goto C (q := 91) dX2_isAboveZero_65 (by decide) ?_
      have hf := Option.some.inj hf; subst hf
      exact (show RetI F G Q cX2_isAboveZero 4 .boolean (1 : Int32) (s, r) from hK) rfl _ _ dX2_isAboveZero_91
def f_X2_isAboveZero_30 (v0 : Int64) (v2 : Int64) : Option (Int32) :=
  (if 0 < (lg_cmp v0 (0 : Int64)) then f_X2_isAboveZero_44 v0 v2 else (if 0 < (lg_cmp v2 (0 : Int64)) then f_X2_isAboveZero_44 v0 v2 else some (0 : Int32)))
set_option maxHeartbeats 4000000 in
theorem w_X2_isAboveZero_30 {F : FX} {G : GX} {Q : State → Prop} (C : Cx F G cX2_isAboveZero 4 RX2) (hR : Rm F 2) (s : MM) (r : SR)  (v0 : Int64) (v2 : Int64) (res : Int32) (hf : f_X2_isAboveZero_30 v0 v2 = some res) (hK : RetI F G Q cX2_isAboveZero 4 .boolean res (s, r)) : At F G Q 4 30 [(0, .long v0), (2, .long v2)] [] (s, r) := by
  unfold f_X2_isAboveZero_30 at hf
  refine a_lload_n C (i := 0) (q := 31) dX2_isAboveZero_30 rfl 0 rfl rfl ?_
  refine a_lconst C (v := (0 : Int64)) (q := 32) dX2_isAboveZero_31 rfl (by decide) ?_
  refine a_lcmp C (q := 33) dX2_isAboveZero_32 rfl ?_
  refine a_if_gt C (tgt := 44) (q := 36) dX2_isAboveZero_33 hf (by decide) rfl (fun hf => ?_) (fun hf => ?_)
  · exact a_sub [0, 1] rfl (w_X2_isAboveZero_44 C hR s r v0 v2 res hf hK)
  · refine a_lload_n C (i := 2) (q := 37) dX2_isAboveZero_36 rfl 1 rfl rfl ?_
    refine a_lconst C (v := (0 : Int64)) (q := 38) dX2_isAboveZero_37 rfl (by decide) ?_
    refine a_lcmp C (q := 39) dX2_isAboveZero_38 rfl ?_
    refine a_if_gt C (tgt := 44) (q := 42) dX2_isAboveZero_39 hf (by decide) rfl (fun hf => ?_) (fun hf => ?_)
    · exact a_sub [0, 1] rfl (w_X2_isAboveZero_44 C hR s r v0 v2 res hf hK)
    · refine a_iconst C (v := (0 : Int32)) (q := 43) dX2_isAboveZero_42 rfl (by decide) ?_
      have hf := Option.some.inj hf; subst hf
      exact (show RetI F G Q cX2_isAboveZero 4 .boolean (0 : Int32) (s, r) from hK) rfl _ _ dX2_isAboveZero_43
def f_X2_isAboveZero (v0 : Int64) (v2 : Int64) : Option (Int32) :=
  (if (lg_cmp v0 (0 : Int64)) < 0 then f_X2_isAboveZero_30 v0 v2 else (if (lg_cmp v2 (0 : Int64)) < 0 then f_X2_isAboveZero_30 v0 v2 else (if 0 < (lg_cmp v0 (0 : Int64)) then some (1 : Int32) else (if (lg_cmp v2 (0 : Int64)) ≤ 0 then some (0 : Int32) else some (1 : Int32)))))
set_option maxHeartbeats 4000000 in
theorem w_X2_isAboveZero_e {F : FX} {G : GX} {Q : State → Prop} (C : Cx F G cX2_isAboveZero 4 RX2) (hR : Rm F 2) (s : MM) (r : SR)  (v0 : Int64) (v2 : Int64) (res : Int32) (hf : f_X2_isAboveZero v0 v2 = some res) (hK : RetI F G Q cX2_isAboveZero 4 .boolean res (s, r)) : At F G Q 4 0 [(0, .long v0), (2, .long v2)] [] (s, r) := by
  unfold f_X2_isAboveZero at hf
  refine a_lload_n C (i := 0) (q := 1) dX2_isAboveZero_0 rfl 0 rfl rfl ?_
  refine a_lconst C (v := (0 : Int64)) (q := 2) dX2_isAboveZero_1 rfl (by decide) ?_
  refine a_lcmp C (q := 3) dX2_isAboveZero_2 rfl ?_
  refine a_if_lt C (tgt := 30) (q := 6) dX2_isAboveZero_3 hf (by decide) rfl (fun hf => ?_) (fun hf => ?_)
  · exact a_sub [0, 1] rfl (w_X2_isAboveZero_30 C hR s r v0 v2 res hf hK)
  · refine a_lload_n C (i := 2) (q := 7) dX2_isAboveZero_6 rfl 1 rfl rfl ?_
    refine a_lconst C (v := (0 : Int64)) (q := 8) dX2_isAboveZero_7 rfl (by decide) ?_
    refine a_lcmp C (q := 9) dX2_isAboveZero_8 rfl ?_
    refine a_if_lt C (tgt := 30) (q := 12) dX2_isAboveZero_9 hf (by decide) rfl (fun hf => ?_) (fun hf => ?_)
    · exact a_sub [0, 1] rfl (w_X2_isAboveZero_30 C hR s r v0 v2 res hf hK)
    · refine a_lload_n C (i := 0) (q := 13) dX2_isAboveZero_12 rfl 0 rfl rfl ?_
      refine a_lconst C (v := (0 : Int64)) (q := 14) dX2_isAboveZero_13 rfl (by decide) ?_
      refine a_lcmp C (q := 15) dX2_isAboveZero_14 rfl ?_
      refine a_if_gt C (tgt := 24) (q := 18) dX2_isAboveZero_15 hf (by decide) rfl (fun hf => ?_) (fun hf => ?_)
      · refine a_iconst C (v := (1 : Int32)) (q := 25) dX2_isAboveZero_24 rfl (by decide) ?_
        refine a_goto C (q := 29) dX2_isAboveZero_25 (by decide) ?_
        have hf := Option.some.inj hf; subst hf
        exact (show RetI F G Q cX2_isAboveZero 4 .boolean (1 : Int32) (s, r) from hK) rfl _ _ dX2_isAboveZero_29
      · refine a_lload_n C (i := 2) (q := 19) dX2_isAboveZero_18 rfl 1 rfl rfl ?_
        refine a_lconst C (v := (0 : Int64)) (q := 20) dX2_isAboveZero_19 rfl (by decide) ?_
        refine a_lcmp C (q := 21) dX2_isAboveZero_20 rfl ?_
        refine a_if_le C (tgt := 28) (q := 24) dX2_isAboveZero_21 hf (by decide) rfl (fun hf => ?_) (fun hf => ?_)
        · refine a_iconst C (v := (0 : Int32)) (q := 29) dX2_isAboveZero_28 rfl (by decide) ?_
          have hf := Option.some.inj hf; subst hf
          exact (show RetI F G Q cX2_isAboveZero 4 .boolean (0 : Int32) (s, r) from hK) rfl _ _ dX2_isAboveZero_29
        · refine a_iconst C (v := (1 : Int32)) (q := 25) dX2_isAboveZero_24 rfl (by decide) ?_
          refine a_goto C (q := 29) dX2_isAboveZero_25 (by decide) ?_
          have hf := Option.some.inj hf; subst hf
          exact (show RetI F G Q cX2_isAboveZero 4 .boolean (1 : Int32) (s, r) from hK) rfl _ _ dX2_isAboveZero_29
theorem c_X2_isAboveZero (l : Launch) (G : GX) (s : MM) (r : SR) (v0 : Int64) (v2 : Int64) (res : Int32) (hf : f_X2_isAboveZero v0 v2 = some res) : MetC l G yX2_isAboveZero cX2_isAboveZero 4 (some .boolean) 2 (s, r) [.long v0, .long v2] (PostI G res (s, r)) :=
  m_I (by decide) (Nat.le_of_ble_eq_true rfl) (fun F Q C h1 h2 h3 hK => w_X2_isAboveZero_e C (Rm.of h1 h3) s r v0 v2 res hf hK)
theorem cw_X2_isEvenWithin : CwV RX2 yX2_isEvenWithin cX2_isEvenWithin 2 1 (some .boolean) := ⟨k_322, k_320, k_321, k_5, by decide +kernel, by decide⟩
def f_X2_isEvenWithin (t : MM) (k0 : Nat) (v1 : Int32) : Option (Int32) :=
  b1 (f_X2_wholePart t k0) (fun y_1 => b1 (f_X2_rootPart t k0) (fun y_2 => b1 (f_X2_isAboveZero (y_1 - (((4 : Int64) * v1.toInt64) * v1.toInt64)) y_2) (fun y_3 => (if y_3 = 0 then some (1 : Int32) else some (0 : Int32)))))
set_option maxHeartbeats 4000000 in
theorem w_X2_isEvenWithin_e {F : FX} {G : GX} {Q : State → Prop} (C : Cx F G cX2_isEvenWithin 2 RX2) (hR : Rm F 3) (t : MM) (r : SR)  (k0 : Nat) (v1 : Int32) (hk0 : isBal k0) (res : Int32) (hf : f_X2_isEvenWithin t k0 v1 = some res) (hK : RetI F G Q cX2_isEvenWithin 2 .boolean res (t, r)) : At F G Q 2 0 [(0, .ref (G.2.1 k0)), (1, .int v1)] [] (t, r) := by
  unfold f_X2_isEvenWithin at hf
  refine a_aload_n C (i := 0) (q := 1) dX2_isEvenWithin_0 rfl 0 rfl rfl ?_
  refine a_callVL C (q := 4) (As := []) (st := []) dX2_isEvenWithin_1 hR (by decide) hf (fun b => b) (fun _ => (t, r)) hk0.lt (hk0.at G _ _) rfl cw_X2_wholePart (fun b hb => c_X2_wholePart _ G t r k0 hk0 b hb) rfl rfl (Nat.le_of_ble_eq_true rfl) k_323 rfl (fun y_1 hf => ?_)
  refine a_ldc2 C (v := (4 : Int64)) (q := 7) dX2_isEvenWithin_4 rfl k_328 ?_
  refine a_iload_n C (i := 1) (q := 8) dX2_isEvenWithin_7 rfl 1 rfl rfl ?_
  refine a_i2l C (q := 9) dX2_isEvenWithin_8 rfl ?_
  refine a_lmul C (q := 10) dX2_isEvenWithin_9 rfl ?_
  refine a_iload_n C (i := 1) (q := 11) dX2_isEvenWithin_10 rfl 1 rfl rfl ?_
  refine a_i2l C (q := 12) dX2_isEvenWithin_11 rfl ?_
  refine a_lmul C (q := 13) dX2_isEvenWithin_12 rfl ?_
  refine a_lsub C (q := 14) dX2_isEvenWithin_13 rfl ?_
  refine a_aload_n C (i := 0) (q := 15) dX2_isEvenWithin_14 rfl 0 rfl rfl ?_
  refine a_callVL C (q := 18) (As := []) (st := [.long (y_1 - (((4 : Int64) * v1.toInt64) * v1.toInt64))]) dX2_isEvenWithin_15 hR (by decide) hf (fun b => b) (fun _ => (t, r)) hk0.lt (hk0.at G _ _) rfl cw_X2_rootPart (fun b hb => c_X2_rootPart _ G t r k0 hk0 b hb) rfl rfl (Nat.le_of_ble_eq_true rfl) k_329 rfl (fun y_2 hf => ?_)
  refine a_callSI C (q := 21) (As := [.long (y_1 - (((4 : Int64) * v1.toInt64) * v1.toInt64)), .long y_2]) (st := []) dX2_isEvenWithin_18 hR (by decide) hf (fun b => b) (fun _ => (t, r)) cw_X2_isAboveZero (fun b hb => c_X2_isAboveZero _ G t r (y_1 - (((4 : Int64) * v1.toInt64) * v1.toInt64)) y_2 b hb) rfl rfl (Nat.le_of_ble_eq_true rfl) k_334 rfl (fun y_3 hf => ?_)
  refine a_if_ne C (tgt := 28) (q := 24) dX2_isEvenWithin_21 hf (by decide) rfl (fun hf => ?_) (fun hf => ?_)
  · refine a_iconst C (v := (0 : Int32)) (q := 29) dX2_isEvenWithin_28 rfl (by decide) ?_
    have hf := Option.some.inj hf; subst hf
    exact (show RetI F G Q cX2_isEvenWithin 2 .boolean (0 : Int32) (t, r) from hK) rfl _ _ dX2_isEvenWithin_29
  · refine a_iconst C (v := (1 : Int32)) (q := 25) dX2_isEvenWithin_24 rfl (by decide) ?_
    refine a_goto C (q := 29) dX2_isEvenWithin_25 (by decide) ?_
    have hf := Option.some.inj hf; subst hf
    exact (show RetI F G Q cX2_isEvenWithin 2 .boolean (1 : Int32) (t, r) from hK) rfl _ _ dX2_isEvenWithin_29
theorem c_X2_isEvenWithin (l : Launch) (G : GX) (t : MM) (r : SR) (k0 : Nat) (v1 : Int32) (hk0 : isBal k0) (res : Int32) (hf : f_X2_isEvenWithin t k0 v1 = some res) : MetC l G yX2_isEvenWithin cX2_isEvenWithin 2 (some .boolean) 3 (t, r) [.ref (G.2.1 k0), .int v1] (PostI G res (t, r)) :=
  m_I (by decide) (Nat.le_of_ble_eq_true rfl) (fun F Q C h1 h2 h3 hK => w_X2_isEvenWithin_e C (Rm.of h1 h3) t r k0 v1 hk0 res hf hK)
theorem cw_X2_isWorseThan : CwV RX2 yX2_isWorseThan cX2_isWorseThan 2 1 (some .boolean) := ⟨k_693, k_691, k_692, k_5, by decide +kernel, by decide⟩
def f_X2_isWorseThan (t : MM) (k0 : Nat) (k1 : Nat) : Option (Int32) :=
  b1 (f_X2_wholePart t k0) (fun y_1 => b1 (f_X2_wholePart t k1) (fun y_2 => b1 (f_X2_rootPart t k0) (fun y_3 => b1 (f_X2_rootPart t k1) (fun y_4 => b1 (f_X2_isAboveZero (y_1 - y_2) (y_3 - y_4)) (fun y_5 => bz y_5 (some y_5))))))
set_option maxHeartbeats 4000000 in
theorem w_X2_isWorseThan_e {F : FX} {G : GX} {Q : State → Prop} (C : Cx F G cX2_isWorseThan 2 RX2) (hR : Rm F 3) (t : MM) (r : SR)  (k0 : Nat) (k1 : Nat) (hk0 : isBal k0) (hk1 : isBal k1) (res : Int32) (hf : f_X2_isWorseThan t k0 k1 = some res) (hK : RetI F G Q cX2_isWorseThan 2 .boolean res (t, r)) : At F G Q 2 0 [(0, .ref (G.2.1 k0)), (1, .ref (G.2.1 k1))] [] (t, r) := by
  unfold f_X2_isWorseThan at hf
  refine a_aload_n C (i := 0) (q := 1) dX2_isWorseThan_0 rfl 0 rfl rfl ?_
  refine a_callVL C (q := 4) (As := []) (st := []) dX2_isWorseThan_1 hR (by decide) hf (fun b => b) (fun _ => (t, r)) hk0.lt (hk0.at G _ _) rfl cw_X2_wholePart (fun b hb => c_X2_wholePart _ G t r k0 hk0 b hb) rfl rfl (Nat.le_of_ble_eq_true rfl) k_323 rfl (fun y_1 hf => ?_)
  refine a_aload_n C (i := 1) (q := 5) dX2_isWorseThan_4 rfl 1 rfl rfl ?_
  refine a_callVL C (q := 8) (As := []) (st := [.long y_1]) dX2_isWorseThan_5 hR (by decide) hf (fun b => b) (fun _ => (t, r)) hk1.lt (hk1.at G _ _) rfl cw_X2_wholePart (fun b hb => c_X2_wholePart _ G t r k1 hk1 b hb) rfl rfl (Nat.le_of_ble_eq_true rfl) k_323 rfl (fun y_2 hf => ?_)
  refine a_lsub C (q := 9) dX2_isWorseThan_8 rfl ?_
  refine a_aload_n C (i := 0) (q := 10) dX2_isWorseThan_9 rfl 0 rfl rfl ?_
  refine a_callVL C (q := 13) (As := []) (st := [.long (y_1 - y_2)]) dX2_isWorseThan_10 hR (by decide) hf (fun b => b) (fun _ => (t, r)) hk0.lt (hk0.at G _ _) rfl cw_X2_rootPart (fun b hb => c_X2_rootPart _ G t r k0 hk0 b hb) rfl rfl (Nat.le_of_ble_eq_true rfl) k_329 rfl (fun y_3 hf => ?_)
  refine a_aload_n C (i := 1) (q := 14) dX2_isWorseThan_13 rfl 1 rfl rfl ?_
  refine a_callVL C (q := 17) (As := []) (st := [.long y_3, .long (y_1 - y_2)]) dX2_isWorseThan_14 hR (by decide) hf (fun b => b) (fun _ => (t, r)) hk1.lt (hk1.at G _ _) rfl cw_X2_rootPart (fun b hb => c_X2_rootPart _ G t r k1 hk1 b hb) rfl rfl (Nat.le_of_ble_eq_true rfl) k_329 rfl (fun y_4 hf => ?_)
  refine a_lsub C (q := 18) dX2_isWorseThan_17 rfl ?_
  refine a_callSI C (q := 21) (As := [.long (y_1 - y_2), .long (y_3 - y_4)]) (st := []) dX2_isWorseThan_18 hR (by decide) hf (fun b => b) (fun _ => (t, r)) cw_X2_isAboveZero (fun b hb => c_X2_isAboveZero _ G t r (y_1 - y_2) (y_3 - y_4) b hb) rfl rfl (Nat.le_of_ble_eq_true rfl) k_334 rfl (fun y_5 hf => ?_)
  obtain ⟨hz, hf⟩ := bz_some hf
  have hf := Option.some.inj hf; subst hf
  exact (show RetI F G Q cX2_isWorseThan 2 .boolean y_5 (t, r) from hK) hz _ _ dX2_isWorseThan_21
theorem c_X2_isWorseThan (l : Launch) (G : GX) (t : MM) (r : SR) (k0 : Nat) (k1 : Nat) (hk0 : isBal k0) (hk1 : isBal k1) (res : Int32) (hf : f_X2_isWorseThan t k0 k1 = some res) : MetC l G yX2_isWorseThan cX2_isWorseThan 2 (some .boolean) 3 (t, r) [.ref (G.2.1 k0), .ref (G.2.1 k1)] (PostI G res (t, r)) :=
  m_I (by decide) (Nat.le_of_ble_eq_true rfl) (fun F Q C h1 h2 h3 hK => w_X2_isWorseThan_e C (Rm.of h1 h3) t r k0 k1 hk0 hk1 res hf hK)
