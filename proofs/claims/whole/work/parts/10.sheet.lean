theorem cw_X3_renew : CwV RX3 yX3_renew cX3_renew 4 2 none := ⟨k_749, k_747, k_748, k_8, by decide +kernel, by decide⟩
def P_X3_renew_2 (F : FX) (G : GX) (Q : State → Prop) (r : SR) (k0 : Nat) (v1 : Int32) (v2 : Int32) (v3 : Int32) (t : MM) : Prop := At F G Q 4 2 [(0, .ref (G.2.1 k0)), (1, .int v1), (2, .int v2), (3, .int v3)] [] (t, r)
def E_X3_renew_2 (F : FX) (G : GX) (Q : State → Prop) (r : SR) (k0 : Nat) (v1 : Int32) (v2 : Int32) : MM → Prop := fun q => match q with
  | t => At F G Q 4 21 [(0, .ref (G.2.1 k0)), (1, .int v1), (2, .int v2)] [] (t, r)
def lb_X3_renew_2 (n : Nat) (k0 : Nat) (v1 : Int32) (v2 : Int32) (v3 : Int32) (t : MM) : Option ((MM) ⊕ (Int32 × MM)) :=
  (if (24 : Int32) ≤ v3 then some (.inl t) else ix v3 24 (nm (st1 t (k0 + 1) v3.toNatClampNeg (0 : Int32)) (fun t_1 => nm (v3 + 1) (fun v3_2 => some (.inr (v3_2, t_1))))))
set_option maxHeartbeats 4000000 in
theorem w_X3_renew_2 {F : FX} {G : GX} {Q : State → Prop} (C : Cx F G cX3_renew 4 RX3) (hR : Rm F 2) (n : Nat) (r : SR) (k0 : Nat) (v1 : Int32) (v2 : Int32)  (hk0 : isSh k0) (v3 : Int32) (t : MM) (res : (MM) ⊕ (Int32 × MM)) (hf : lb_X3_renew_2 n k0 v1 v2 v3 t = some res) (hK : Sum.elim (E_X3_renew_2 F G Q r k0 v1 v2) (fun q => match q with | (v3, t) => P_X3_renew_2 F G Q r k0 v1 v2 v3 t) res) : P_X3_renew_2 F G Q r k0 v1 v2 v3 t := by
  unfold lb_X3_renew_2 at hf
  show At F G Q 4 2 [(0, .ref (G.2.1 k0)), (1, .int v1), (2, .int v2), (3, .int v3)] [] (t, r)
  refine a_iload_n C (i := 3) (q := 3) dX3_renew_2 rfl 3 rfl rfl ?_
  refine a_bipush C (v := (24 : Int32)) (q := 5) dX3_renew_3 rfl (by decide) ?_
  refine a_icmp_ge C (tgt := 21) (q := 8) dX3_renew_5 hf (by decide) rfl (fun hf => ?_) (fun hf => ?_)
  · have hf := Option.some.inj hf; subst hf
    exact a_sub [0, 1, 2] rfl (show At F G Q 4 21 [(0, .ref (G.2.1 k0)), (1, .int v1), (2, .int v2)] [] (t, r) from hK)
  · refine a_aload_n C (i := 0) (q := 9) dX3_renew_8 rfl 0 rfl rfl ?_
    refine a_get3 C (q := 12) dX3_renew_9 0 (by decide) k_196 hk0.lt (hk0.at G _ _) rfl rfl ?_
    refine a_iload_n C (i := 3) (q := 13) dX3_renew_12 rfl 3 rfl rfl ?_
    refine a_iconst C (v := (0 : Int32)) (q := 14) dX3_renew_13 rfl (by decide) ?_
    refine a_iastN C (q := 15) (mk := (fun z => (z, r))) dX3_renew_14 hf hk0.lt1 (hk0.items G _ _) (hk0.itput G _ _ _) cellE_C1 rfl (fun t_1 hf => ?_)
    refine a_iincN C (i := 3) (k := 3) (q := 18) (lv' := fun z => [(3, .int z), (0, .ref (G.2.1 k0)), (1, .int v1), (2, .int v2)]) dX3_renew_15 hf rfl rfl (by decide) (fun _ => rfl) rfl (fun v3_2 hf => ?_)
    refine a_goto C (q := 2) dX3_renew_18 (by decide) ?_
    have hf := Option.some.inj hf; subst hf
    exact a_sub [1, 2, 3, 0] rfl (show At F G Q 4 2 [(0, .ref (G.2.1 k0)), (1, .int v1), (2, .int v2), (3, .int v3_2)] [] (t_1, r) from hK)
theorem lp_X3_renew_2 {F : FX} {G : GX} {Q : State → Prop} (C : Cx F G cX3_renew 4 RX3) (hR : Rm F 2) (n : Nat) (r : SR) (k0 : Nat) (v1 : Int32) (v2 : Int32)  (hk0 : isSh k0) (v3 : Int32) (t : MM) (x : MM) (h : it2 (lb_X3_renew_2 n k0 v1 v2) n v3 t = some x) (hE : E_X3_renew_2 F G Q r k0 v1 v2 x) : At F G Q 4 2 [(0, .ref (G.2.1 k0)), (1, .int v1), (2, .int v2), (3, .int v3)] [] (t, r) :=
  it2_ind (b := (lb_X3_renew_2 n k0 v1 v2)) (E := E_X3_renew_2 F G Q r k0 v1 v2) (P := fun v3 t => P_X3_renew_2 F G Q r k0 v1 v2 v3 t) (fun v3 t res hf hK => w_X3_renew_2 C hR n r k0 v1 v2  hk0 v3 t res hf hK) n v3 t x h hE
def f_X3_renew (n : Nat) (t : MM) (k0 : Nat) (v1 : Int32) (v2 : Int32) : Option (MM) :=
  b1 (it2 (lb_X3_renew_2 n k0 v1 v2) n (0 : Int32) t) (fun t_3 => nm (st1 t_3 k0 1 (1 : Int32)) (fun t_4 => nm (st1 t_4 k0 2 v1) (fun t_5 => nm (st1 t_5 k0 3 v2) (fun t_6 => some t_6))))
set_option maxHeartbeats 4000000 in
theorem w_X3_renew_e {F : FX} {G : GX} {Q : State → Prop} (C : Cx F G cX3_renew 4 RX3) (hR : Rm F 2) (n : Nat) (t : MM) (r : SR)  (k0 : Nat) (v1 : Int32) (v2 : Int32) (hk0 : isSh k0) (res : MM) (hf : f_X3_renew n t k0 v1 v2 = some res) (hK : RetV F G Q cX3_renew 4 (res, r)) : At F G Q 4 0 [(0, .ref (G.2.1 k0)), (1, .int v1), (2, .int v2)] [] (t, r) := by
  unfold f_X3_renew at hf
  refine a_iconst C (v := (0 : Int32)) (q := 1) dX3_renew_0 rfl (by decide) ?_
  refine a_istore_n C (i := 3) (q := 2) (lv' := [(3, .int (0 : Int32)), (0, .ref (G.2.1 k0)), (1, .int v1), (2, .int v2)]) dX3_renew_1 rfl (by decide) rfl rfl ?_
  obtain ⟨t_3, h1, hf⟩ := b1_some hf
  refine a_sub [1, 2, 3, 0] rfl (lp_X3_renew_2 C hR n r k0 v1 v2  hk0 (0 : Int32) t _ h1 ?_)
  show At F G Q 4 21 [(0, .ref (G.2.1 k0)), (1, .int v1), (2, .int v2)] [] (t_3, r)
  refine a_aload_n C (i := 0) (q := 22) dX3_renew_21 rfl 0 rfl rfl ?_
  refine a_iconst C (v := (1 : Int32)) (q := 23) dX3_renew_22 rfl (by decide) ?_
  refine a_put3N C (q := 26) (mk := (fun z => (z, r))) dX3_renew_23 hf 1 (by decide) k_198 hk0.lt (hk0.at G _ _) (hk0.put (by decide) (by decide) G _ _ _) cellE_C1 rfl rfl rfl (Nat.le_of_ble_eq_true rfl) rfl (fun t_4 hf => ?_)
  refine a_aload_n C (i := 0) (q := 27) dX3_renew_26 rfl 0 rfl rfl ?_
  refine a_iload_n C (i := 1) (q := 28) dX3_renew_27 rfl 1 rfl rfl ?_
  refine a_put3N C (q := 31) (mk := (fun z => (z, r))) dX3_renew_28 hf 2 (by decide) k_200 hk0.lt (hk0.at G _ _) (hk0.put (by decide) (by decide) G _ _ _) cellE_C1 rfl rfl rfl (Nat.le_of_ble_eq_true rfl) rfl (fun t_5 hf => ?_)
  refine a_aload_n C (i := 0) (q := 32) dX3_renew_31 rfl 0 rfl rfl ?_
  refine a_iload_n C (i := 2) (q := 33) dX3_renew_32 rfl 2 rfl rfl ?_
  refine a_put3N C (q := 36) (mk := (fun z => (z, r))) dX3_renew_33 hf 3 (by decide) k_202 hk0.lt (hk0.at G _ _) (hk0.put (by decide) (by decide) G _ _ _) cellE_C1 rfl rfl rfl (Nat.le_of_ble_eq_true rfl) rfl (fun t_6 hf => ?_)
  have hf := Option.some.inj hf; subst hf
  exact (show RetV F G Q cX3_renew 4 (t_6, r) from hK) _ _ dX3_renew_36
theorem c_X3_renew (l : Launch) (G : GX) (n : Nat) (t : MM) (r : SR) (k0 : Nat) (v1 : Int32) (v2 : Int32) (hk0 : isSh k0) (res : MM) (hf : f_X3_renew n t k0 v1 v2 = some res) : MetC l G yX3_renew cX3_renew 4 none 2 (t, r) [.ref (G.2.1 k0), .int v1, .int v2] (PostV G (res, r)) :=
  m_V (by decide) (Nat.le_of_ble_eq_true rfl) (fun F Q C h1 h2 h3 hK => w_X3_renew_e C (Rm.of h1 h3) n t r k0 v1 v2 hk0 res hf hK)
theorem cw_X3_hasPart : CwV RX3 yX3_hasPart cX3_hasPart 3 2 (some .boolean) := ⟨k_728, k_726, k_727, k_8, by decide +kernel, by decide⟩
def f_X3_hasPart (t : MM) (k0 : Nat) (v1 : Int32) (v2 : Int32) : Option (Int32) :=
  (if v1 < 0 then some (0 : Int32) else (if v2 < 0 then some (0 : Int32) else (if (t k0 3) < v1 then some (0 : Int32) else (if ((t k0 3) - v1) < v2 then some (0 : Int32) else some (1 : Int32)))))
set_option maxHeartbeats 4000000 in
theorem w_X3_hasPart_e {F : FX} {G : GX} {Q : State → Prop} (C : Cx F G cX3_hasPart 3 RX3) (hR : Rm F 2) (t : MM) (r : SR)  (k0 : Nat) (v1 : Int32) (v2 : Int32) (hk0 : isSh k0) (res : Int32) (hf : f_X3_hasPart t k0 v1 v2 = some res) (hK : RetI F G Q cX3_hasPart 3 .boolean res (t, r)) : At F G Q 3 0 [(0, .ref (G.2.1 k0)), (1, .int v1), (2, .int v2)] [] (t, r) := by
  unfold f_X3_hasPart at hf
  refine a_iload_n C (i := 1) (q := 1) dX3_hasPart_0 rfl 1 rfl rfl ?_
  refine a_if_lt C (tgt := 30) (q := 4) dX3_hasPart_1 hf (by decide) rfl (fun hf => ?_) (fun hf => ?_)
  · refine a_iconst C (v := (0 : Int32)) (q := 31) dX3_hasPart_30 rfl (by decide) ?_
    have hf := Option.some.inj hf; subst hf
    exact (show RetI F G Q cX3_hasPart 3 .boolean (0 : Int32) (t, r) from hK) rfl _ _ dX3_hasPart_31
  · refine a_iload_n C (i := 2) (q := 5) dX3_hasPart_4 rfl 2 rfl rfl ?_
    refine a_if_lt C (tgt := 30) (q := 8) dX3_hasPart_5 hf (by decide) rfl (fun hf => ?_) (fun hf => ?_)
    · refine a_iconst C (v := (0 : Int32)) (q := 31) dX3_hasPart_30 rfl (by decide) ?_
      have hf := Option.some.inj hf; subst hf
      exact (show RetI F G Q cX3_hasPart 3 .boolean (0 : Int32) (t, r) from hK) rfl _ _ dX3_hasPart_31
    · refine a_iload_n C (i := 1) (q := 9) dX3_hasPart_8 rfl 1 rfl rfl ?_
      refine a_aload_n C (i := 0) (q := 10) dX3_hasPart_9 rfl 0 rfl rfl ?_
      refine a_get3 C (q := 13) dX3_hasPart_10 3 (by decide) k_202 hk0.lt (hk0.at G _ _) rfl rfl ?_
      refine a_icmp_gt C (tgt := 30) (q := 16) dX3_hasPart_13 hf (by decide) rfl (fun hf => ?_) (fun hf => ?_)
      · refine a_iconst C (v := (0 : Int32)) (q := 31) dX3_hasPart_30 rfl (by decide) ?_
        have hf := Option.some.inj hf; subst hf
        exact (show RetI F G Q cX3_hasPart 3 .boolean (0 : Int32) (t, r) from hK) rfl _ _ dX3_hasPart_31
      · refine a_iload_n C (i := 2) (q := 17) dX3_hasPart_16 rfl 2 rfl rfl ?_
        refine a_aload_n C (i := 0) (q := 18) dX3_hasPart_17 rfl 0 rfl rfl ?_
        refine a_get3 C (q := 21) dX3_hasPart_18 3 (by decide) k_202 hk0.lt (hk0.at G _ _) rfl rfl ?_
        refine a_iload_n C (i := 1) (q := 22) dX3_hasPart_21 rfl 1 rfl rfl ?_
        refine a_isub C (q := 23) dX3_hasPart_22 rfl ?_
        refine a_icmp_gt C (tgt := 30) (q := 26) dX3_hasPart_23 hf (by decide) rfl (fun hf => ?_) (fun hf => ?_)
        · refine a_iconst C (v := (0 : Int32)) (q := 31) dX3_hasPart_30 rfl (by decide) ?_
          have hf := Option.some.inj hf; subst hf
          exact (show RetI F G Q cX3_hasPart 3 .boolean (0 : Int32) (t, r) from hK) rfl _ _ dX3_hasPart_31
        · refine a_iconst C (v := (1 : Int32)) (q := 27) dX3_hasPart_26 rfl (by decide) ?_
          refine a_goto C (q := 31) dX3_hasPart_27 (by decide) ?_
          have hf := Option.some.inj hf; subst hf
          exact (show RetI F G Q cX3_hasPart 3 .boolean (1 : Int32) (t, r) from hK) rfl _ _ dX3_hasPart_31
theorem c_X3_hasPart (l : Launch) (G : GX) (t : MM) (r : SR) (k0 : Nat) (v1 : Int32) (v2 : Int32) (hk0 : isSh k0) (res : Int32) (hf : f_X3_hasPart t k0 v1 v2 = some res) : MetC l G yX3_hasPart cX3_hasPart 3 (some .boolean) 2 (t, r) [.ref (G.2.1 k0), .int v1, .int v2] (PostI G res (t, r)) :=
  m_I (by decide) (Nat.le_of_ble_eq_true rfl) (fun F Q C h1 h2 h3 hK => w_X3_hasPart_e C (Rm.of h1 h3) t r k0 v1 v2 hk0 res hf hK)
theorem cw_X3_write : CwV RX3 yX3_write cX3_write 3 2 none := ⟨k_741, k_739, k_740, k_8, by decide +kernel, by decide⟩
def f_X3_write (t : MM) (k0 : Nat) (v1 : Int32) (v2 : Int32) : Option (MM) :=
  (if v1 < 0 then some t else (if v1 < (t k0 3) then (if (t k0 2) = 0 then ix v1 24 (nm (st1 t (k0 + 1) v1.toNatClampNeg v2.toInt8.toInt32) (fun t_3 => some t_3)) else (if (t k0 2) = (1 : Int32) then ix v1 24 (nm (st1 t (k0 + 1) v1.toNatClampNeg v2.toInt16.toInt32) (fun t_2 => some t_2)) else ix v1 24 (nm (st1 t (k0 + 1) v1.toNatClampNeg v2) (fun t_1 => some t_1)))) else some t))
set_option maxHeartbeats 4000000 in
theorem w_X3_write_e {F : FX} {G : GX} {Q : State → Prop} (C : Cx F G cX3_write 3 RX3) (hR : Rm F 2) (t : MM) (r : SR)  (k0 : Nat) (v1 : Int32) (v2 : Int32) (hk0 : isSh k0) (res : MM) (hf : f_X3_write t k0 v1 v2 = some res) (hK : RetV F G Q cX3_write 3 (res, r)) : At F G Q 3 0 [(0, .ref (G.2.1 k0)), (1, .int v1), (2, .int v2)] [] (t, r) := by
  unfold f_X3_write at hf
  refine a_iload_n C (i := 1) (q := 1) dX3_write_0 rfl 1 rfl rfl ?_
  refine a_if_lt C (tgt := 12) (q := 4) dX3_write_1 hf (by decide) rfl (fun hf => ?_) (fun hf => ?_)
  · have hf := Option.some.inj hf; subst hf
    exact (show RetV F G Q cX3_write 3 (t, r) from hK) _ _ dX3_write_12
  · refine a_iload_n C (i := 1) (q := 5) dX3_write_4 rfl 1 rfl rfl ?_
    refine a_aload_n C (i := 0) (q := 6) dX3_write_5 rfl 0 rfl rfl ?_
    refine a_get3 C (q := 9) dX3_write_6 3 (by decide) k_202 hk0.lt (hk0.at G _ _) rfl rfl ?_
    refine a_icmp_lt C (tgt := 13) (q := 12) dX3_write_9 hf (by decide) rfl (fun hf => ?_) (fun hf => ?_)
    · refine a_aload_n C (i := 0) (q := 14) dX3_write_13 rfl 0 rfl rfl ?_
      refine a_get3 C (q := 17) dX3_write_14 2 (by decide) k_200 hk0.lt (hk0.at G _ _) rfl rfl ?_
      refine a_if_ne C (tgt := 31) (q := 20) dX3_write_17 hf (by decide) rfl (fun hf => ?_) (fun hf => ?_)
      · refine a_aload_n C (i := 0) (q := 32) dX3_write_31 rfl 0 rfl rfl ?_
        refine a_get3 C (q := 35) dX3_write_32 2 (by decide) k_200 hk0.lt (hk0.at G _ _) rfl rfl ?_
        refine a_iconst C (v := (1 : Int32)) (q := 36) dX3_write_35 rfl (by decide) ?_
        refine a_icmp_ne C (tgt := 50) (q := 39) dX3_write_36 hf (by decide) rfl (fun hf => ?_) (fun hf => ?_)
        · refine a_aload_n C (i := 0) (q := 51) dX3_write_50 rfl 0 rfl rfl ?_
          refine a_get3 C (q := 54) dX3_write_51 0 (by decide) k_196 hk0.lt (hk0.at G _ _) rfl rfl ?_
          refine a_iload_n C (i := 1) (q := 55) dX3_write_54 rfl 1 rfl rfl ?_
          refine a_iload_n C (i := 2) (q := 56) dX3_write_55 rfl 2 rfl rfl ?_
          refine a_iastN C (q := 57) (mk := (fun z => (z, r))) dX3_write_56 hf hk0.lt1 (hk0.items G _ _) (hk0.itput G _ _ _) cellE_C1 rfl (fun t_1 hf => ?_)
          have hf := Option.some.inj hf; subst hf
          exact (show RetV F G Q cX3_write 3 (t_1, r) from hK) _ _ dX3_write_57
        · refine a_aload_n C (i := 0) (q := 40) dX3_write_39 rfl 0 rfl rfl ?_
          refine a_get3 C (q := 43) dX3_write_40 0 (by decide) k_196 hk0.lt (hk0.at G _ _) rfl rfl ?_
          refine a_iload_n C (i := 1) (q := 44) dX3_write_43 rfl 1 rfl rfl ?_
          refine a_iload_n C (i := 2) (q := 45) dX3_write_44 rfl 2 rfl rfl ?_
          refine a_i2s C (q := 46) dX3_write_45 rfl ?_
          refine a_iastN C (q := 47) (mk := (fun z => (z, r))) dX3_write_46 hf hk0.lt1 (hk0.items G _ _) (hk0.itput G _ _ _) cellE_C1 rfl (fun t_2 hf => ?_)
          refine a_goto C (q := 57) dX3_write_47 (by decide) ?_
          have hf := Option.some.inj hf; subst hf
          exact (show RetV F G Q cX3_write 3 (t_2, r) from hK) _ _ dX3_write_57
      · refine a_aload_n C (i := 0) (q := 21) dX3_write_20 rfl 0 rfl rfl ?_
        refine a_get3 C (q := 24) dX3_write_21 0 (by decide) k_196 hk0.lt (hk0.at G _ _) rfl rfl ?_
        refine a_iload_n C (i := 1) (q := 25) dX3_write_24 rfl 1 rfl rfl ?_
        refine a_iload_n C (i := 2) (q := 26) dX3_write_25 rfl 2 rfl rfl ?_
        refine a_i2b C (q := 27) dX3_write_26 rfl ?_
        refine a_iastN C (q := 28) (mk := (fun z => (z, r))) dX3_write_27 hf hk0.lt1 (hk0.items G _ _) (hk0.itput G _ _ _) cellE_C1 rfl (fun t_3 hf => ?_)
        refine a_goto C (q := 57) dX3_write_28 (by decide) ?_
        have hf := Option.some.inj hf; subst hf
        exact (show RetV F G Q cX3_write 3 (t_3, r) from hK) _ _ dX3_write_57
    · have hf := Option.some.inj hf; subst hf
      exact (show RetV F G Q cX3_write 3 (t, r) from hK) _ _ dX3_write_12
theorem c_X3_write (l : Launch) (G : GX) (t : MM) (r : SR) (k0 : Nat) (v1 : Int32) (v2 : Int32) (hk0 : isSh k0) (res : MM) (hf : f_X3_write t k0 v1 v2 = some res) : MetC l G yX3_write cX3_write 3 none 2 (t, r) [.ref (G.2.1 k0), .int v1, .int v2] (PostV G (res, r)) :=
  m_V (by decide) (Nat.le_of_ble_eq_true rfl) (fun F Q C h1 h2 h3 hK => w_X3_write_e C (Rm.of h1 h3) t r k0 v1 v2 hk0 res hf hK)
