theorem cw_X6_weighSand : CwV RX6 yX6_weighSand cX6_weighSand 3 1 none := ⟨k_294, k_292, k_293, k_2, by decide +kernel, by decide⟩
def P_X6_weighSand_6 (F : FX) (G : GX) (Q : State → Prop) (r : SR) (k1 : Nat) (v2 : Int32) (t : MM) : Prop := At F G Q 3 6 [(0, .ref (G.2.1 1)), (1, .ref (G.2.1 k1)), (2, .int v2)] [] (t, r)
def E_X6_weighSand_6 (F : FX) (G : GX) (Q : State → Prop) (r : SR) (k1 : Nat) : MM → Prop := fun q => match q with
  | t => At F G Q 3 29 [] [] (t, r)
def lb_X6_weighSand_6 (n : Nat) (k1 : Nat) (v2 : Int32) (t : MM) : Option ((MM) ⊕ (Int32 × MM)) :=
  (if (12 : Int32) ≤ v2 then some (.inl t) else ix v2 12 (b1 (f_X2_hang t k1 v2 (t 6 v2.toNatClampNeg)) (fun y_2 => nm (v2 + 1) (fun v2_3 => some (.inr (v2_3, y_2))))))
set_option maxHeartbeats 4000000 in
theorem w_X6_weighSand_6 {F : FX} {G : GX} {Q : State → Prop} (C : Cx F G cX6_weighSand 3 RX6) (hR : Rm F 3) (n : Nat) (r : SR) (k1 : Nat)  (hk1 : isBal k1) (v2 : Int32) (t : MM) (res : (MM) ⊕ (Int32 × MM)) (hf : lb_X6_weighSand_6 n k1 v2 t = some res) (hK : Sum.elim (E_X6_weighSand_6 F G Q r k1) (fun q => match q with | (v2, t) => P_X6_weighSand_6 F G Q r k1 v2 t) res) : P_X6_weighSand_6 F G Q r k1 v2 t := by
  unfold lb_X6_weighSand_6 at hf
  show At F G Q 3 6 [(0, .ref (G.2.1 1)), (1, .ref (G.2.1 k1)), (2, .int v2)] [] (t, r)
  refine a_iload_n C (i := 2) (q := 7) dX6_weighSand_6 rfl 2 rfl rfl ?_
  refine a_bipush C (v := (12 : Int32)) (q := 9) dX6_weighSand_7 rfl (by decide) ?_
  refine a_icmp_ge C (tgt := 29) (q := 12) dX6_weighSand_9 hf (by decide) rfl (fun hf => ?_) (fun hf => ?_)
  · have hf := Option.some.inj hf; subst hf
    exact a_sub [] rfl (show At F G Q 3 29 [] [] (t, r) from hK)
  · refine a_aload_n C (i := 1) (q := 13) dX6_weighSand_12 rfl 1 rfl rfl ?_
    refine a_iload_n C (i := 2) (q := 14) dX6_weighSand_13 rfl 2 rfl rfl ?_
    refine a_aload_n C (i := 0) (q := 15) dX6_weighSand_14 rfl 0 rfl rfl ?_
    refine a_get6 C (q := 18) dX6_weighSand_15 4 (by decide) k_42 (by decide) rfl rfl rfl ?_
    refine a_iload_n C (i := 2) (q := 19) dX6_weighSand_18 rfl 2 rfl rfl ?_
    refine a_iald C (q := 20) (g := t 6) dX6_weighSand_19 hf (by decide) rfl rfl (fun hf => ?_)
    refine a_callVV C (q := 23) (As := [.int v2, .int (t 6 v2.toNatClampNeg)]) (st := []) dX6_weighSand_20 hR (by decide) hf (fun b => (b, r)) hk1.lt (hk1.at G _ _) rfl cw_X2_hang (fun b hb => c_X2_hang _ G t r k1 v2 (t 6 v2.toNatClampNeg) hk1 b hb) rfl rfl (Nat.le_of_ble_eq_true rfl) k_299 rfl (fun y_2 hf => ?_)
    refine a_iincN C (i := 2) (k := 2) (q := 26) (lv' := fun z => [(2, .int z), (0, .ref (G.2.1 1)), (1, .ref (G.2.1 k1))]) dX6_weighSand_23 hf rfl rfl (by decide) (fun _ => rfl) rfl (fun v2_3 hf => ?_)
    refine a_goto C (q := 6) dX6_weighSand_26 (by decide) ?_
    have hf := Option.some.inj hf; subst hf
    exact a_sub [1, 2, 0] rfl (show At F G Q 3 6 [(0, .ref (G.2.1 1)), (1, .ref (G.2.1 k1)), (2, .int v2_3)] [] (y_2, r) from hK)
theorem lp_X6_weighSand_6 {F : FX} {G : GX} {Q : State → Prop} (C : Cx F G cX6_weighSand 3 RX6) (hR : Rm F 3) (n : Nat) (r : SR) (k1 : Nat)  (hk1 : isBal k1) (v2 : Int32) (t : MM) (x : MM) (h : it2 (lb_X6_weighSand_6 n k1) n v2 t = some x) (hE : E_X6_weighSand_6 F G Q r k1 x) : At F G Q 3 6 [(0, .ref (G.2.1 1)), (1, .ref (G.2.1 k1)), (2, .int v2)] [] (t, r) :=
  it2_ind (b := (lb_X6_weighSand_6 n k1)) (E := E_X6_weighSand_6 F G Q r k1) (P := fun v2 t => P_X6_weighSand_6 F G Q r k1 v2 t) (fun v2 t res hf hK => w_X6_weighSand_6 C hR n r k1  hk1 v2 t res hf hK) n v2 t x h hE
def f_X6_weighSand (n : Nat) (t : MM) (k1 : Nat) : Option (MM) :=
  b1 (f_X2_clear t k1) (fun y_1 => b1 (it2 (lb_X6_weighSand_6 n k1) n (0 : Int32) y_1) (fun t_4 => some t_4))
set_option maxHeartbeats 4000000 in
theorem w_X6_weighSand_e {F : FX} {G : GX} {Q : State → Prop} (C : Cx F G cX6_weighSand 3 RX6) (hR : Rm F 3) (n : Nat) (t : MM) (r : SR)  (k1 : Nat) (hk1 : isBal k1) (res : MM) (hf : f_X6_weighSand n t k1 = some res) (hK : RetV F G Q cX6_weighSand 3 (res, r)) : At F G Q 3 0 [(0, .ref (G.2.1 1)), (1, .ref (G.2.1 k1))] [] (t, r) := by
  unfold f_X6_weighSand at hf
  refine a_aload_n C (i := 1) (q := 1) dX6_weighSand_0 rfl 1 rfl rfl ?_
  refine a_callVV C (q := 4) (As := []) (st := []) dX6_weighSand_1 hR (by decide) hf (fun b => (b, r)) hk1.lt (hk1.at G _ _) rfl cw_X2_clear (fun b hb => c_X2_clear _ G t r k1 hk1 b hb) rfl rfl (Nat.le_of_ble_eq_true rfl) k_295 rfl (fun y_1 hf => ?_)
  refine a_iconst C (v := (0 : Int32)) (q := 5) dX6_weighSand_4 rfl (by decide) ?_
  refine a_istore_n C (i := 2) (q := 6) (lv' := [(2, .int (0 : Int32)), (0, .ref (G.2.1 1)), (1, .ref (G.2.1 k1))]) dX6_weighSand_5 rfl (by decide) rfl rfl ?_
  obtain ⟨t_4, h1, hf⟩ := b1_some hf
  refine a_sub [1, 2, 0] rfl (lp_X6_weighSand_6 C hR n r k1  hk1 (0 : Int32) y_1 _ h1 ?_)
  show At F G Q 3 29 [] [] (t_4, r)
  have hf := Option.some.inj hf; subst hf
  exact (show RetV F G Q cX6_weighSand 3 (t_4, r) from hK) _ _ dX6_weighSand_29
theorem c_X6_weighSand (l : Launch) (G : GX) (n : Nat) (t : MM) (r : SR) (k1 : Nat) (hk1 : isBal k1) (res : MM) (hf : f_X6_weighSand n t k1 = some res) : MetC l G yX6_weighSand cX6_weighSand 3 none 3 (t, r) [.ref (G.2.1 1), .ref (G.2.1 k1)] (PostV G (res, r)) :=
  m_V (by decide) (Nat.le_of_ble_eq_true rfl) (fun F Q C h1 h2 h3 hK => w_X6_weighSand_e C (Rm.of h1 h3) n t r k1 hk1 res hf hK)
theorem cw_X6_whoRides : CwV RX6 yX6_whoRides cX6_whoRides 3 0 (some .int) := ⟨k_314, k_312, k_313, k_2, by decide +kernel, by decide⟩
def P_X6_whoRides_4 (F : FX) (G : GX) (Q : State → Prop) (r : SR) (t : MM) (v1 : Int32) (v2 : Int32) : Prop := At F G Q 3 4 [(0, .ref (G.2.1 1)), (1, .int v1), (2, .int v2)] [] (t, r)
def E_X6_whoRides_4 (F : FX) (G : GX) (Q : State → Prop) (r : SR) (t : MM) : Int32 → Prop := fun q => match q with
  | v1 => At F G Q 3 35 [(1, .int v1)] [] (t, r)
def lb_X6_whoRides_4 (n : Nat) (t : MM) (v1 : Int32) (v2 : Int32) : Option ((Int32) ⊕ (Int32 × Int32)) :=
  (if (t 1 5) ≤ v2 then some (.inl v1) else ix v2 10 ((if (12 : Int32) ≤ (t 4 v2.toNatClampNeg) then nm (v2 + 1) (fun v2_1 => some (.inr (v1, v2_1))) else nm (v1 ||| ((1 : Int32) <<< (v2 &&& 31))) (fun v1_2 => nm (v2 + 1) (fun v2_3 => some (.inr (v1_2, v2_3)))))))
set_option maxHeartbeats 4000000 in
theorem w_X6_whoRides_4 {F : FX} {G : GX} {Q : State → Prop} (C : Cx F G cX6_whoRides 3 RX6) (hR : Rm F 2) (n : Nat) (r : SR) (t : MM)  (v1 : Int32) (v2 : Int32) (res : (Int32) ⊕ (Int32 × Int32)) (hf : lb_X6_whoRides_4 n t v1 v2 = some res) (hK : Sum.elim (E_X6_whoRides_4 F G Q r t) (fun q => match q with | (v1, v2) => P_X6_whoRides_4 F G Q r t v1 v2) res) : P_X6_whoRides_4 F G Q r t v1 v2 := by
  unfold lb_X6_whoRides_4 at hf
  show At F G Q 3 4 [(0, .ref (G.2.1 1)), (1, .int v1), (2, .int v2)] [] (t, r)
  refine a_iload_n C (i := 2) (q := 5) dX6_whoRides_4 rfl 2 rfl rfl ?_
  refine a_aload_n C (i := 0) (q := 6) dX6_whoRides_5 rfl 0 rfl rfl ?_
  refine a_get6 C (q := 9) dX6_whoRides_6 5 (by decide) k_44 (by decide) rfl rfl rfl ?_
  refine a_icmp_ge C (tgt := 35) (q := 12) dX6_whoRides_9 hf (by decide) rfl (fun hf => ?_) (fun hf => ?_)
  · have hf := Option.some.inj hf; subst hf
    exact a_sub [1] rfl (show At F G Q 3 35 [(1, .int v1)] [] (t, r) from hK)
  · refine a_aload_n C (i := 0) (q := 13) dX6_whoRides_12 rfl 0 rfl rfl ?_
    refine a_get6 C (q := 16) dX6_whoRides_13 2 (by decide) k_37 (by decide) rfl rfl rfl ?_
    refine a_iload_n C (i := 2) (q := 17) dX6_whoRides_16 rfl 2 rfl rfl ?_
    refine a_iald C (q := 18) (g := t 4) dX6_whoRides_17 hf (by decide) rfl rfl (fun hf => ?_)
    refine a_bipush C (v := (12 : Int32)) (q := 20) dX6_whoRides_18 rfl (by decide) ?_
    refine a_icmp_ge C (tgt := 29) (q := 23) dX6_whoRides_20 hf (by decide) rfl (fun hf => ?_) (fun hf => ?_)
    · refine a_iincN C (i := 2) (k := 2) (q := 32) (lv' := fun z => [(2, .int z), (0, .ref (G.2.1 1)), (1, .int v1)]) dX6_whoRides_29 hf rfl rfl (by decide) (fun _ => rfl) rfl (fun v2_1 hf => ?_)
      refine a_goto C (q := 4) dX6_whoRides_32 (by decide) ?_
      have hf := Option.some.inj hf; subst hf
      exact a_sub [1, 2, 0] rfl (show At F G Q 3 4 [(0, .ref (G.2.1 1)), (1, .int v1), (2, .int v2_1)] [] (t, r) from hK)
    · refine a_iload_n C (i := 1) (q := 24) dX6_whoRides_23 rfl 1 rfl rfl ?_
      refine a_iconst C (v := (1 : Int32)) (q := 25) dX6_whoRides_24 rfl (by decide) ?_
      refine a_iload_n C (i := 2) (q := 26) dX6_whoRides_25 rfl 2 rfl rfl ?_
      refine a_ishl C (q := 27) dX6_whoRides_26 rfl ?_
      refine a_ior C (q := 28) dX6_whoRides_27 rfl ?_
      refine a_istore_nN C (i := 1) (q := 29) (lv' := fun z => [(1, .int z), (0, .ref (G.2.1 1)), (2, .int v2)]) dX6_whoRides_28 hf rfl (by decide) (fun _ => rfl) rfl (fun v1_2 hf => ?_)
      refine a_iincN C (i := 2) (k := 2) (q := 32) (lv' := fun z => [(2, .int z), (1, .int v1_2), (0, .ref (G.2.1 1))]) dX6_whoRides_29 hf rfl rfl (by decide) (fun _ => rfl) rfl (fun v2_3 hf => ?_)
      refine a_goto C (q := 4) dX6_whoRides_32 (by decide) ?_
      have hf := Option.some.inj hf; subst hf
      exact a_sub [2, 1, 0] rfl (show At F G Q 3 4 [(0, .ref (G.2.1 1)), (1, .int v1_2), (2, .int v2_3)] [] (t, r) from hK)
theorem lp_X6_whoRides_4 {F : FX} {G : GX} {Q : State → Prop} (C : Cx F G cX6_whoRides 3 RX6) (hR : Rm F 2) (n : Nat) (r : SR) (t : MM)  (v1 : Int32) (v2 : Int32) (x : Int32) (h : it2 (lb_X6_whoRides_4 n t) n v1 v2 = some x) (hE : E_X6_whoRides_4 F G Q r t x) : At F G Q 3 4 [(0, .ref (G.2.1 1)), (1, .int v1), (2, .int v2)] [] (t, r) :=
  it2_ind (b := (lb_X6_whoRides_4 n t)) (E := E_X6_whoRides_4 F G Q r t) (P := fun v1 v2 => P_X6_whoRides_4 F G Q r t v1 v2) (fun v1 v2 res hf hK => w_X6_whoRides_4 C hR n r t   v1 v2 res hf hK) n v1 v2 x h hE
def f_X6_whoRides (n : Nat) (t : MM) : Option (Int32) :=
  b1 (it2 (lb_X6_whoRides_4 n t) n (0 : Int32) (0 : Int32)) (fun v1_4 => some v1_4)
set_option maxHeartbeats 4000000 in
theorem w_X6_whoRides_e {F : FX} {G : GX} {Q : State → Prop} (C : Cx F G cX6_whoRides 3 RX6) (hR : Rm F 2) (n : Nat) (t : MM) (r : SR)   (res : Int32) (hf : f_X6_whoRides n t = some res) (hK : RetI F G Q cX6_whoRides 3 .int res (t, r)) : At F G Q 3 0 [(0, .ref (G.2.1 1))] [] (t, r) := by
  unfold f_X6_whoRides at hf
  refine a_iconst C (v := (0 : Int32)) (q := 1) dX6_whoRides_0 rfl (by decide) ?_
  refine a_istore_n C (i := 1) (q := 2) (lv' := [(1, .int (0 : Int32)), (0, .ref (G.2.1 1))]) dX6_whoRides_1 rfl (by decide) rfl rfl ?_
  refine a_iconst C (v := (0 : Int32)) (q := 3) dX6_whoRides_2 rfl (by decide) ?_
  refine a_istore_n C (i := 2) (q := 4) (lv' := [(2, .int (0 : Int32)), (1, .int (0 : Int32)), (0, .ref (G.2.1 1))]) dX6_whoRides_3 rfl (by decide) rfl rfl ?_
  obtain ⟨v1_4, h1, hf⟩ := b1_some hf
  refine a_sub [2, 1, 0] rfl (lp_X6_whoRides_4 C hR n r t  (0 : Int32) (0 : Int32) _ h1 ?_)
  show At F G Q 3 35 [(1, .int v1_4)] [] (t, r)
  refine a_iload_n C (i := 1) (q := 36) dX6_whoRides_35 rfl 0 rfl rfl ?_
  have hf := Option.some.inj hf; subst hf
  exact (show RetI F G Q cX6_whoRides 3 .int v1_4 (t, r) from hK) rfl _ _ dX6_whoRides_36
theorem c_X6_whoRides (l : Launch) (G : GX) (n : Nat) (t : MM) (r : SR)  (res : Int32) (hf : f_X6_whoRides n t = some res) : MetC l G yX6_whoRides cX6_whoRides 3 (some .int) 2 (t, r) [.ref (G.2.1 1)] (PostI G res (t, r)) :=
  m_I (by decide) (Nat.le_of_ble_eq_true rfl) (fun F Q C h1 h2 h3 hK => w_X6_whoRides_e C (Rm.of h1 h3) n t r res hf hK)
theorem cw_X6_hangThese : CwV RX6 yX6_hangThese cX6_hangThese 4 2 none := ⟨k_318, k_316, k_317, k_2, by decide +kernel, by decide⟩
def P_X6_hangThese_2 (F : FX) (G : GX) (Q : State → Prop) (r : SR) (v1 : Int32) (k2 : Nat) (v3 : Int32) (t : MM) : Prop := At F G Q 4 2 [(0, .ref (G.2.1 1)), (1, .int v1), (2, .ref (G.2.1 k2)), (3, .int v3)] [] (t, r)
def E_X6_hangThese_2 (F : FX) (G : GX) (Q : State → Prop) (r : SR) (v1 : Int32) (k2 : Nat) : MM → Prop := fun q => match q with
  | t => At F G Q 4 40 [] [] (t, r)
def lb_X6_hangThese_2 (n : Nat) (v1 : Int32) (k2 : Nat) (v3 : Int32) (t : MM) : Option ((MM) ⊕ (Int32 × MM)) :=
  (if (t 1 5) ≤ v3 then some (.inl t) else (if ((v1 >>> (v3 &&& 31)) &&& (1 : Int32)) = 0 then nm (v3 + 1) (fun v3_1 => some (.inr (v3_1, t))) else ix v3 10 (ix v3 10 (b1 (f_X2_hang t k2 (t 4 v3.toNatClampNeg) (t 3 v3.toNatClampNeg)) (fun y_2 => nm (v3 + 1) (fun v3_3 => some (.inr (v3_3, y_2))))))))
set_option maxHeartbeats 4000000 in
theorem w_X6_hangThese_2 {F : FX} {G : GX} {Q : State → Prop} (C : Cx F G cX6_hangThese 4 RX6) (hR : Rm F 3) (n : Nat) (r : SR) (v1 : Int32) (k2 : Nat)  (hk2 : isBal k2) (v3 : Int32) (t : MM) (res : (MM) ⊕ (Int32 × MM)) (hf : lb_X6_hangThese_2 n v1 k2 v3 t = some res) (hK : Sum.elim (E_X6_hangThese_2 F G Q r v1 k2) (fun q => match q with | (v3, t) => P_X6_hangThese_2 F G Q r v1 k2 v3 t) res) : P_X6_hangThese_2 F G Q r v1 k2 v3 t := by
  unfold lb_X6_hangThese_2 at hf
  show At F G Q 4 2 [(0, .ref (G.2.1 1)), (1, .int v1), (2, .ref (G.2.1 k2)), (3, .int v3)] [] (t, r)
  refine a_iload_n C (i := 3) (q := 3) dX6_hangThese_2 rfl 3 rfl rfl ?_
  refine a_aload_n C (i := 0) (q := 4) dX6_hangThese_3 rfl 0 rfl rfl ?_
  refine a_get6 C (q := 7) dX6_hangThese_4 5 (by decide) k_44 (by decide) rfl rfl rfl ?_
  refine a_icmp_ge C (tgt := 40) (q := 10) dX6_hangThese_7 hf (by decide) rfl (fun hf => ?_) (fun hf => ?_)
  · have hf := Option.some.inj hf; subst hf
    exact a_sub [] rfl (show At F G Q 4 40 [] [] (t, r) from hK)
  · refine a_iload_n C (i := 1) (q := 11) dX6_hangThese_10 rfl 1 rfl rfl ?_
    refine a_iload_n C (i := 3) (q := 12) dX6_hangThese_11 rfl 3 rfl rfl ?_
    refine a_ishr C (q := 13) dX6_hangThese_12 rfl ?_
    refine a_iconst C (v := (1 : Int32)) (q := 14) dX6_hangThese_13 rfl (by decide) ?_
    refine a_iand C (q := 15) dX6_hangThese_14 rfl ?_
    refine a_if_eq C (tgt := 34) (q := 18) dX6_hangThese_15 hf (by decide) rfl (fun hf => ?_) (fun hf => ?_)
    · refine a_iincN C (i := 3) (k := 3) (q := 37) (lv' := fun z => [(3, .int z), (0, .ref (G.2.1 1)), (1, .int v1), (2, .ref (G.2.1 k2))]) dX6_hangThese_34 hf rfl rfl (by decide) (fun _ => rfl) rfl (fun v3_1 hf => ?_)
      refine a_goto C (q := 2) dX6_hangThese_37 (by decide) ?_
      have hf := Option.some.inj hf; subst hf
      exact a_sub [1, 2, 3, 0] rfl (show At F G Q 4 2 [(0, .ref (G.2.1 1)), (1, .int v1), (2, .ref (G.2.1 k2)), (3, .int v3_1)] [] (t, r) from hK)
    · refine a_aload_n C (i := 2) (q := 19) dX6_hangThese_18 rfl 2 rfl rfl ?_
      refine a_aload_n C (i := 0) (q := 20) dX6_hangThese_19 rfl 0 rfl rfl ?_
      refine a_get6 C (q := 23) dX6_hangThese_20 2 (by decide) k_37 (by decide) rfl rfl rfl ?_
      refine a_iload_n C (i := 3) (q := 24) dX6_hangThese_23 rfl 3 rfl rfl ?_
      refine a_iald C (q := 25) (g := t 4) dX6_hangThese_24 hf (by decide) rfl rfl (fun hf => ?_)
      refine a_aload_n C (i := 0) (q := 26) dX6_hangThese_25 rfl 0 rfl rfl ?_
      refine a_get6 C (q := 29) dX6_hangThese_26 1 (by decide) k_34 (by decide) rfl rfl rfl ?_
      refine a_iload_n C (i := 3) (q := 30) dX6_hangThese_29 rfl 3 rfl rfl ?_
      refine a_iald C (q := 31) (g := t 3) dX6_hangThese_30 hf (by decide) rfl rfl (fun hf => ?_)
      refine a_callVV C (q := 34) (As := [.int (t 4 v3.toNatClampNeg), .int (t 3 v3.toNatClampNeg)]) (st := []) dX6_hangThese_31 hR (by decide) hf (fun b => (b, r)) hk2.lt (hk2.at G _ _) rfl cw_X2_hang (fun b hb => c_X2_hang _ G t r k2 (t 4 v3.toNatClampNeg) (t 3 v3.toNatClampNeg) hk2 b hb) rfl rfl (Nat.le_of_ble_eq_true rfl) k_299 rfl (fun y_2 hf => ?_)
      refine a_iincN C (i := 3) (k := 3) (q := 37) (lv' := fun z => [(3, .int z), (0, .ref (G.2.1 1)), (1, .int v1), (2, .ref (G.2.1 k2))]) dX6_hangThese_34 hf rfl rfl (by decide) (fun _ => rfl) rfl (fun v3_3 hf => ?_)
      refine a_goto C (q := 2) dX6_hangThese_37 (by decide) ?_
      have hf := Option.some.inj hf; subst hf
      exact a_sub [1, 2, 3, 0] rfl (show At F G Q 4 2 [(0, .ref (G.2.1 1)), (1, .int v1), (2, .ref (G.2.1 k2)), (3, .int v3_3)] [] (y_2, r) from hK)
theorem lp_X6_hangThese_2 {F : FX} {G : GX} {Q : State → Prop} (C : Cx F G cX6_hangThese 4 RX6) (hR : Rm F 3) (n : Nat) (r : SR) (v1 : Int32) (k2 : Nat)  (hk2 : isBal k2) (v3 : Int32) (t : MM) (x : MM) (h : it2 (lb_X6_hangThese_2 n v1 k2) n v3 t = some x) (hE : E_X6_hangThese_2 F G Q r v1 k2 x) : At F G Q 4 2 [(0, .ref (G.2.1 1)), (1, .int v1), (2, .ref (G.2.1 k2)), (3, .int v3)] [] (t, r) :=
  it2_ind (b := (lb_X6_hangThese_2 n v1 k2)) (E := E_X6_hangThese_2 F G Q r v1 k2) (P := fun v3 t => P_X6_hangThese_2 F G Q r v1 k2 v3 t) (fun v3 t res hf hK => w_X6_hangThese_2 C hR n r v1 k2  hk2 v3 t res hf hK) n v3 t x h hE
def f_X6_hangThese (n : Nat) (t : MM) (v1 : Int32) (k2 : Nat) : Option (MM) :=
  b1 (it2 (lb_X6_hangThese_2 n v1 k2) n (0 : Int32) t) (fun t_4 => some t_4)
set_option maxHeartbeats 4000000 in
theorem w_X6_hangThese_e {F : FX} {G : GX} {Q : State → Prop} (C : Cx F G cX6_hangThese 4 RX6) (hR : Rm F 3) (n : Nat) (t : MM) (r : SR)  (v1 : Int32) (k2 : Nat) (hk2 : isBal k2) (res : MM) (hf : f_X6_hangThese n t v1 k2 = some res) (hK : RetV F G Q cX6_hangThese 4 (res, r)) : At F G Q 4 0 [(0, .ref (G.2.1 1)), (1, .int v1), (2, .ref (G.2.1 k2))] [] (t, r) := by
  unfold f_X6_hangThese at hf
  refine a_iconst C (v := (0 : Int32)) (q := 1) dX6_hangThese_0 rfl (by decide) ?_
  refine a_istore_n C (i := 3) (q := 2) (lv' := [(3, .int (0 : Int32)), (0, .ref (G.2.1 1)), (1, .int v1), (2, .ref (G.2.1 k2))]) dX6_hangThese_1 rfl (by decide) rfl rfl ?_
  obtain ⟨t_4, h1, hf⟩ := b1_some hf
  refine a_sub [1, 2, 3, 0] rfl (lp_X6_hangThese_2 C hR n r v1 k2  hk2 (0 : Int32) t _ h1 ?_)
  show At F G Q 4 40 [] [] (t_4, r)
  have hf := Option.some.inj hf; subst hf
  exact (show RetV F G Q cX6_hangThese 4 (t_4, r) from hK) _ _ dX6_hangThese_40
theorem c_X6_hangThese (l : Launch) (G : GX) (n : Nat) (t : MM) (r : SR) (v1 : Int32) (k2 : Nat) (hk2 : isBal k2) (res : MM) (hf : f_X6_hangThese n t v1 k2 = some res) : MetC l G yX6_hangThese cX6_hangThese 4 none 3 (t, r) [.ref (G.2.1 1), .int v1, .ref (G.2.1 k2)] (PostV G (res, r)) :=
  m_V (by decide) (Nat.le_of_ble_eq_true rfl) (fun F Q C h1 h2 h3 hK => w_X6_hangThese_e C (Rm.of h1 h3) n t r v1 k2 hk2 res hf hK)
theorem cw_X6_weighAll : CwV RX6 yX6_weighAll cX6_weighAll 2 1 none := ⟨k_290, k_288, k_289, k_2, by decide +kernel, by decide⟩
def f_X6_weighAll (n : Nat) (t : MM) (k1 : Nat) : Option (MM) :=
  b1 (f_X6_weighSand n t k1) (fun y_1 => b1 (f_X6_whoRides n y_1) (fun y_2 => b1 (f_X6_hangThese n y_1 y_2 k1) (fun y_3 => some y_3)))
set_option maxHeartbeats 4000000 in
theorem w_X6_weighAll_e {F : FX} {G : GX} {Q : State → Prop} (C : Cx F G cX6_weighAll 2 RX6) (hR : Rm F 4) (n : Nat) (t : MM) (r : SR)  (k1 : Nat) (hk1 : isBal k1) (res : MM) (hf : f_X6_weighAll n t k1 = some res) (hK : RetV F G Q cX6_weighAll 2 (res, r)) : At F G Q 2 0 [(0, .ref (G.2.1 1)), (1, .ref (G.2.1 k1))] [] (t, r) := by
  unfold f_X6_weighAll at hf
  refine a_aload_n C (i := 0) (q := 1) dX6_weighAll_0 rfl 0 rfl rfl ?_
  refine a_aload_n C (i := 1) (q := 2) dX6_weighAll_1 rfl 1 rfl rfl ?_
  refine a_callVV C (q := 5) (As := [.ref (G.2.1 k1)]) (st := []) dX6_weighAll_2 hR (by decide) hf (fun b => (b, r)) (by decide) rfl rfl cw_X6_weighSand (fun b hb => c_X6_weighSand _ G n t r k1 hk1 b hb) rfl rfl (Nat.le_of_ble_eq_true rfl) k_291 rfl (fun y_1 hf => ?_)
  refine a_aload_n C (i := 0) (q := 6) dX6_weighAll_5 rfl 0 rfl rfl ?_
  refine a_aload_n C (i := 0) (q := 7) dX6_weighAll_6 rfl 0 rfl rfl ?_
  refine a_callVI C (q := 10) (As := []) (st := [.ref (G.2.1 1)]) dX6_weighAll_7 hR (by decide) hf (fun b => b) (fun _ => (y_1, r)) (by decide) rfl rfl cw_X6_whoRides (fun b hb => c_X6_whoRides _ G n y_1 r b hb) rfl rfl (Nat.le_of_ble_eq_true rfl) k_311 rfl (fun y_2 hf => ?_)
  refine a_aload_n C (i := 1) (q := 11) dX6_weighAll_10 rfl 1 rfl rfl ?_
  refine a_callVV C (q := 14) (As := [.int y_2, .ref (G.2.1 k1)]) (st := []) dX6_weighAll_11 hR (by decide) hf (fun b => (b, r)) (by decide) rfl rfl cw_X6_hangThese (fun b hb => c_X6_hangThese _ G n y_1 r y_2 k1 hk1 b hb) rfl rfl (Nat.le_of_ble_eq_true rfl) k_315 rfl (fun y_3 hf => ?_)
  have hf := Option.some.inj hf; subst hf
  exact (show RetV F G Q cX6_weighAll 2 (y_3, r) from hK) _ _ dX6_weighAll_14
theorem c_X6_weighAll (l : Launch) (G : GX) (n : Nat) (t : MM) (r : SR) (k1 : Nat) (hk1 : isBal k1) (res : MM) (hf : f_X6_weighAll n t k1 = some res) : MetC l G yX6_weighAll cX6_weighAll 2 none 4 (t, r) [.ref (G.2.1 1), .ref (G.2.1 k1)] (PostV G (res, r)) :=
  m_V (by decide) (Nat.le_of_ble_eq_true rfl) (fun F Q C h1 h2 h3 hK => w_X6_weighAll_e C (Rm.of h1 h3) n t r k1 hk1 res hf hK)
theorem cw_X6_foot : CwV RX6 yX6_foot cX6_foot 1 0 (some .int) := ⟨k_514, k_512, k_513, k_2, by decide +kernel, by decide⟩
def f_X6_foot (t : MM) : Option (Int32) :=
  some ((t 1 6) - (t 1 6) / (12 : Int32) * (12 : Int32))
set_option maxHeartbeats 4000000 in
theorem w_X6_foot_e {F : FX} {G : GX} {Q : State → Prop} (C : Cx F G cX6_foot 1 RX6) (hR : Rm F 2) (t : MM) (r : SR)   (res : Int32) (hf : f_X6_foot t = some res) (hK : RetI F G Q cX6_foot 1 .int res (t, r)) : At F G Q 1 0 [(0, .ref (G.2.1 1))] [] (t, r) := by
  unfold f_X6_foot at hf
  refine a_aload_n C (i := 0) (q := 1) dX6_foot_0 rfl 0 rfl rfl ?_
  refine a_get6 C (q := 4) dX6_foot_1 6 (by decide) k_46 (by decide) rfl rfl rfl ?_
  refine a_bipush C (v := (12 : Int32)) (q := 6) dX6_foot_4 rfl (by decide) ?_
  refine a_irem C (q := 7) dX6_foot_6 rfl (by decide) ?_
  have hf := Option.some.inj hf; subst hf
  exact (show RetI F G Q cX6_foot 1 .int ((t 1 6) - (t 1 6) / (12 : Int32) * (12 : Int32)) (t, r) from hK) rfl _ _ dX6_foot_7
theorem c_X6_foot (l : Launch) (G : GX) (t : MM) (r : SR)  (res : Int32) (hf : f_X6_foot t = some res) : MetC l G yX6_foot cX6_foot 1 (some .int) 2 (t, r) [.ref (G.2.1 1)] (PostI G res (t, r)) :=
  m_I (by decide) (Nat.le_of_ble_eq_true rfl) (fun F Q C h1 h2 h3 hK => w_X6_foot_e C (Rm.of h1 h3) t r res hf hK)
theorem cw_X6_whoIsAt : CwV RX6 yX6_whoIsAt cX6_whoIsAt 4 1 (some .int) := ⟨k_267, k_265, k_266, k_2, by decide +kernel, by decide⟩
def P_X6_whoIsAt_4 (F : FX) (G : GX) (Q : State → Prop) (r : SR) (t : MM) (v1 : Int32) (v2 : Int32) (v3 : Int32) : Prop := At F G Q 4 4 [(0, .ref (G.2.1 1)), (1, .int v1), (2, .int v2), (3, .int v3)] [] (t, r)
def E_X6_whoIsAt_4 (F : FX) (G : GX) (Q : State → Prop) (r : SR) (t : MM) (v1 : Int32) : Int32 → Prop := fun q => match q with
  | v2 => At F G Q 4 34 [(2, .int v2)] [] (t, r)
def lb_X6_whoIsAt_4 (n : Nat) (t : MM) (v1 : Int32) (v2 : Int32) (v3 : Int32) : Option ((Int32) ⊕ (Int32 × Int32)) :=
  (if (t 1 5) ≤ v3 then some (.inl v2) else ix v3 10 ((if (t 4 v3.toNatClampNeg) = v1 then nm (v2 ||| ((1 : Int32) <<< (v3 &&& 31))) (fun v2_2 => nm (v3 + 1) (fun v3_3 => some (.inr (v2_2, v3_3)))) else nm (v3 + 1) (fun v3_1 => some (.inr (v2, v3_1))))))
set_option maxHeartbeats 4000000 in
theorem w_X6_whoIsAt_4 {F : FX} {G : GX} {Q : State → Prop} (C : Cx F G cX6_whoIsAt 4 RX6) (hR : Rm F 2) (n : Nat) (r : SR) (t : MM) (v1 : Int32)  (v2 : Int32) (v3 : Int32) (res : (Int32) ⊕ (Int32 × Int32)) (hf : lb_X6_whoIsAt_4 n t v1 v2 v3 = some res) (hK : Sum.elim (E_X6_whoIsAt_4 F G Q r t v1) (fun q => match q with | (v2, v3) => P_X6_whoIsAt_4 F G Q r t v1 v2 v3) res) : P_X6_whoIsAt_4 F G Q r t v1 v2 v3 := by
  unfold lb_X6_whoIsAt_4 at hf
  show At F G Q 4 4 [(0, .ref (G.2.1 1)), (1, .int v1), (2, .int v2), (3, .int v3)] [] (t, r)
  refine a_iload_n C (i := 3) (q := 5) dX6_whoIsAt_4 rfl 3 rfl rfl ?_
  refine a_aload_n C (i := 0) (q := 6) dX6_whoIsAt_5 rfl 0 rfl rfl ?_
  refine a_get6 C (q := 9) dX6_whoIsAt_6 5 (by decide) k_44 (by decide) rfl rfl rfl ?_
  refine a_icmp_ge C (tgt := 34) (q := 12) dX6_whoIsAt_9 hf (by decide) rfl (fun hf => ?_) (fun hf => ?_)
  · have hf := Option.some.inj hf; subst hf
    exact a_sub [2] rfl (show At F G Q 4 34 [(2, .int v2)] [] (t, r) from hK)
  · refine a_aload_n C (i := 0) (q := 13) dX6_whoIsAt_12 rfl 0 rfl rfl ?_
    refine a_get6 C (q := 16) dX6_whoIsAt_13 2 (by decide) k_37 (by decide) rfl rfl rfl ?_
    refine a_iload_n C (i := 3) (q := 17) dX6_whoIsAt_16 rfl 3 rfl rfl ?_
    refine a_iald C (q := 18) (g := t 4) dX6_whoIsAt_17 hf (by decide) rfl rfl (fun hf => ?_)
    refine a_iload_n C (i := 1) (q := 19) dX6_whoIsAt_18 rfl 1 rfl rfl ?_
    refine a_icmp_ne C (tgt := 28) (q := 22) dX6_whoIsAt_19 hf (by decide) rfl (fun hf => ?_) (fun hf => ?_)
    · refine a_iincN C (i := 3) (k := 3) (q := 31) (lv' := fun z => [(3, .int z), (0, .ref (G.2.1 1)), (1, .int v1), (2, .int v2)]) dX6_whoIsAt_28 hf rfl rfl (by decide) (fun _ => rfl) rfl (fun v3_1 hf => ?_)
      refine a_goto C (q := 4) dX6_whoIsAt_31 (by decide) ?_
      have hf := Option.some.inj hf; subst hf
      exact a_sub [1, 2, 3, 0] rfl (show At F G Q 4 4 [(0, .ref (G.2.1 1)), (1, .int v1), (2, .int v2), (3, .int v3_1)] [] (t, r) from hK)
    · refine a_iload_n C (i := 2) (q := 23) dX6_whoIsAt_22 rfl 2 rfl rfl ?_
      refine a_iconst C (v := (1 : Int32)) (q := 24) dX6_whoIsAt_23 rfl (by decide) ?_
      refine a_iload_n C (i := 3) (q := 25) dX6_whoIsAt_24 rfl 3 rfl rfl ?_
      refine a_ishl C (q := 26) dX6_whoIsAt_25 rfl ?_
      refine a_ior C (q := 27) dX6_whoIsAt_26 rfl ?_
      refine a_istore_nN C (i := 2) (q := 28) (lv' := fun z => [(2, .int z), (0, .ref (G.2.1 1)), (1, .int v1), (3, .int v3)]) dX6_whoIsAt_27 hf rfl (by decide) (fun _ => rfl) rfl (fun v2_2 hf => ?_)
      refine a_iincN C (i := 3) (k := 3) (q := 31) (lv' := fun z => [(3, .int z), (2, .int v2_2), (0, .ref (G.2.1 1)), (1, .int v1)]) dX6_whoIsAt_28 hf rfl rfl (by decide) (fun _ => rfl) rfl (fun v3_3 hf => ?_)
      refine a_goto C (q := 4) dX6_whoIsAt_31 (by decide) ?_
      have hf := Option.some.inj hf; subst hf
      exact a_sub [2, 3, 1, 0] rfl (show At F G Q 4 4 [(0, .ref (G.2.1 1)), (1, .int v1), (2, .int v2_2), (3, .int v3_3)] [] (t, r) from hK)
theorem lp_X6_whoIsAt_4 {F : FX} {G : GX} {Q : State → Prop} (C : Cx F G cX6_whoIsAt 4 RX6) (hR : Rm F 2) (n : Nat) (r : SR) (t : MM) (v1 : Int32)  (v2 : Int32) (v3 : Int32) (x : Int32) (h : it2 (lb_X6_whoIsAt_4 n t v1) n v2 v3 = some x) (hE : E_X6_whoIsAt_4 F G Q r t v1 x) : At F G Q 4 4 [(0, .ref (G.2.1 1)), (1, .int v1), (2, .int v2), (3, .int v3)] [] (t, r) :=
  it2_ind (b := (lb_X6_whoIsAt_4 n t v1)) (E := E_X6_whoIsAt_4 F G Q r t v1) (P := fun v2 v3 => P_X6_whoIsAt_4 F G Q r t v1 v2 v3) (fun v2 v3 res hf hK => w_X6_whoIsAt_4 C hR n r t v1   v2 v3 res hf hK) n v2 v3 x h hE
def f_X6_whoIsAt (n : Nat) (t : MM) (v1 : Int32) : Option (Int32) :=
  b1 (it2 (lb_X6_whoIsAt_4 n t v1) n (0 : Int32) (0 : Int32)) (fun v2_4 => some v2_4)
set_option maxHeartbeats 4000000 in
theorem w_X6_whoIsAt_e {F : FX} {G : GX} {Q : State → Prop} (C : Cx F G cX6_whoIsAt 4 RX6) (hR : Rm F 2) (n : Nat) (t : MM) (r : SR)  (v1 : Int32) (res : Int32) (hf : f_X6_whoIsAt n t v1 = some res) (hK : RetI F G Q cX6_whoIsAt 4 .int res (t, r)) : At F G Q 4 0 [(0, .ref (G.2.1 1)), (1, .int v1)] [] (t, r) := by
  unfold f_X6_whoIsAt at hf
  refine a_iconst C (v := (0 : Int32)) (q := 1) dX6_whoIsAt_0 rfl (by decide) ?_
  refine a_istore_n C (i := 2) (q := 2) (lv' := [(2, .int (0 : Int32)), (0, .ref (G.2.1 1)), (1, .int v1)]) dX6_whoIsAt_1 rfl (by decide) rfl rfl ?_
  refine a_iconst C (v := (0 : Int32)) (q := 3) dX6_whoIsAt_2 rfl (by decide) ?_
  refine a_istore_n C (i := 3) (q := 4) (lv' := [(3, .int (0 : Int32)), (2, .int (0 : Int32)), (0, .ref (G.2.1 1)), (1, .int v1)]) dX6_whoIsAt_3 rfl (by decide) rfl rfl ?_
  obtain ⟨v2_4, h1, hf⟩ := b1_some hf
  refine a_sub [2, 3, 1, 0] rfl (lp_X6_whoIsAt_4 C hR n r t v1  (0 : Int32) (0 : Int32) _ h1 ?_)
  show At F G Q 4 34 [(2, .int v2_4)] [] (t, r)
  refine a_iload_n C (i := 2) (q := 35) dX6_whoIsAt_34 rfl 0 rfl rfl ?_
  have hf := Option.some.inj hf; subst hf
  exact (show RetI F G Q cX6_whoIsAt 4 .int v2_4 (t, r) from hK) rfl _ _ dX6_whoIsAt_35
theorem c_X6_whoIsAt (l : Launch) (G : GX) (n : Nat) (t : MM) (r : SR) (v1 : Int32) (res : Int32) (hf : f_X6_whoIsAt n t v1 = some res) : MetC l G yX6_whoIsAt cX6_whoIsAt 4 (some .int) 2 (t, r) [.ref (G.2.1 1), .int v1] (PostI G res (t, r)) :=
  m_I (by decide) (Nat.le_of_ble_eq_true rfl) (fun F Q C h1 h2 h3 hK => w_X6_whoIsAt_e C (Rm.of h1 h3) n t r v1 res hf hK)
theorem cw_X6_fitTogether : CwV RX6 yX6_fitTogether cX6_fitTogether 7 1 (some .boolean) := ⟨k_518, k_516, k_517, k_2, by decide +kernel, by decide⟩
def P_X6_fitTogether_13 (F : FX) (G : GX) (Q : State → Prop) (r : SR) (t : MM) (v1 : Int32) (v2 : Int32) (v3 : Int32) (v4 : Int32) (v5 : Int32) (v6 : Int32) : Prop := At F G Q 7 13 [(0, .ref (G.2.1 1)), (1, .int v1), (2, .int v2), (3, .int v3), (4, .int v4), (5, .int v5), (6, .int v6)] [] (t, r)
def E_X6_fitTogether_13 (F : FX) (G : GX) (Q : State → Prop) (r : SR) (t : MM) (v1 : Int32) : Int32 × Int32 × Int32 × Int32 → Prop := fun q => match q with
  | (v2, v3, v4, v5) => At F G Q 7 91 [(2, .int v2), (3, .int v3), (4, .int v4), (5, .int v5)] [] (t, r)
def lb_X6_fitTogether_13 (n : Nat) (t : MM) (v1 : Int32) (v2 : Int32) (v3 : Int32) (v4 : Int32) (v5 : Int32) (v6 : Int32) : Option ((Int32 × Int32 × Int32 × Int32) ⊕ (Int32 × Int32 × Int32 × Int32 × Int32)) :=
  (if (t 1 5) ≤ v6 then some (.inl (v2, v3, v4, v5)) else (if ((v1 >>> (v6 &&& 31)) &&& (1 : Int32)) = 0 then nm (v6 + 1) (fun v6_8 => some (.inr (v2, v3, v4, v5, v6_8))) else ix v6 10 (ix (t 2 v6.toNatClampNeg) 4 (nm (v2 + (tabv 0 (t 2 v6.toNatClampNeg).toNatClampNeg)) (fun v2_1 => ix v6 10 ((if (t 2 v6.toNatClampNeg) = (1 : Int32) then nm (v3 + 1) (fun v3_6 => nm (v6 + 1) (fun v6_7 => some (.inr (v2_1, v3_6, v4, v5, v6_7)))) else ix v6 10 ((if (t 2 v6.toNatClampNeg) = (3 : Int32) then nm (v4 + 1) (fun v4_4 => nm (v6 + 1) (fun v6_5 => some (.inr (v2_1, v3, v4_4, v5, v6_5)))) else nm (v5 + 1) (fun v5_2 => nm (v6 + 1) (fun v6_3 => some (.inr (v2_1, v3, v4, v5_2, v6_3)))))))))))))
set_option maxHeartbeats 4000000 in
theorem w_X6_fitTogether_13 {F : FX} {G : GX} {Q : State → Prop} (C : Cx F G cX6_fitTogether 7 RX6) (hR : Rm F 2) (n : Nat) (r : SR) (t : MM) (v1 : Int32)  (v2 : Int32) (v3 : Int32) (v4 : Int32) (v5 : Int32) (v6 : Int32) (res : (Int32 × Int32 × Int32 × Int32) ⊕ (Int32 × Int32 × Int32 × Int32 × Int32)) (hf : lb_X6_fitTogether_13 n t v1 v2 v3 v4 v5 v6 = some res) (hK : Sum.elim (E_X6_fitTogether_13 F G Q r t v1) (fun q => match q with | (v2, v3, v4, v5, v6) => P_X6_fitTogether_13 F G Q r t v1 v2 v3 v4 v5 v6) res) : P_X6_fitTogether_13 F G Q r t v1 v2 v3 v4 v5 v6 := by
  unfold lb_X6_fitTogether_13 at hf
  show At F G Q 7 13 [(0, .ref (G.2.1 1)), (1, .int v1), (2, .int v2), (3, .int v3), (4, .int v4), (5, .int v5), (6, .int v6)] [] (t, r)
  refine a_iload C (i := 6) (q := 15) dX6_fitTogether_13 rfl 6 rfl ?_
  refine a_aload_n C (i := 0) (q := 16) dX6_fitTogether_15 rfl 0 rfl rfl ?_
  refine a_get6 C (q := 19) dX6_fitTogether_16 5 (by decide) k_44 (by decide) rfl rfl rfl ?_
  refine a_icmp_ge C (tgt := 91) (q := 22) dX6_fitTogether_19 hf (by decide) rfl (fun hf => ?_) (fun hf => ?_)
  · have hf := Option.some.inj hf; subst hf
    exact a_sub [2, 3, 4, 5] rfl (show At F G Q 7 91 [(2, .int v2), (3, .int v3), (4, .int v4), (5, .int v5)] [] (t, r) from hK)
  · refine a_iload_n C (i := 1) (q := 23) dX6_fitTogether_22 rfl 1 rfl rfl ?_
    refine a_iload C (i := 6) (q := 25) dX6_fitTogether_23 rfl 6 rfl ?_
    refine a_ishr C (q := 26) dX6_fitTogether_25 rfl ?_
    refine a_iconst C (v := (1 : Int32)) (q := 27) dX6_fitTogether_26 rfl (by decide) ?_
    refine a_iand C (q := 28) dX6_fitTogether_27 rfl ?_
    refine a_if_ne C (tgt := 34) (q := 31) dX6_fitTogether_28 hf (by decide) rfl (fun hf => ?_) (fun hf => ?_)
    · refine a_iload_n C (i := 2) (q := 35) dX6_fitTogether_34 rfl 2 rfl rfl ?_
      refine a_getsSEATS C (q := 38) dX6_fitTogether_35 k_281 rfl ?_
      refine a_aload_n C (i := 0) (q := 39) dX6_fitTogether_38 rfl 0 rfl rfl ?_
      refine a_get6 C (q := 42) dX6_fitTogether_39 0 (by decide) k_32 (by decide) rfl rfl rfl ?_
      refine a_iload C (i := 6) (q := 44) dX6_fitTogether_42 rfl 6 rfl ?_
      refine a_iald C (q := 45) (g := t 2) dX6_fitTogether_44 hf (by decide) rfl rfl (fun hf => ?_)
      refine a_tldSEATS C (q := 46) dX6_fitTogether_45 hf rfl (fun hf => ?_)
      refine a_iadd C (q := 47) dX6_fitTogether_46 rfl ?_
      refine a_istore_nN C (i := 2) (q := 48) (lv' := fun z => [(2, .int z), (0, .ref (G.2.1 1)), (1, .int v1), (3, .int v3), (4, .int v4), (5, .int v5), (6, .int v6)]) dX6_fitTogether_47 hf rfl (by decide) (fun _ => rfl) rfl (fun v2_1 hf => ?_)
      refine a_aload_n C (i := 0) (q := 49) dX6_fitTogether_48 rfl 1 rfl rfl ?_
      refine a_get6 C (q := 52) dX6_fitTogether_49 0 (by decide) k_32 (by decide) rfl rfl rfl ?_
      refine a_iload C (i := 6) (q := 54) dX6_fitTogether_52 rfl 6 rfl ?_
      refine a_iald C (q := 55) (g := t 2) dX6_fitTogether_54 hf (by decide) rfl rfl (fun hf => ?_)
      refine a_iconst C (v := (1 : Int32)) (q := 56) dX6_fitTogether_55 rfl (by decide) ?_
      refine a_icmp_ne C (tgt := 65) (q := 59) dX6_fitTogether_56 hf (by decide) rfl (fun hf => ?_) (fun hf => ?_)
      · refine a_aload_n C (i := 0) (q := 66) dX6_fitTogether_65 rfl 1 rfl rfl ?_
        refine a_get6 C (q := 69) dX6_fitTogether_66 0 (by decide) k_32 (by decide) rfl rfl rfl ?_
        refine a_iload C (i := 6) (q := 71) dX6_fitTogether_69 rfl 6 rfl ?_
        refine a_iald C (q := 72) (g := t 2) dX6_fitTogether_71 hf (by decide) rfl rfl (fun hf => ?_)
        refine a_iconst C (v := (3 : Int32)) (q := 73) dX6_fitTogether_72 rfl (by decide) ?_
        refine a_icmp_ne C (tgt := 82) (q := 76) dX6_fitTogether_73 hf (by decide) rfl (fun hf => ?_) (fun hf => ?_)
        · refine a_iincN C (i := 5) (k := 5) (q := 85) (lv' := fun z => [(5, .int z), (2, .int v2_1), (0, .ref (G.2.1 1)), (1, .int v1), (3, .int v3), (4, .int v4), (6, .int v6)]) dX6_fitTogether_82 hf rfl rfl (by decide) (fun _ => rfl) rfl (fun v5_2 hf => ?_)
          refine a_iincN C (i := 6) (k := 6) (q := 88) (lv' := fun z => [(6, .int z), (5, .int v5_2), (2, .int v2_1), (0, .ref (G.2.1 1)), (1, .int v1), (3, .int v3), (4, .int v4)]) dX6_fitTogether_85 hf rfl rfl (by decide) (fun _ => rfl) rfl (fun v6_3 hf => ?_)
          refine a_goto C (q := 13) dX6_fitTogether_88 (by decide) ?_
          have hf := Option.some.inj hf; subst hf
          exact a_sub [3, 4, 2, 5, 6, 1, 0] rfl (show At F G Q 7 13 [(0, .ref (G.2.1 1)), (1, .int v1), (2, .int v2_1), (3, .int v3), (4, .int v4), (5, .int v5_2), (6, .int v6_3)] [] (t, r) from hK)
        · refine a_iincN C (i := 4) (k := 4) (q := 79) (lv' := fun z => [(4, .int z), (2, .int v2_1), (0, .ref (G.2.1 1)), (1, .int v1), (3, .int v3), (5, .int v5), (6, .int v6)]) dX6_fitTogether_76 hf rfl rfl (by decide) (fun _ => rfl) rfl (fun v4_4 hf => ?_)
          refine a_goto C (q := 85) dX6_fitTogether_79 (by decide) ?_
          refine a_iincN C (i := 6) (k := 6) (q := 88) (lv' := fun z => [(6, .int z), (4, .int v4_4), (2, .int v2_1), (0, .ref (G.2.1 1)), (1, .int v1), (3, .int v3), (5, .int v5)]) dX6_fitTogether_85 hf rfl rfl (by decide) (fun _ => rfl) rfl (fun v6_5 hf => ?_)
          refine a_goto C (q := 13) dX6_fitTogether_88 (by decide) ?_
          have hf := Option.some.inj hf; subst hf
          exact a_sub [3, 4, 2, 5, 1, 6, 0] rfl (show At F G Q 7 13 [(0, .ref (G.2.1 1)), (1, .int v1), (2, .int v2_1), (3, .int v3), (4, .int v4_4), (5, .int v5), (6, .int v6_5)] [] (t, r) from hK)
      · refine a_iincN C (i := 3) (k := 3) (q := 62) (lv' := fun z => [(3, .int z), (2, .int v2_1), (0, .ref (G.2.1 1)), (1, .int v1), (4, .int v4), (5, .int v5), (6, .int v6)]) dX6_fitTogether_59 hf rfl rfl (by decide) (fun _ => rfl) rfl (fun v3_6 hf => ?_)
        refine a_goto C (q := 85) dX6_fitTogether_62 (by decide) ?_
        refine a_iincN C (i := 6) (k := 6) (q := 88) (lv' := fun z => [(6, .int z), (3, .int v3_6), (2, .int v2_1), (0, .ref (G.2.1 1)), (1, .int v1), (4, .int v4), (5, .int v5)]) dX6_fitTogether_85 hf rfl rfl (by decide) (fun _ => rfl) rfl (fun v6_7 hf => ?_)
        refine a_goto C (q := 13) dX6_fitTogether_88 (by decide) ?_
        have hf := Option.some.inj hf; subst hf
        exact a_sub [3, 4, 2, 1, 5, 6, 0] rfl (show At F G Q 7 13 [(0, .ref (G.2.1 1)), (1, .int v1), (2, .int v2_1), (3, .int v3_6), (4, .int v4), (5, .int v5), (6, .int v6_7)] [] (t, r) from hK)
    · refine a_goto C (q := 85) dX6_fitTogether_31 (by decide) ?_
      refine a_iincN C (i := 6) (k := 6) (q := 88) (lv' := fun z => [(6, .int z), (0, .ref (G.2.1 1)), (1, .int v1), (2, .int v2), (3, .int v3), (4, .int v4), (5, .int v5)]) dX6_fitTogether_85 hf rfl rfl (by decide) (fun _ => rfl) rfl (fun v6_8 hf => ?_)
      refine a_goto C (q := 13) dX6_fitTogether_88 (by decide) ?_
      have hf := Option.some.inj hf; subst hf
      exact a_sub [1, 2, 3, 4, 5, 6, 0] rfl (show At F G Q 7 13 [(0, .ref (G.2.1 1)), (1, .int v1), (2, .int v2), (3, .int v3), (4, .int v4), (5, .int v5), (6, .int v6_8)] [] (t, r) from hK)
theorem lp_X6_fitTogether_13 {F : FX} {G : GX} {Q : State → Prop} (C : Cx F G cX6_fitTogether 7 RX6) (hR : Rm F 2) (n : Nat) (r : SR) (t : MM) (v1 : Int32)  (v2 : Int32) (v3 : Int32) (v4 : Int32) (v5 : Int32) (v6 : Int32) (x : Int32 × Int32 × Int32 × Int32) (h : it5 (lb_X6_fitTogether_13 n t v1) n v2 v3 v4 v5 v6 = some x) (hE : E_X6_fitTogether_13 F G Q r t v1 x) : At F G Q 7 13 [(0, .ref (G.2.1 1)), (1, .int v1), (2, .int v2), (3, .int v3), (4, .int v4), (5, .int v5), (6, .int v6)] [] (t, r) :=
  it5_ind (b := (lb_X6_fitTogether_13 n t v1)) (E := E_X6_fitTogether_13 F G Q r t v1) (P := fun v2 v3 v4 v5 v6 => P_X6_fitTogether_13 F G Q r t v1 v2 v3 v4 v5 v6) (fun v2 v3 v4 v5 v6 res hf hK => w_X6_fitTogether_13 C hR n r t v1   v2 v3 v4 v5 v6 res hf hK) n v2 v3 v4 v5 v6 x h hE
def f_X6_fitTogether_110 (n : Nat) (t : MM) (v2 : Int32) (w0 : Int32) : Option (Int32) :=
  (if w0 = 0 then some (0 : Int32) else (if (3 : Int32) < v2 then some (0 : Int32) else some (1 : Int32)))
set_option maxHeartbeats 4000000 in
theorem w_X6_fitTogether_110 {F : FX} {G : GX} {Q : State → Prop} (C : Cx F G cX6_fitTogether 7 RX6) (hR : Rm F 2) (n : Nat) (t : MM) (r : SR)  (v2 : Int32) (w0 : Int32) (res : Int32) (hf : f_X6_fitTogether_110 n t v2 w0 = some res) (hK : RetI F G Q cX6_fitTogether 7 .boolean res (t, r)) : At F G Q 7 110 [(2, .int v2)] [.int w0] (t, r) := by
  unfold f_X6_fitTogether_110 at hf
  refine a_istore C (i := 6) (q := 112) (lv' := [(6, .int w0), (2, .int v2)]) dX6_fitTogether_110 (by decide) rfl rfl ?_
  refine a_iload C (i := 6) (q := 114) dX6_fitTogether_112 rfl 0 rfl ?_
  refine a_if_eq C (tgt := 126) (q := 117) dX6_fitTogether_114 hf (by decide) rfl (fun hf => ?_) (fun hf => ?_)
  · refine a_iconst C (v := (0 : Int32)) (q := 127) dX6_fitTogether_126 rfl (by decide) ?_
    have hf := Option.some.inj hf; subst hf
    exact (show RetI F G Q cX6_fitTogether 7 .boolean (0 : Int32) (t, r) from hK) rfl _ _ dX6_fitTogether_127
  · refine a_iload_n C (i := 2) (q := 118) dX6_fitTogether_117 rfl 1 rfl rfl ?_
    refine a_iconst C (v := (3 : Int32)) (q := 119) dX6_fitTogether_118 rfl (by decide) ?_
    refine a_icmp_gt C (tgt := 126) (q := 122) dX6_fitTogether_119 hf (by decide) rfl (fun hf => ?_) (fun hf => ?_)
    · refine a_iconst C (v := (0 : Int32)) (q := 127) dX6_fitTogether_126 rfl (by decide) ?_
      have hf := Option.some.inj hf; subst hf
      exact (show RetI F G Q cX6_fitTogether 7 .boolean (0 : Int32) (t, r) from hK) rfl _ _ dX6_fitTogether_127
    · refine a_iconst C (v := (1 : Int32)) (q := 123) dX6_fitTogether_122 rfl (by decide) ?_
      refine a_goto C (q := 127) dX6_fitTogether_123 (by decide) ?_
      have hf := Option.some.inj hf; subst hf
      exact (show RetI F G Q cX6_fitTogether 7 .boolean (1 : Int32) (t, r) from hK) rfl _ _ dX6_fitTogether_127
def f_X6_fitTogether (n : Nat) (t : MM) (v1 : Int32) : Option (Int32) :=
  b4 (it5 (lb_X6_fitTogether_13 n t v1) n (0 : Int32) (0 : Int32) (0 : Int32) (0 : Int32) (0 : Int32)) (fun v2_9 v3_10 v4_11 v5_12 => (if v3_10 = 0 then f_X6_fitTogether_110 n t v2_9 (1 : Int32) else (if v5_12 ≤ 0 then f_X6_fitTogether_110 n t v2_9 (0 : Int32) else (if v4_11 = 0 then f_X6_fitTogether_110 n t v2_9 (1 : Int32) else f_X6_fitTogether_110 n t v2_9 (0 : Int32)))))
set_option maxHeartbeats 4000000 in
theorem w_X6_fitTogether_e {F : FX} {G : GX} {Q : State → Prop} (C : Cx F G cX6_fitTogether 7 RX6) (hR : Rm F 2) (n : Nat) (t : MM) (r : SR)  (v1 : Int32) (res : Int32) (hf : f_X6_fitTogether n t v1 = some res) (hK : RetI F G Q cX6_fitTogether 7 .boolean res (t, r)) : At F G Q 7 0 [(0, .ref (G.2.1 1)), (1, .int v1)] [] (t, r) := by
  unfold f_X6_fitTogether at hf
  refine a_iconst C (v := (0 : Int32)) (q := 1) dX6_fitTogether_0 rfl (by decide) ?_
  refine a_istore_n C (i := 2) (q := 2) (lv' := [(2, .int (0 : Int32)), (0, .ref (G.2.1 1)), (1, .int v1)]) dX6_fitTogether_1 rfl (by decide) rfl rfl ?_
  refine a_iconst C (v := (0 : Int32)) (q := 3) dX6_fitTogether_2 rfl (by decide) ?_
  refine a_istore_n C (i := 3) (q := 4) (lv' := [(3, .int (0 : Int32)), (2, .int (0 : Int32)), (0, .ref (G.2.1 1)), (1, .int v1)]) dX6_fitTogether_3 rfl (by decide) rfl rfl ?_
  refine a_iconst C (v := (0 : Int32)) (q := 5) dX6_fitTogether_4 rfl (by decide) ?_
  refine a_istore C (i := 4) (q := 7) (lv' := [(4, .int (0 : Int32)), (3, .int (0 : Int32)), (2, .int (0 : Int32)), (0, .ref (G.2.1 1)), (1, .int v1)]) dX6_fitTogether_5 (by decide) rfl rfl ?_
  refine a_iconst C (v := (0 : Int32)) (q := 8) dX6_fitTogether_7 rfl (by decide) ?_
  refine a_istore C (i := 5) (q := 10) (lv' := [(5, .int (0 : Int32)), (4, .int (0 : Int32)), (3, .int (0 : Int32)), (2, .int (0 : Int32)), (0, .ref (G.2.1 1)), (1, .int v1)]) dX6_fitTogether_8 (by decide) rfl rfl ?_
  refine a_iconst C (v := (0 : Int32)) (q := 11) dX6_fitTogether_10 rfl (by decide) ?_
  refine a_istore C (i := 6) (q := 13) (lv' := [(6, .int (0 : Int32)), (5, .int (0 : Int32)), (4, .int (0 : Int32)), (3, .int (0 : Int32)), (2, .int (0 : Int32)), (0, .ref (G.2.1 1)), (1, .int v1)]) dX6_fitTogether_11 (by decide) rfl rfl ?_
  obtain ⟨v2_9, v3_10, v4_11, v5_12, h1, hf⟩ := b4_some hf
  refine a_sub [5, 6, 4, 3, 2, 1, 0] rfl (lp_X6_fitTogether_13 C hR n r t v1  (0 : Int32) (0 : Int32) (0 : Int32) (0 : Int32) (0 : Int32) _ h1 ?_)
  show At F G Q 7 91 [(2, .int v2_9), (3, .int v3_10), (4, .int v4_11), (5, .int v5_12)] [] (t, r)
  refine a_iload_n C (i := 3) (q := 92) dX6_fitTogether_91 rfl 1 rfl rfl ?_
  refine a_if_eq C (tgt := 105) (q := 95) dX6_fitTogether_92 hf (by decide) rfl (fun hf => ?_) (fun hf => ?_)
  · refine a_iconst C (v := (1 : Int32)) (q := 106) dX6_fitTogether_105 rfl (by decide) ?_
    refine a_goto C (q := 110) dX6_fitTogether_106 (by decide) ?_
    exact a_sub [0] rfl (w_X6_fitTogether_110 C hR n t r v2_9 (1 : Int32) res hf hK)
  · refine a_iload C (i := 5) (q := 97) dX6_fitTogether_95 rfl 3 rfl ?_
    refine a_if_le C (tgt := 109) (q := 100) dX6_fitTogether_97 hf (by decide) rfl (fun hf => ?_) (fun hf => ?_)
    · refine a_iconst C (v := (0 : Int32)) (q := 110) dX6_fitTogether_109 rfl (by decide) ?_
      exact a_sub [0] rfl (w_X6_fitTogether_110 C hR n t r v2_9 (0 : Int32) res hf hK)
    · refine a_iload C (i := 4) (q := 102) dX6_fitTogether_100 rfl 2 rfl ?_
      refine a_if_ne C (tgt := 109) (q := 105) dX6_fitTogether_102 hf (by decide) rfl (fun hf => ?_) (fun hf => ?_)
      · refine a_iconst C (v := (0 : Int32)) (q := 110) dX6_fitTogether_109 rfl (by decide) ?_
        exact a_sub [0] rfl (w_X6_fitTogether_110 C hR n t r v2_9 (0 : Int32) res hf hK)
      · refine a_iconst C (v := (1 : Int32)) (q := 106) dX6_fitTogether_105 rfl (by decide) ?_
        refine a_goto C (q := 110) dX6_fitTogether_106 (by decide) ?_
        exact a_sub [0] rfl (w_X6_fitTogether_110 C hR n t r v2_9 (1 : Int32) res hf hK)
theorem c_X6_fitTogether (l : Launch) (G : GX) (n : Nat) (t : MM) (r : SR) (v1 : Int32) (res : Int32) (hf : f_X6_fitTogether n t v1 = some res) : MetC l G yX6_fitTogether cX6_fitTogether 7 (some .boolean) 2 (t, r) [.ref (G.2.1 1), .int v1] (PostI G res (t, r)) :=
  m_I (by decide) (Nat.le_of_ble_eq_true rfl) (fun F Q C h1 h2 h3 hK => w_X6_fitTogether_e C (Rm.of h1 h3) n t r v1 res hf hK)
theorem cw_X6_become : CwV RX6 yX6_become cX6_become 2 1 none := ⟨k_706, k_704, k_705, k_2, by decide +kernel, by decide⟩
def f_X6_become (t : MM) (k0 : Nat) (k1 : Nat) : Option (MM) :=
  cpk (0 : Int32) (0 : Int32) (10 : Int32) 10 10 (nm (stA t (k0 + 1) (va_cpy (t (k1 + 1)) (t (k0 + 1)) (0 : Int32).toNatClampNeg (0 : Int32).toNatClampNeg (10 : Int32).toNatClampNeg)) (fun t_1 => cpk (0 : Int32) (0 : Int32) (10 : Int32) 10 10 (nm (stA t_1 (k0 + 2) (va_cpy (t_1 (k1 + 2)) (t_1 (k0 + 2)) (0 : Int32).toNatClampNeg (0 : Int32).toNatClampNeg (10 : Int32).toNatClampNeg)) (fun t_2 => cpk (0 : Int32) (0 : Int32) (10 : Int32) 10 10 (nm (stA t_2 (k0 + 3) (va_cpy (t_2 (k1 + 3)) (t_2 (k0 + 3)) (0 : Int32).toNatClampNeg (0 : Int32).toNatClampNeg (10 : Int32).toNatClampNeg)) (fun t_3 => cpk (0 : Int32) (0 : Int32) (10 : Int32) 10 10 (nm (stA t_3 (k0 + 4) (va_cpy (t_3 (k1 + 4)) (t_3 (k0 + 4)) (0 : Int32).toNatClampNeg (0 : Int32).toNatClampNeg (10 : Int32).toNatClampNeg)) (fun t_4 => cpk (0 : Int32) (0 : Int32) (12 : Int32) 12 12 (nm (stA t_4 (k0 + 5) (va_cpy (t_4 (k1 + 5)) (t_4 (k0 + 5)) (0 : Int32).toNatClampNeg (0 : Int32).toNatClampNeg (12 : Int32).toNatClampNeg)) (fun t_5 => nm (st1 t_5 k0 5 (t_5 k1 5)) (fun t_6 => nm (st1 t_6 k0 6 (t_6 k1 6)) (fun t_7 => nm (st1 t_7 k0 7 (t_7 k1 7)) (fun t_8 => some t_8)))))))))))))
set_option maxHeartbeats 4000000 in
theorem w_X6_become_e {F : FX} {G : GX} {Q : State → Prop} (C : Cx F G cX6_become 2 RX6) (hR : Rm F 2) (t : MM) (r : SR)  (k0 : Nat) (k1 : Nat) (hk0 : isWh k0) (hk1 : isWh k1) (res : MM) (hf : f_X6_become t k0 k1 = some res) (hK : RetV F G Q cX6_become 2 (res, r)) : At F G Q 2 0 [(0, .ref (G.2.1 k0)), (1, .ref (G.2.1 k1))] [] (t, r) := by
  unfold f_X6_become at hf
  refine a_aload_n C (i := 1) (q := 1) dX6_become_0 rfl 1 rfl rfl ?_
  refine a_get6 C (q := 4) dX6_become_1 0 (by decide) k_32 hk1.lt (hk1.at G _ _) rfl rfl ?_
  refine a_iconst C (v := (0 : Int32)) (q := 5) dX6_become_4 rfl (by decide) ?_
  refine a_aload_n C (i := 0) (q := 6) dX6_become_5 rfl 0 rfl rfl ?_
  refine a_get6 C (q := 9) dX6_become_6 0 (by decide) k_32 hk0.lt (hk0.at G _ _) rfl rfl ?_
  refine a_iconst C (v := (0 : Int32)) (q := 10) dX6_become_9 rfl (by decide) ?_
  refine a_bipush C (v := (10 : Int32)) (q := 12) dX6_become_10 rfl (by decide) ?_
  refine a_copyN C (q := 15) (mk := (fun z => (z, r))) dX6_become_12 hR (by decide) hf (Nat.le_of_ble_eq_true rfl) k_707 (hk1.lt5 (by decide)) (hk0.lt5 (by decide)) (hk1.arr (by decide) (by decide) G _ _) (hk0.arr (by decide) (by decide) G _ _) (hk0.arrput (by decide) (by decide) G _ _ _) cellE_C rfl (fun t_1 hf => ?_)
  refine a_aload_n C (i := 1) (q := 16) dX6_become_15 rfl 1 rfl rfl ?_
  refine a_get6 C (q := 19) dX6_become_16 1 (by decide) k_34 hk1.lt (hk1.at G _ _) rfl rfl ?_
  refine a_iconst C (v := (0 : Int32)) (q := 20) dX6_become_19 rfl (by decide) ?_
  refine a_aload_n C (i := 0) (q := 21) dX6_become_20 rfl 0 rfl rfl ?_
  refine a_get6 C (q := 24) dX6_become_21 1 (by decide) k_34 hk0.lt (hk0.at G _ _) rfl rfl ?_
  refine a_iconst C (v := (0 : Int32)) (q := 25) dX6_become_24 rfl (by decide) ?_
  refine a_bipush C (v := (10 : Int32)) (q := 27) dX6_become_25 rfl (by decide) ?_
  refine a_copyN C (q := 30) (mk := (fun z => (z, r))) dX6_become_27 hR (by decide) hf (Nat.le_of_ble_eq_true rfl) k_707 (hk1.lt5 (by decide)) (hk0.lt5 (by decide)) (hk1.arr (by decide) (by decide) G _ _) (hk0.arr (by decide) (by decide) G _ _) (hk0.arrput (by decide) (by decide) G _ _ _) cellE_C rfl (fun t_2 hf => ?_)
  refine a_aload_n C (i := 1) (q := 31) dX6_become_30 rfl 1 rfl rfl ?_
  refine a_get6 C (q := 34) dX6_become_31 2 (by decide) k_37 hk1.lt (hk1.at G _ _) rfl rfl ?_
  refine a_iconst C (v := (0 : Int32)) (q := 35) dX6_become_34 rfl (by decide) ?_
  refine a_aload_n C (i := 0) (q := 36) dX6_become_35 rfl 0 rfl rfl ?_
  refine a_get6 C (q := 39) dX6_become_36 2 (by decide) k_37 hk0.lt (hk0.at G _ _) rfl rfl ?_
  refine a_iconst C (v := (0 : Int32)) (q := 40) dX6_become_39 rfl (by decide) ?_
  refine a_bipush C (v := (10 : Int32)) (q := 42) dX6_become_40 rfl (by decide) ?_
  refine a_copyN C (q := 45) (mk := (fun z => (z, r))) dX6_become_42 hR (by decide) hf (Nat.le_of_ble_eq_true rfl) k_707 (hk1.lt5 (by decide)) (hk0.lt5 (by decide)) (hk1.arr (by decide) (by decide) G _ _) (hk0.arr (by decide) (by decide) G _ _) (hk0.arrput (by decide) (by decide) G _ _ _) cellE_C rfl (fun t_3 hf => ?_)
  refine a_aload_n C (i := 1) (q := 46) dX6_become_45 rfl 1 rfl rfl ?_
  refine a_get6 C (q := 49) dX6_become_46 3 (by decide) k_40 hk1.lt (hk1.at G _ _) rfl rfl ?_
  refine a_iconst C (v := (0 : Int32)) (q := 50) dX6_become_49 rfl (by decide) ?_
  refine a_aload_n C (i := 0) (q := 51) dX6_become_50 rfl 0 rfl rfl ?_
  refine a_get6 C (q := 54) dX6_become_51 3 (by decide) k_40 hk0.lt (hk0.at G _ _) rfl rfl ?_
  refine a_iconst C (v := (0 : Int32)) (q := 55) dX6_become_54 rfl (by decide) ?_
  refine a_bipush C (v := (10 : Int32)) (q := 57) dX6_become_55 rfl (by decide) ?_
  refine a_copyN C (q := 60) (mk := (fun z => (z, r))) dX6_become_57 hR (by decide) hf (Nat.le_of_ble_eq_true rfl) k_707 (hk1.lt5 (by decide)) (hk0.lt5 (by decide)) (hk1.arr (by decide) (by decide) G _ _) (hk0.arr (by decide) (by decide) G _ _) (hk0.arrput (by decide) (by decide) G _ _ _) cellE_C rfl (fun t_4 hf => ?_)
  refine a_aload_n C (i := 1) (q := 61) dX6_become_60 rfl 1 rfl rfl ?_
  refine a_get6 C (q := 64) dX6_become_61 4 (by decide) k_42 hk1.lt (hk1.at G _ _) rfl rfl ?_
  refine a_iconst C (v := (0 : Int32)) (q := 65) dX6_become_64 rfl (by decide) ?_
  refine a_aload_n C (i := 0) (q := 66) dX6_become_65 rfl 0 rfl rfl ?_
  refine a_get6 C (q := 69) dX6_become_66 4 (by decide) k_42 hk0.lt (hk0.at G _ _) rfl rfl ?_
  refine a_iconst C (v := (0 : Int32)) (q := 70) dX6_become_69 rfl (by decide) ?_
  refine a_bipush C (v := (12 : Int32)) (q := 72) dX6_become_70 rfl (by decide) ?_
  refine a_copyN C (q := 75) (mk := (fun z => (z, r))) dX6_become_72 hR (by decide) hf (Nat.le_of_ble_eq_true rfl) k_707 (hk1.lt5 (by decide)) (hk0.lt5 (by decide)) (hk1.sand G _ _) (hk0.sand G _ _) (hk0.sandput G _ _ _) cellE_C rfl (fun t_5 hf => ?_)
  refine a_aload_n C (i := 0) (q := 76) dX6_become_75 rfl 0 rfl rfl ?_
  refine a_aload_n C (i := 1) (q := 77) dX6_become_76 rfl 1 rfl rfl ?_
  refine a_get6 C (q := 80) dX6_become_77 5 (by decide) k_44 hk1.lt (hk1.at G _ _) rfl rfl ?_
  refine a_put6N C (q := 83) (mk := (fun z => (z, r))) dX6_become_80 hf 5 (by decide) k_44 hk0.lt (hk0.at G _ _) (hk0.put (by decide) (by decide) G _ _ _) cellE_C1 rfl rfl rfl (Nat.le_of_ble_eq_true rfl) rfl (fun t_6 hf => ?_)
  refine a_aload_n C (i := 0) (q := 84) dX6_become_83 rfl 0 rfl rfl ?_
  refine a_aload_n C (i := 1) (q := 85) dX6_become_84 rfl 1 rfl rfl ?_
  refine a_get6 C (q := 88) dX6_become_85 6 (by decide) k_46 hk1.lt (hk1.at G _ _) rfl rfl ?_
  refine a_put6N C (q := 91) (mk := (fun z => (z, r))) dX6_become_88 hf 6 (by decide) k_46 hk0.lt (hk0.at G _ _) (hk0.put (by decide) (by decide) G _ _ _) cellE_C1 rfl rfl rfl (Nat.le_of_ble_eq_true rfl) rfl (fun t_7 hf => ?_)
  refine a_aload_n C (i := 0) (q := 92) dX6_become_91 rfl 0 rfl rfl ?_
  refine a_aload_n C (i := 1) (q := 93) dX6_become_92 rfl 1 rfl rfl ?_
  refine a_get6 C (q := 96) dX6_become_93 7 (by decide) k_48 hk1.lt (hk1.at G _ _) rfl rfl ?_
  refine a_put6N C (q := 99) (mk := (fun z => (z, r))) dX6_become_96 hf 7 (by decide) k_48 hk0.lt (hk0.at G _ _) (hk0.put (by decide) (by decide) G _ _ _) cellE_C1 rfl rfl rfl (Nat.le_of_ble_eq_true rfl) rfl (fun t_8 hf => ?_)
  have hf := Option.some.inj hf; subst hf
  exact (show RetV F G Q cX6_become 2 (t_8, r) from hK) _ _ dX6_become_99
theorem c_X6_become (l : Launch) (G : GX) (t : MM) (r : SR) (k0 : Nat) (k1 : Nat) (hk0 : isWh k0) (hk1 : isWh k1) (res : MM) (hf : f_X6_become t k0 k1 = some res) : MetC l G yX6_become cX6_become 2 none 2 (t, r) [.ref (G.2.1 k0), .ref (G.2.1 k1)] (PostV G (res, r)) :=
  m_V (by decide) (Nat.le_of_ble_eq_true rfl) (fun F Q C h1 h2 h3 hK => w_X6_become_e C (Rm.of h1 h3) t r k0 k1 hk0 hk1 res hf hK)
theorem cw_X6_addOne : CwV RX6 yX6_addOne cX6_addOne 3 2 (some .int) := ⟨k_251, k_249, k_250, k_2, by decide +kernel, by decide⟩
def f_X6_addOne (t : MM) (v1 : Int32) (v2 : Int32) : Option (Int32 × MM) :=
  (if (t 1 5) < 0 then some ((-3 : Int32), t) else (if (t 1 5) < (10 : Int32) then ix (t 1 5) 10 (nm (st1 t 2 ((t 1 5).toNatClampNeg) v1) (fun t_1 => ix (t_1 1 5) 10 (nm (st1 t_1 3 ((t_1 1 5).toNatClampNeg) v2) (fun t_2 => ix (t_2 1 5) 10 (nm (st1 t_2 4 ((t_2 1 5).toNatClampNeg) (12 : Int32)) (fun t_3 => ix (t_3 1 5) 10 (nm (st1 t_3 5 ((t_3 1 5).toNatClampNeg) (0 : Int32)) (fun t_4 => nm (st1 t_4 1 5 ((t_4 1 5) + (1 : Int32))) (fun t_5 => some ((t_5 1 5) - (1 : Int32), t_5)))))))))) else some ((-3 : Int32), t)))
set_option maxHeartbeats 4000000 in
theorem w_X6_addOne_e {F : FX} {G : GX} {Q : State → Prop} (C : Cx F G cX6_addOne 3 RX6) (hR : Rm F 2) (t : MM) (r : SR)  (v1 : Int32) (v2 : Int32) (res : Int32 × MM) (hf : f_X6_addOne t v1 v2 = some res) (hK : RetI F G Q cX6_addOne 3 .int res.1 (res.2, r)) : At F G Q 3 0 [(0, .ref (G.2.1 1)), (1, .int v1), (2, .int v2)] [] (t, r) := by
  unfold f_X6_addOne at hf
  refine a_aload_n C (i := 0) (q := 1) dX6_addOne_0 rfl 0 rfl rfl ?_
  refine a_get6 C (q := 4) dX6_addOne_1 5 (by decide) k_44 (by decide) rfl rfl rfl ?_
  refine a_if_lt C (tgt := 16) (q := 7) dX6_addOne_4 hf (by decide) rfl (fun hf => ?_) (fun hf => ?_)
  · refine a_bipush C (v := (-3 : Int32)) (q := 18) dX6_addOne_16 rfl (by decide) ?_
    have hf := Option.some.inj hf; subst hf
    exact (show RetI F G Q cX6_addOne 3 .int (-3 : Int32) (t, r) from hK) rfl _ _ dX6_addOne_18
  · refine a_aload_n C (i := 0) (q := 8) dX6_addOne_7 rfl 0 rfl rfl ?_
    refine a_get6 C (q := 11) dX6_addOne_8 5 (by decide) k_44 (by decide) rfl rfl rfl ?_
    refine a_bipush C (v := (10 : Int32)) (q := 13) dX6_addOne_11 rfl (by decide) ?_
    refine a_icmp_lt C (tgt := 19) (q := 16) dX6_addOne_13 hf (by decide) rfl (fun hf => ?_) (fun hf => ?_)
    · refine a_aload_n C (i := 0) (q := 20) dX6_addOne_19 rfl 0 rfl rfl ?_
      refine a_get6 C (q := 23) dX6_addOne_20 0 (by decide) k_32 (by decide) rfl rfl rfl ?_
      refine a_aload_n C (i := 0) (q := 24) dX6_addOne_23 rfl 0 rfl rfl ?_
      refine a_get6 C (q := 27) dX6_addOne_24 5 (by decide) k_44 (by decide) rfl rfl rfl ?_
      refine a_iload_n C (i := 1) (q := 28) dX6_addOne_27 rfl 1 rfl rfl ?_
      refine a_iastN C (q := 29) (mk := (fun z => (z, r))) dX6_addOne_28 hf (by decide) rfl rfl cellE_C1 rfl (fun t_1 hf => ?_)
      refine a_aload_n C (i := 0) (q := 30) dX6_addOne_29 rfl 0 rfl rfl ?_
      refine a_get6 C (q := 33) dX6_addOne_30 1 (by decide) k_34 (by decide) rfl rfl rfl ?_
      refine a_aload_n C (i := 0) (q := 34) dX6_addOne_33 rfl 0 rfl rfl ?_
      refine a_get6 C (q := 37) dX6_addOne_34 5 (by decide) k_44 (by decide) rfl rfl rfl ?_
      refine a_iload_n C (i := 2) (q := 38) dX6_addOne_37 rfl 2 rfl rfl ?_
      refine a_iastN C (q := 39) (mk := (fun z => (z, r))) dX6_addOne_38 hf (by decide) rfl rfl cellE_C1 rfl (fun t_2 hf => ?_)
      refine a_aload_n C (i := 0) (q := 40) dX6_addOne_39 rfl 0 rfl rfl ?_
      refine a_get6 C (q := 43) dX6_addOne_40 2 (by decide) k_37 (by decide) rfl rfl rfl ?_
      refine a_aload_n C (i := 0) (q := 44) dX6_addOne_43 rfl 0 rfl rfl ?_
      refine a_get6 C (q := 47) dX6_addOne_44 5 (by decide) k_44 (by decide) rfl rfl rfl ?_
      refine a_bipush C (v := (12 : Int32)) (q := 49) dX6_addOne_47 rfl (by decide) ?_
      refine a_iastN C (q := 50) (mk := (fun z => (z, r))) dX6_addOne_49 hf (by decide) rfl rfl cellE_C1 rfl (fun t_3 hf => ?_)
      refine a_aload_n C (i := 0) (q := 51) dX6_addOne_50 rfl 0 rfl rfl ?_
      refine a_get6 C (q := 54) dX6_addOne_51 3 (by decide) k_40 (by decide) rfl rfl rfl ?_
      refine a_aload_n C (i := 0) (q := 55) dX6_addOne_54 rfl 0 rfl rfl ?_
      refine a_get6 C (q := 58) dX6_addOne_55 5 (by decide) k_44 (by decide) rfl rfl rfl ?_
      refine a_iconst C (v := (0 : Int32)) (q := 59) dX6_addOne_58 rfl (by decide) ?_
      refine a_iastN C (q := 60) (mk := (fun z => (z, r))) dX6_addOne_59 hf (by decide) rfl rfl cellE_C1 rfl (fun t_4 hf => ?_)
      refine a_aload_n C (i := 0) (q := 61) dX6_addOne_60 rfl 0 rfl rfl ?_
      refine a_dup C (q := 62) dX6_addOne_61 rfl rfl ?_
      refine a_get6 C (q := 65) dX6_addOne_62 5 (by decide) k_44 (by decide) rfl rfl rfl ?_
      refine a_iconst C (v := (1 : Int32)) (q := 66) dX6_addOne_65 rfl (by decide) ?_
      refine a_iadd C (q := 67) dX6_addOne_66 rfl ?_
      refine a_put6N C (q := 70) (mk := (fun z => (z, r))) dX6_addOne_67 hf 5 (by decide) k_44 (by decide) rfl rfl cellE_C1 rfl rfl rfl (Nat.le_of_ble_eq_true rfl) rfl (fun t_5 hf => ?_)
      refine a_aload_n C (i := 0) (q := 71) dX6_addOne_70 rfl 0 rfl rfl ?_
      refine a_get6 C (q := 74) dX6_addOne_71 5 (by decide) k_44 (by decide) rfl rfl rfl ?_
      refine a_iconst C (v := (1 : Int32)) (q := 75) dX6_addOne_74 rfl (by decide) ?_
      refine a_isub C (q := 76) dX6_addOne_75 rfl ?_
      have hf := Option.some.inj hf; subst hf
      exact (show RetI F G Q cX6_addOne 3 .int ((t_5 1 5) - (1 : Int32)) (t_5, r) from hK) rfl _ _ dX6_addOne_76
    · refine a_bipush C (v := (-3 : Int32)) (q := 18) dX6_addOne_16 rfl (by decide) ?_
      have hf := Option.some.inj hf; subst hf
      exact (show RetI F G Q cX6_addOne 3 .int (-3 : Int32) (t, r) from hK) rfl _ _ dX6_addOne_18
theorem c_X6_addOne (l : Launch) (G : GX) (t : MM) (r : SR) (v1 : Int32) (v2 : Int32) (res : Int32 × MM) (hf : f_X6_addOne t v1 v2 = some res) : MetC l G yX6_addOne cX6_addOne 3 (some .int) 2 (t, r) [.ref (G.2.1 1), .int v1, .int v2] (PostI G res.1 (res.2, r)) :=
  m_I (by decide) (Nat.le_of_ble_eq_true rfl) (fun F Q C h1 h2 h3 hK => w_X6_addOne_e C (Rm.of h1 h3) t r v1 v2 res hf hK)
theorem cw_X6_has : CwV RX6 yX6_has cX6_has 2 1 (some .boolean) := ⟨k_259, k_257, k_258, k_2, by decide +kernel, by decide⟩
def f_X6_has (t : MM) (v1 : Int32) : Option (Int32) :=
  (if v1 < 0 then some (0 : Int32) else (if (t 1 5) ≤ v1 then some (0 : Int32) else some (1 : Int32)))
set_option maxHeartbeats 4000000 in
theorem w_X6_has_e {F : FX} {G : GX} {Q : State → Prop} (C : Cx F G cX6_has 2 RX6) (hR : Rm F 2) (t : MM) (r : SR)  (v1 : Int32) (res : Int32) (hf : f_X6_has t v1 = some res) (hK : RetI F G Q cX6_has 2 .boolean res (t, r)) : At F G Q 2 0 [(0, .ref (G.2.1 1)), (1, .int v1)] [] (t, r) := by
  unfold f_X6_has at hf
  refine a_iload_n C (i := 1) (q := 1) dX6_has_0 rfl 1 rfl rfl ?_
  refine a_if_lt C (tgt := 16) (q := 4) dX6_has_1 hf (by decide) rfl (fun hf => ?_) (fun hf => ?_)
  · refine a_iconst C (v := (0 : Int32)) (q := 17) dX6_has_16 rfl (by decide) ?_
    have hf := Option.some.inj hf; subst hf
    exact (show RetI F G Q cX6_has 2 .boolean (0 : Int32) (t, r) from hK) rfl _ _ dX6_has_17
  · refine a_iload_n C (i := 1) (q := 5) dX6_has_4 rfl 1 rfl rfl ?_
    refine a_aload_n C (i := 0) (q := 6) dX6_has_5 rfl 0 rfl rfl ?_
    refine a_get6 C (q := 9) dX6_has_6 5 (by decide) k_44 (by decide) rfl rfl rfl ?_
    refine a_icmp_ge C (tgt := 16) (q := 12) dX6_has_9 hf (by decide) rfl (fun hf => ?_) (fun hf => ?_)
    · refine a_iconst C (v := (0 : Int32)) (q := 17) dX6_has_16 rfl (by decide) ?_
      have hf := Option.some.inj hf; subst hf
      exact (show RetI F G Q cX6_has 2 .boolean (0 : Int32) (t, r) from hK) rfl _ _ dX6_has_17
    · refine a_iconst C (v := (1 : Int32)) (q := 13) dX6_has_12 rfl (by decide) ?_
      refine a_goto C (q := 17) dX6_has_13 (by decide) ?_
      have hf := Option.some.inj hf; subst hf
      exact (show RetI F G Q cX6_has 2 .boolean (1 : Int32) (t, r) from hK) rfl _ _ dX6_has_17
theorem c_X6_has (l : Launch) (G : GX) (t : MM) (r : SR) (v1 : Int32) (res : Int32) (hf : f_X6_has t v1 = some res) : MetC l G yX6_has cX6_has 2 (some .boolean) 2 (t, r) [.ref (G.2.1 1), .int v1] (PostI G res (t, r)) :=
  m_I (by decide) (Nat.le_of_ble_eq_true rfl) (fun F Q C h1 h2 h3 hK => w_X6_has_e C (Rm.of h1 h3) t r v1 res hf hK)
theorem cw_X6_waits : CwV RX6 yX6_waits cX6_waits 2 1 (some .boolean) := ⟨k_505, k_503, k_504, k_2, by decide +kernel, by decide⟩
def f_X6_waits (t : MM) (v1 : Int32) : Option (Int32) :=
  b1 (f_X6_has t v1) (fun y_1 => (if y_1 = 0 then some (0 : Int32) else ix v1 10 ((if (t 4 v1.toNatClampNeg) = (12 : Int32) then some (1 : Int32) else some (0 : Int32)))))
set_option maxHeartbeats 4000000 in
theorem w_X6_waits_e {F : FX} {G : GX} {Q : State → Prop} (C : Cx F G cX6_waits 2 RX6) (hR : Rm F 3) (t : MM) (r : SR)  (v1 : Int32) (res : Int32) (hf : f_X6_waits t v1 = some res) (hK : RetI F G Q cX6_waits 2 .boolean res (t, r)) : At F G Q 2 0 [(0, .ref (G.2.1 1)), (1, .int v1)] [] (t, r) := by
  unfold f_X6_waits at hf
  refine a_aload_n C (i := 0) (q := 1) dX6_waits_0 rfl 0 rfl rfl ?_
  refine a_iload_n C (i := 1) (q := 2) dX6_waits_1 rfl 1 rfl rfl ?_
  refine a_callVI C (q := 5) (As := [.int v1]) (st := []) dX6_waits_2 hR (by decide) hf (fun b => b) (fun _ => (t, r)) (by decide) rfl rfl cw_X6_has (fun b hb => c_X6_has _ G t r v1 b hb) rfl rfl (Nat.le_of_ble_eq_true rfl) k_506 rfl (fun y_1 hf => ?_)
  refine a_if_eq C (tgt := 23) (q := 8) dX6_waits_5 hf (by decide) rfl (fun hf => ?_) (fun hf => ?_)
  · refine a_iconst C (v := (0 : Int32)) (q := 24) dX6_waits_23 rfl (by decide) ?_
    have hf := Option.some.inj hf; subst hf
    exact (show RetI F G Q cX6_waits 2 .boolean (0 : Int32) (t, r) from hK) rfl _ _ dX6_waits_24
  · refine a_aload_n C (i := 0) (q := 9) dX6_waits_8 rfl 0 rfl rfl ?_
    refine a_get6 C (q := 12) dX6_waits_9 2 (by decide) k_37 (by decide) rfl rfl rfl ?_
    refine a_iload_n C (i := 1) (q := 13) dX6_waits_12 rfl 1 rfl rfl ?_
    refine a_iald C (q := 14) (g := t 4) dX6_waits_13 hf (by decide) rfl rfl (fun hf => ?_)
    refine a_bipush C (v := (12 : Int32)) (q := 16) dX6_waits_14 rfl (by decide) ?_
    refine a_icmp_ne C (tgt := 23) (q := 19) dX6_waits_16 hf (by decide) rfl (fun hf => ?_) (fun hf => ?_)
    · refine a_iconst C (v := (0 : Int32)) (q := 24) dX6_waits_23 rfl (by decide) ?_
      have hf := Option.some.inj hf; subst hf
      exact (show RetI F G Q cX6_waits 2 .boolean (0 : Int32) (t, r) from hK) rfl _ _ dX6_waits_24
    · refine a_iconst C (v := (1 : Int32)) (q := 20) dX6_waits_19 rfl (by decide) ?_
      refine a_goto C (q := 24) dX6_waits_20 (by decide) ?_
      have hf := Option.some.inj hf; subst hf
      exact (show RetI F G Q cX6_waits 2 .boolean (1 : Int32) (t, r) from hK) rfl _ _ dX6_waits_24
theorem c_X6_waits (l : Launch) (G : GX) (t : MM) (r : SR) (v1 : Int32) (res : Int32) (hf : f_X6_waits t v1 = some res) : MetC l G yX6_waits cX6_waits 2 (some .boolean) 3 (t, r) [.ref (G.2.1 1), .int v1] (PostI G res (t, r)) :=
  m_I (by decide) (Nat.le_of_ble_eq_true rfl) (fun F Q C h1 h2 h3 hK => w_X6_waits_e C (Rm.of h1 h3) t r v1 res hf hK)
theorem cw_X6_ridesAtFoot : CwV RX6 yX6_ridesAtFoot cX6_ridesAtFoot 2 1 (some .boolean) := ⟨k_533, k_531, k_532, k_2, by decide +kernel, by decide⟩
def f_X6_ridesAtFoot (t : MM) (v1 : Int32) : Option (Int32) :=
  b1 (f_X6_has t v1) (fun y_1 => (if y_1 = 0 then some (0 : Int32) else ix v1 10 (b1 (f_X6_foot t) (fun y_2 => (if (t 4 v1.toNatClampNeg) = y_2 then some (1 : Int32) else some (0 : Int32))))))
set_option maxHeartbeats 4000000 in
theorem w_X6_ridesAtFoot_e {F : FX} {G : GX} {Q : State → Prop} (C : Cx F G cX6_ridesAtFoot 2 RX6) (hR : Rm F 3) (t : MM) (r : SR)  (v1 : Int32) (res : Int32) (hf : f_X6_ridesAtFoot t v1 = some res) (hK : RetI F G Q cX6_ridesAtFoot 2 .boolean res (t, r)) : At F G Q 2 0 [(0, .ref (G.2.1 1)), (1, .int v1)] [] (t, r) := by
  unfold f_X6_ridesAtFoot at hf
  refine a_aload_n C (i := 0) (q := 1) dX6_ridesAtFoot_0 rfl 0 rfl rfl ?_
  refine a_iload_n C (i := 1) (q := 2) dX6_ridesAtFoot_1 rfl 1 rfl rfl ?_
  refine a_callVI C (q := 5) (As := [.int v1]) (st := []) dX6_ridesAtFoot_2 hR (by decide) hf (fun b => b) (fun _ => (t, r)) (by decide) rfl rfl cw_X6_has (fun b hb => c_X6_has _ G t r v1 b hb) rfl rfl (Nat.le_of_ble_eq_true rfl) k_506 rfl (fun y_1 hf => ?_)
  refine a_if_eq C (tgt := 25) (q := 8) dX6_ridesAtFoot_5 hf (by decide) rfl (fun hf => ?_) (fun hf => ?_)
  · refine a_iconst C (v := (0 : Int32)) (q := 26) dX6_ridesAtFoot_25 rfl (by decide) ?_
    have hf := Option.some.inj hf; subst hf
    exact (show RetI F G Q cX6_ridesAtFoot 2 .boolean (0 : Int32) (t, r) from hK) rfl _ _ dX6_ridesAtFoot_26
  · refine a_aload_n C (i := 0) (q := 9) dX6_ridesAtFoot_8 rfl 0 rfl rfl ?_
    refine a_get6 C (q := 12) dX6_ridesAtFoot_9 2 (by decide) k_37 (by decide) rfl rfl rfl ?_
    refine a_iload_n C (i := 1) (q := 13) dX6_ridesAtFoot_12 rfl 1 rfl rfl ?_
    refine a_iald C (q := 14) (g := t 4) dX6_ridesAtFoot_13 hf (by decide) rfl rfl (fun hf => ?_)
    refine a_aload_n C (i := 0) (q := 15) dX6_ridesAtFoot_14 rfl 0 rfl rfl ?_
    refine a_callVI C (q := 18) (As := []) (st := [.int (t 4 v1.toNatClampNeg)]) dX6_ridesAtFoot_15 hR (by decide) hf (fun b => b) (fun _ => (t, r)) (by decide) rfl rfl cw_X6_foot (fun b hb => c_X6_foot _ G t r b hb) rfl rfl (Nat.le_of_ble_eq_true rfl) k_511 rfl (fun y_2 hf => ?_)
    refine a_icmp_ne C (tgt := 25) (q := 21) dX6_ridesAtFoot_18 hf (by decide) rfl (fun hf => ?_) (fun hf => ?_)
    · refine a_iconst C (v := (0 : Int32)) (q := 26) dX6_ridesAtFoot_25 rfl (by decide) ?_
      have hf := Option.some.inj hf; subst hf
      exact (show RetI F G Q cX6_ridesAtFoot 2 .boolean (0 : Int32) (t, r) from hK) rfl _ _ dX6_ridesAtFoot_26
    · refine a_iconst C (v := (1 : Int32)) (q := 22) dX6_ridesAtFoot_21 rfl (by decide) ?_
      refine a_goto C (q := 26) dX6_ridesAtFoot_22 (by decide) ?_
      have hf := Option.some.inj hf; subst hf
      exact (show RetI F G Q cX6_ridesAtFoot 2 .boolean (1 : Int32) (t, r) from hK) rfl _ _ dX6_ridesAtFoot_26
theorem c_X6_ridesAtFoot (l : Launch) (G : GX) (t : MM) (r : SR) (v1 : Int32) (res : Int32) (hf : f_X6_ridesAtFoot t v1 = some res) : MetC l G yX6_ridesAtFoot cX6_ridesAtFoot 2 (some .boolean) 3 (t, r) [.ref (G.2.1 1), .int v1] (PostI G res (t, r)) :=
  m_I (by decide) (Nat.le_of_ble_eq_true rfl) (fun F Q C h1 h2 h3 hK => w_X6_ridesAtFoot_e C (Rm.of h1 h3) t r v1 res hf hK)
theorem cw_X6_weightOf : CwV RX6 yX6_weightOf cX6_weightOf 4 1 (some .int) := ⟨k_276, k_274, k_275, k_2, by decide +kernel, by decide⟩
def P_X6_weightOf_4 (F : FX) (G : GX) (Q : State → Prop) (r : SR) (t : MM) (v1 : Int32) (v2 : Int32) (v3 : Int32) : Prop := At F G Q 4 4 [(0, .ref (G.2.1 1)), (1, .int v1), (2, .int v2), (3, .int v3)] [] (t, r)
def E_X6_weightOf_4 (F : FX) (G : GX) (Q : State → Prop) (r : SR) (t : MM) (v1 : Int32) : Int32 → Prop := fun q => match q with
  | v2 => At F G Q 4 35 [(2, .int v2)] [] (t, r)
def lb_X6_weightOf_4 (n : Nat) (t : MM) (v1 : Int32) (v2 : Int32) (v3 : Int32) : Option ((Int32) ⊕ (Int32 × Int32)) :=
  (if (t 1 5) ≤ v3 then some (.inl v2) else (if ((v1 >>> (v3 &&& 31)) &&& (1 : Int32)) = 0 then nm (v3 + 1) (fun v3_1 => some (.inr (v2, v3_1))) else ix v3 10 (nm (v2 + (t 3 v3.toNatClampNeg)) (fun v2_2 => nm (v3 + 1) (fun v3_3 => some (.inr (v2_2, v3_3)))))))
set_option maxHeartbeats 4000000 in
theorem w_X6_weightOf_4 {F : FX} {G : GX} {Q : State → Prop} (C : Cx F G cX6_weightOf 4 RX6) (hR : Rm F 2) (n : Nat) (r : SR) (t : MM) (v1 : Int32)  (v2 : Int32) (v3 : Int32) (res : (Int32) ⊕ (Int32 × Int32)) (hf : lb_X6_weightOf_4 n t v1 v2 v3 = some res) (hK : Sum.elim (E_X6_weightOf_4 F G Q r t v1) (fun q => match q with | (v2, v3) => P_X6_weightOf_4 F G Q r t v1 v2 v3) res) : P_X6_weightOf_4 F G Q r t v1 v2 v3 := by
  unfold lb_X6_weightOf_4 at hf
  show At F G Q 4 4 [(0, .ref (G.2.1 1)), (1, .int v1), (2, .int v2), (3, .int v3)] [] (t, r)
  refine a_iload_n C (i := 3) (q := 5) dX6_weightOf_4 rfl 3 rfl rfl ?_
  refine a_aload_n C (i := 0) (q := 6) dX6_weightOf_5 rfl 0 rfl rfl ?_
  refine a_get6 C (q := 9) dX6_weightOf_6 5 (by decide) k_44 (by decide) rfl rfl rfl ?_
  refine a_icmp_ge C (tgt := 35) (q := 12) dX6_weightOf_9 hf (by decide) rfl (fun hf => ?_) (fun hf => ?_)
  · have hf := Option.some.inj hf; subst hf
    exact a_sub [2] rfl (show At F G Q 4 35 [(2, .int v2)] [] (t, r) from hK)
  · refine a_iload_n C (i := 1) (q := 13) dX6_weightOf_12 rfl 1 rfl rfl ?_
    refine a_iload_n C (i := 3) (q := 14) dX6_weightOf_13 rfl 3 rfl rfl ?_
    refine a_ishr C (q := 15) dX6_weightOf_14 rfl ?_
    refine a_iconst C (v := (1 : Int32)) (q := 16) dX6_weightOf_15 rfl (by decide) ?_
    refine a_iand C (q := 17) dX6_weightOf_16 rfl ?_
    refine a_if_eq C (tgt := 29) (q := 20) dX6_weightOf_17 hf (by decide) rfl (fun hf => ?_) (fun hf => ?_)
    · refine a_iincN C (i := 3) (k := 3) (q := 32) (lv' := fun z => [(3, .int z), (0, .ref (G.2.1 1)), (1, .int v1), (2, .int v2)]) dX6_weightOf_29 hf rfl rfl (by decide) (fun _ => rfl) rfl (fun v3_1 hf => ?_)
      refine a_goto C (q := 4) dX6_weightOf_32 (by decide) ?_
      have hf := Option.some.inj hf; subst hf
      exact a_sub [1, 2, 3, 0] rfl (show At F G Q 4 4 [(0, .ref (G.2.1 1)), (1, .int v1), (2, .int v2), (3, .int v3_1)] [] (t, r) from hK)
    · refine a_iload_n C (i := 2) (q := 21) dX6_weightOf_20 rfl 2 rfl rfl ?_
      refine a_aload_n C (i := 0) (q := 22) dX6_weightOf_21 rfl 0 rfl rfl ?_
      refine a_get6 C (q := 25) dX6_weightOf_22 1 (by decide) k_34 (by decide) rfl rfl rfl ?_
      refine a_iload_n C (i := 3) (q := 26) dX6_weightOf_25 rfl 3 rfl rfl ?_
      refine a_iald C (q := 27) (g := t 3) dX6_weightOf_26 hf (by decide) rfl rfl (fun hf => ?_)
      refine a_iadd C (q := 28) dX6_weightOf_27 rfl ?_
      refine a_istore_nN C (i := 2) (q := 29) (lv' := fun z => [(2, .int z), (0, .ref (G.2.1 1)), (1, .int v1), (3, .int v3)]) dX6_weightOf_28 hf rfl (by decide) (fun _ => rfl) rfl (fun v2_2 hf => ?_)
      refine a_iincN C (i := 3) (k := 3) (q := 32) (lv' := fun z => [(3, .int z), (2, .int v2_2), (0, .ref (G.2.1 1)), (1, .int v1)]) dX6_weightOf_29 hf rfl rfl (by decide) (fun _ => rfl) rfl (fun v3_3 hf => ?_)
      refine a_goto C (q := 4) dX6_weightOf_32 (by decide) ?_
      have hf := Option.some.inj hf; subst hf
      exact a_sub [2, 3, 1, 0] rfl (show At F G Q 4 4 [(0, .ref (G.2.1 1)), (1, .int v1), (2, .int v2_2), (3, .int v3_3)] [] (t, r) from hK)
theorem lp_X6_weightOf_4 {F : FX} {G : GX} {Q : State → Prop} (C : Cx F G cX6_weightOf 4 RX6) (hR : Rm F 2) (n : Nat) (r : SR) (t : MM) (v1 : Int32)  (v2 : Int32) (v3 : Int32) (x : Int32) (h : it2 (lb_X6_weightOf_4 n t v1) n v2 v3 = some x) (hE : E_X6_weightOf_4 F G Q r t v1 x) : At F G Q 4 4 [(0, .ref (G.2.1 1)), (1, .int v1), (2, .int v2), (3, .int v3)] [] (t, r) :=
  it2_ind (b := (lb_X6_weightOf_4 n t v1)) (E := E_X6_weightOf_4 F G Q r t v1) (P := fun v2 v3 => P_X6_weightOf_4 F G Q r t v1 v2 v3) (fun v2 v3 res hf hK => w_X6_weightOf_4 C hR n r t v1   v2 v3 res hf hK) n v2 v3 x h hE
def f_X6_weightOf (n : Nat) (t : MM) (v1 : Int32) : Option (Int32) :=
  b1 (it2 (lb_X6_weightOf_4 n t v1) n (0 : Int32) (0 : Int32)) (fun v2_4 => some v2_4)
set_option maxHeartbeats 4000000 in
theorem w_X6_weightOf_e {F : FX} {G : GX} {Q : State → Prop} (C : Cx F G cX6_weightOf 4 RX6) (hR : Rm F 2) (n : Nat) (t : MM) (r : SR)  (v1 : Int32) (res : Int32) (hf : f_X6_weightOf n t v1 = some res) (hK : RetI F G Q cX6_weightOf 4 .int res (t, r)) : At F G Q 4 0 [(0, .ref (G.2.1 1)), (1, .int v1)] [] (t, r) := by
  unfold f_X6_weightOf at hf
  refine a_iconst C (v := (0 : Int32)) (q := 1) dX6_weightOf_0 rfl (by decide) ?_
  refine a_istore_n C (i := 2) (q := 2) (lv' := [(2, .int (0 : Int32)), (0, .ref (G.2.1 1)), (1, .int v1)]) dX6_weightOf_1 rfl (by decide) rfl rfl ?_
  refine a_iconst C (v := (0 : Int32)) (q := 3) dX6_weightOf_2 rfl (by decide) ?_
  refine a_istore_n C (i := 3) (q := 4) (lv' := [(3, .int (0 : Int32)), (2, .int (0 : Int32)), (0, .ref (G.2.1 1)), (1, .int v1)]) dX6_weightOf_3 rfl (by decide) rfl rfl ?_
  obtain ⟨v2_4, h1, hf⟩ := b1_some hf
  refine a_sub [2, 3, 1, 0] rfl (lp_X6_weightOf_4 C hR n r t v1  (0 : Int32) (0 : Int32) _ h1 ?_)
  show At F G Q 4 35 [(2, .int v2_4)] [] (t, r)
  refine a_iload_n C (i := 2) (q := 36) dX6_weightOf_35 rfl 0 rfl rfl ?_
  have hf := Option.some.inj hf; subst hf
  exact (show RetI F G Q cX6_weightOf 4 .int v2_4 (t, r) from hK) rfl _ _ dX6_weightOf_36
theorem c_X6_weightOf (l : Launch) (G : GX) (n : Nat) (t : MM) (r : SR) (v1 : Int32) (res : Int32) (hf : f_X6_weightOf n t v1 = some res) : MetC l G yX6_weightOf cX6_weightOf 4 (some .int) 2 (t, r) [.ref (G.2.1 1), .int v1] (PostI G res (t, r)) :=
  m_I (by decide) (Nat.le_of_ble_eq_true rfl) (fun F Q C h1 h2 h3 hK => w_X6_weightOf_e C (Rm.of h1 h3) n t r v1 res hf hK)
theorem cw_X6_loadOf : CwV RX6 yX6_loadOf cX6_loadOf 2 1 (some .int) := ⟨k_271, k_269, k_270, k_2, by decide +kernel, by decide⟩
def f_X6_loadOf (n : Nat) (t : MM) (v1 : Int32) : Option (Int32) :=
  ix v1 12 (b1 (f_X6_whoIsAt n t v1) (fun y_1 => b1 (f_X6_weightOf n t y_1) (fun y_2 => some ((t 6 v1.toNatClampNeg) + y_2))))
set_option maxHeartbeats 4000000 in
theorem w_X6_loadOf_e {F : FX} {G : GX} {Q : State → Prop} (C : Cx F G cX6_loadOf 2 RX6) (hR : Rm F 3) (n : Nat) (t : MM) (r : SR)  (v1 : Int32) (res : Int32) (hf : f_X6_loadOf n t v1 = some res) (hK : RetI F G Q cX6_loadOf 2 .int res (t, r)) : At F G Q 2 0 [(0, .ref (G.2.1 1)), (1, .int v1)] [] (t, r) := by
  unfold f_X6_loadOf at hf
  refine a_aload_n C (i := 0) (q := 1) dX6_loadOf_0 rfl 0 rfl rfl ?_
  refine a_get6 C (q := 4) dX6_loadOf_1 4 (by decide) k_42 (by decide) rfl rfl rfl ?_
  refine a_iload_n C (i := 1) (q := 5) dX6_loadOf_4 rfl 1 rfl rfl ?_
  refine a_iald C (q := 6) (g := t 6) dX6_loadOf_5 hf (by decide) rfl rfl (fun hf => ?_)
  refine a_aload_n C (i := 0) (q := 7) dX6_loadOf_6 rfl 0 rfl rfl ?_
  refine a_aload_n C (i := 0) (q := 8) dX6_loadOf_7 rfl 0 rfl rfl ?_
  refine a_iload_n C (i := 1) (q := 9) dX6_loadOf_8 rfl 1 rfl rfl ?_
  refine a_callVI C (q := 12) (As := [.int v1]) (st := [.ref (G.2.1 1), .int (t 6 v1.toNatClampNeg)]) dX6_loadOf_9 hR (by decide) hf (fun b => b) (fun _ => (t, r)) (by decide) rfl rfl cw_X6_whoIsAt (fun b hb => c_X6_whoIsAt _ G n t r v1 b hb) rfl rfl (Nat.le_of_ble_eq_true rfl) k_272 rfl (fun y_1 hf => ?_)
  refine a_callVI C (q := 15) (As := [.int y_1]) (st := [.int (t 6 v1.toNatClampNeg)]) dX6_loadOf_12 hR (by decide) hf (fun b => b) (fun _ => (t, r)) (by decide) rfl rfl cw_X6_weightOf (fun b hb => c_X6_weightOf _ G n t r y_1 b hb) rfl rfl (Nat.le_of_ble_eq_true rfl) k_273 rfl (fun y_2 hf => ?_)
  refine a_iadd C (q := 16) dX6_loadOf_15 rfl ?_
  have hf := Option.some.inj hf; subst hf
  exact (show RetI F G Q cX6_loadOf 2 .int ((t 6 v1.toNatClampNeg) + y_2) (t, r) from hK) rfl _ _ dX6_loadOf_16
theorem c_X6_loadOf (l : Launch) (G : GX) (n : Nat) (t : MM) (r : SR) (v1 : Int32) (res : Int32) (hf : f_X6_loadOf n t v1 = some res) : MetC l G yX6_loadOf cX6_loadOf 2 (some .int) 3 (t, r) [.ref (G.2.1 1), .int v1] (PostI G res (t, r)) :=
  m_I (by decide) (Nat.le_of_ble_eq_true rfl) (fun F Q C h1 h2 h3 hK => w_X6_loadOf_e C (Rm.of h1 h3) n t r v1 res hf hK)
theorem cw_X6_sandTogether : CwV RX6 yX6_sandTogether cX6_sandTogether 3 0 (some .int) := ⟨k_562, k_560, k_561, k_2, by decide +kernel, by decide⟩
def P_X6_sandTogether_4 (F : FX) (G : GX) (Q : State → Prop) (r : SR) (t : MM) (v1 : Int32) (v2 : Int32) : Prop := At F G Q 3 4 [(0, .ref (G.2.1 1)), (1, .int v1), (2, .int v2)] [] (t, r)
def E_X6_sandTogether_4 (F : FX) (G : GX) (Q : State → Prop) (r : SR) (t : MM) : Int32 → Prop := fun q => match q with
  | v1 => At F G Q 3 25 [(1, .int v1)] [] (t, r)
def lb_X6_sandTogether_4 (n : Nat) (t : MM) (v1 : Int32) (v2 : Int32) : Option ((Int32) ⊕ (Int32 × Int32)) :=
  (if (12 : Int32) ≤ v2 then some (.inl v1) else ix v2 12 (nm (v1 + (t 6 v2.toNatClampNeg)) (fun v1_1 => nm (v2 + 1) (fun v2_2 => some (.inr (v1_1, v2_2))))))
set_option maxHeartbeats 4000000 in
theorem w_X6_sandTogether_4 {F : FX} {G : GX} {Q : State → Prop} (C : Cx F G cX6_sandTogether 3 RX6) (hR : Rm F 2) (n : Nat) (r : SR) (t : MM)  (v1 : Int32) (v2 : Int32) (res : (Int32) ⊕ (Int32 × Int32)) (hf : lb_X6_sandTogether_4 n t v1 v2 = some res) (hK : Sum.elim (E_X6_sandTogether_4 F G Q r t) (fun q => match q with | (v1, v2) => P_X6_sandTogether_4 F G Q r t v1 v2) res) : P_X6_sandTogether_4 F G Q r t v1 v2 := by
  unfold lb_X6_sandTogether_4 at hf
  show At F G Q 3 4 [(0, .ref (G.2.1 1)), (1, .int v1), (2, .int v2)] [] (t, r)
  refine a_iload_n C (i := 2) (q := 5) dX6_sandTogether_4 rfl 2 rfl rfl ?_
  refine a_bipush C (v := (12 : Int32)) (q := 7) dX6_sandTogether_5 rfl (by decide) ?_
  refine a_icmp_ge C (tgt := 25) (q := 10) dX6_sandTogether_7 hf (by decide) rfl (fun hf => ?_) (fun hf => ?_)
  · have hf := Option.some.inj hf; subst hf
    exact a_sub [1] rfl (show At F G Q 3 25 [(1, .int v1)] [] (t, r) from hK)
  · refine a_iload_n C (i := 1) (q := 11) dX6_sandTogether_10 rfl 1 rfl rfl ?_
    refine a_aload_n C (i := 0) (q := 12) dX6_sandTogether_11 rfl 0 rfl rfl ?_
    refine a_get6 C (q := 15) dX6_sandTogether_12 4 (by decide) k_42 (by decide) rfl rfl rfl ?_
    refine a_iload_n C (i := 2) (q := 16) dX6_sandTogether_15 rfl 2 rfl rfl ?_
    refine a_iald C (q := 17) (g := t 6) dX6_sandTogether_16 hf (by decide) rfl rfl (fun hf => ?_)
    refine a_iadd C (q := 18) dX6_sandTogether_17 rfl ?_
    refine a_istore_nN C (i := 1) (q := 19) (lv' := fun z => [(1, .int z), (0, .ref (G.2.1 1)), (2, .int v2)]) dX6_sandTogether_18 hf rfl (by decide) (fun _ => rfl) rfl (fun v1_1 hf => ?_)
    refine a_iincN C (i := 2) (k := 2) (q := 22) (lv' := fun z => [(2, .int z), (1, .int v1_1), (0, .ref (G.2.1 1))]) dX6_sandTogether_19 hf rfl rfl (by decide) (fun _ => rfl) rfl (fun v2_2 hf => ?_)
    refine a_goto C (q := 4) dX6_sandTogether_22 (by decide) ?_
    have hf := Option.some.inj hf; subst hf
    exact a_sub [2, 1, 0] rfl (show At F G Q 3 4 [(0, .ref (G.2.1 1)), (1, .int v1_1), (2, .int v2_2)] [] (t, r) from hK)
theorem lp_X6_sandTogether_4 {F : FX} {G : GX} {Q : State → Prop} (C : Cx F G cX6_sandTogether 3 RX6) (hR : Rm F 2) (n : Nat) (r : SR) (t : MM)  (v1 : Int32) (v2 : Int32) (x : Int32) (h : it2 (lb_X6_sandTogether_4 n t) n v1 v2 = some x) (hE : E_X6_sandTogether_4 F G Q r t x) : At F G Q 3 4 [(0, .ref (G.2.1 1)), (1, .int v1), (2, .int v2)] [] (t, r) :=
  it2_ind (b := (lb_X6_sandTogether_4 n t)) (E := E_X6_sandTogether_4 F G Q r t) (P := fun v1 v2 => P_X6_sandTogether_4 F G Q r t v1 v2) (fun v1 v2 res hf hK => w_X6_sandTogether_4 C hR n r t   v1 v2 res hf hK) n v1 v2 x h hE
def f_X6_sandTogether (n : Nat) (t : MM) : Option (Int32) :=
  b1 (it2 (lb_X6_sandTogether_4 n t) n (0 : Int32) (0 : Int32)) (fun v1_3 => some v1_3)
set_option maxHeartbeats 4000000 in
theorem w_X6_sandTogether_e {F : FX} {G : GX} {Q : State → Prop} (C : Cx F G cX6_sandTogether 3 RX6) (hR : Rm F 2) (n : Nat) (t : MM) (r : SR)   (res : Int32) (hf : f_X6_sandTogether n t = some res) (hK : RetI F G Q cX6_sandTogether 3 .int res (t, r)) : At F G Q 3 0 [(0, .ref (G.2.1 1))] [] (t, r) := by
  unfold f_X6_sandTogether at hf
  refine a_iconst C (v := (0 : Int32)) (q := 1) dX6_sandTogether_0 rfl (by decide) ?_
  refine a_istore_n C (i := 1) (q := 2) (lv' := [(1, .int (0 : Int32)), (0, .ref (G.2.1 1))]) dX6_sandTogether_1 rfl (by decide) rfl rfl ?_
  refine a_iconst C (v := (0 : Int32)) (q := 3) dX6_sandTogether_2 rfl (by decide) ?_
  refine a_istore_n C (i := 2) (q := 4) (lv' := [(2, .int (0 : Int32)), (1, .int (0 : Int32)), (0, .ref (G.2.1 1))]) dX6_sandTogether_3 rfl (by decide) rfl rfl ?_
  obtain ⟨v1_3, h1, hf⟩ := b1_some hf
  refine a_sub [2, 1, 0] rfl (lp_X6_sandTogether_4 C hR n r t  (0 : Int32) (0 : Int32) _ h1 ?_)
  show At F G Q 3 25 [(1, .int v1_3)] [] (t, r)
  refine a_iload_n C (i := 1) (q := 26) dX6_sandTogether_25 rfl 0 rfl rfl ?_
  have hf := Option.some.inj hf; subst hf
  exact (show RetI F G Q cX6_sandTogether 3 .int v1_3 (t, r) from hK) rfl _ _ dX6_sandTogether_26
theorem c_X6_sandTogether (l : Launch) (G : GX) (n : Nat) (t : MM) (r : SR)  (res : Int32) (hf : f_X6_sandTogether n t = some res) : MetC l G yX6_sandTogether cX6_sandTogether 3 (some .int) 2 (t, r) [.ref (G.2.1 1)] (PostI G res (t, r)) :=
  m_I (by decide) (Nat.le_of_ble_eq_true rfl) (fun F Q C h1 h2 h3 hK => w_X6_sandTogether_e C (Rm.of h1 h3) n t r res hf hK)
theorem cw_X6_seatsOf : CwV RX6 yX6_seatsOf cX6_seatsOf 4 1 (some .int) := ⟨k_280, k_278, k_279, k_2, by decide +kernel, by decide⟩
def P_X6_seatsOf_4 (F : FX) (G : GX) (Q : State → Prop) (r : SR) (t : MM) (v1 : Int32) (v2 : Int32) (v3 : Int32) : Prop := At F G Q 4 4 [(0, .ref (G.2.1 1)), (1, .int v1), (2, .int v2), (3, .int v3)] [] (t, r)
def E_X6_seatsOf_4 (F : FX) (G : GX) (Q : State → Prop) (r : SR) (t : MM) (v1 : Int32) : Int32 → Prop := fun q => match q with
  | v2 => At F G Q 4 39 [(2, .int v2)] [] (t, r)
def lb_X6_seatsOf_4 (n : Nat) (t : MM) (v1 : Int32) (v2 : Int32) (v3 : Int32) : Option ((Int32) ⊕ (Int32 × Int32)) :=
  (if (t 1 5) ≤ v3 then some (.inl v2) else (if ((v1 >>> (v3 &&& 31)) &&& (1 : Int32)) = 0 then nm (v3 + 1) (fun v3_1 => some (.inr (v2, v3_1))) else ix v3 10 (ix (t 2 v3.toNatClampNeg) 4 (nm (v2 + (tabv 0 (t 2 v3.toNatClampNeg).toNatClampNeg)) (fun v2_2 => nm (v3 + 1) (fun v3_3 => some (.inr (v2_2, v3_3))))))))
set_option maxHeartbeats 4000000 in
theorem w_X6_seatsOf_4 {F : FX} {G : GX} {Q : State → Prop} (C : Cx F G cX6_seatsOf 4 RX6) (hR : Rm F 2) (n : Nat) (r : SR) (t : MM) (v1 : Int32)  (v2 : Int32) (v3 : Int32) (res : (Int32) ⊕ (Int32 × Int32)) (hf : lb_X6_seatsOf_4 n t v1 v2 v3 = some res) (hK : Sum.elim (E_X6_seatsOf_4 F G Q r t v1) (fun q => match q with | (v2, v3) => P_X6_seatsOf_4 F G Q r t v1 v2 v3) res) : P_X6_seatsOf_4 F G Q r t v1 v2 v3 := by
  unfold lb_X6_seatsOf_4 at hf
  show At F G Q 4 4 [(0, .ref (G.2.1 1)), (1, .int v1), (2, .int v2), (3, .int v3)] [] (t, r)
  refine a_iload_n C (i := 3) (q := 5) dX6_seatsOf_4 rfl 3 rfl rfl ?_
  refine a_aload_n C (i := 0) (q := 6) dX6_seatsOf_5 rfl 0 rfl rfl ?_
  refine a_get6 C (q := 9) dX6_seatsOf_6 5 (by decide) k_44 (by decide) rfl rfl rfl ?_
  refine a_icmp_ge C (tgt := 39) (q := 12) dX6_seatsOf_9 hf (by decide) rfl (fun hf => ?_) (fun hf => ?_)
  · have hf := Option.some.inj hf; subst hf
    exact a_sub [2] rfl (show At F G Q 4 39 [(2, .int v2)] [] (t, r) from hK)
  · refine a_iload_n C (i := 1) (q := 13) dX6_seatsOf_12 rfl 1 rfl rfl ?_
    refine a_iload_n C (i := 3) (q := 14) dX6_seatsOf_13 rfl 3 rfl rfl ?_
    refine a_ishr C (q := 15) dX6_seatsOf_14 rfl ?_
    refine a_iconst C (v := (1 : Int32)) (q := 16) dX6_seatsOf_15 rfl (by decide) ?_
    refine a_iand C (q := 17) dX6_seatsOf_16 rfl ?_
    refine a_if_eq C (tgt := 33) (q := 20) dX6_seatsOf_17 hf (by decide) rfl (fun hf => ?_) (fun hf => ?_)
    · refine a_iincN C (i := 3) (k := 3) (q := 36) (lv' := fun z => [(3, .int z), (0, .ref (G.2.1 1)), (1, .int v1), (2, .int v2)]) dX6_seatsOf_33 hf rfl rfl (by decide) (fun _ => rfl) rfl (fun v3_1 hf => ?_)
      refine a_goto C (q := 4) dX6_seatsOf_36 (by decide) ?_
      have hf := Option.some.inj hf; subst hf
      exact a_sub [1, 2, 3, 0] rfl (show At F G Q 4 4 [(0, .ref (G.2.1 1)), (1, .int v1), (2, .int v2), (3, .int v3_1)] [] (t, r) from hK)
    · refine a_iload_n C (i := 2) (q := 21) dX6_seatsOf_20 rfl 2 rfl rfl ?_
      refine a_getsSEATS C (q := 24) dX6_seatsOf_21 k_281 rfl ?_
      refine a_aload_n C (i := 0) (q := 25) dX6_seatsOf_24 rfl 0 rfl rfl ?_
      refine a_get6 C (q := 28) dX6_seatsOf_25 0 (by decide) k_32 (by decide) rfl rfl rfl ?_
      refine a_iload_n C (i := 3) (q := 29) dX6_seatsOf_28 rfl 3 rfl rfl ?_
      refine a_iald C (q := 30) (g := t 2) dX6_seatsOf_29 hf (by decide) rfl rfl (fun hf => ?_)
      refine a_tldSEATS C (q := 31) dX6_seatsOf_30 hf rfl (fun hf => ?_)
      refine a_iadd C (q := 32) dX6_seatsOf_31 rfl ?_
      refine a_istore_nN C (i := 2) (q := 33) (lv' := fun z => [(2, .int z), (0, .ref (G.2.1 1)), (1, .int v1), (3, .int v3)]) dX6_seatsOf_32 hf rfl (by decide) (fun _ => rfl) rfl (fun v2_2 hf => ?_)
      refine a_iincN C (i := 3) (k := 3) (q := 36) (lv' := fun z => [(3, .int z), (2, .int v2_2), (0, .ref (G.2.1 1)), (1, .int v1)]) dX6_seatsOf_33 hf rfl rfl (by decide) (fun _ => rfl) rfl (fun v3_3 hf => ?_)
      refine a_goto C (q := 4) dX6_seatsOf_36 (by decide) ?_
      have hf := Option.some.inj hf; subst hf
      exact a_sub [2, 3, 1, 0] rfl (show At F G Q 4 4 [(0, .ref (G.2.1 1)), (1, .int v1), (2, .int v2_2), (3, .int v3_3)] [] (t, r) from hK)
theorem lp_X6_seatsOf_4 {F : FX} {G : GX} {Q : State → Prop} (C : Cx F G cX6_seatsOf 4 RX6) (hR : Rm F 2) (n : Nat) (r : SR) (t : MM) (v1 : Int32)  (v2 : Int32) (v3 : Int32) (x : Int32) (h : it2 (lb_X6_seatsOf_4 n t v1) n v2 v3 = some x) (hE : E_X6_seatsOf_4 F G Q r t v1 x) : At F G Q 4 4 [(0, .ref (G.2.1 1)), (1, .int v1), (2, .int v2), (3, .int v3)] [] (t, r) :=
  it2_ind (b := (lb_X6_seatsOf_4 n t v1)) (E := E_X6_seatsOf_4 F G Q r t v1) (P := fun v2 v3 => P_X6_seatsOf_4 F G Q r t v1 v2 v3) (fun v2 v3 res hf hK => w_X6_seatsOf_4 C hR n r t v1   v2 v3 res hf hK) n v2 v3 x h hE
def f_X6_seatsOf (n : Nat) (t : MM) (v1 : Int32) : Option (Int32) :=
  b1 (it2 (lb_X6_seatsOf_4 n t v1) n (0 : Int32) (0 : Int32)) (fun v2_4 => some v2_4)
set_option maxHeartbeats 4000000 in
theorem w_X6_seatsOf_e {F : FX} {G : GX} {Q : State → Prop} (C : Cx F G cX6_seatsOf 4 RX6) (hR : Rm F 2) (n : Nat) (t : MM) (r : SR)  (v1 : Int32) (res : Int32) (hf : f_X6_seatsOf n t v1 = some res) (hK : RetI F G Q cX6_seatsOf 4 .int res (t, r)) : At F G Q 4 0 [(0, .ref (G.2.1 1)), (1, .int v1)] [] (t, r) := by
  unfold f_X6_seatsOf at hf
  refine a_iconst C (v := (0 : Int32)) (q := 1) dX6_seatsOf_0 rfl (by decide) ?_
  refine a_istore_n C (i := 2) (q := 2) (lv' := [(2, .int (0 : Int32)), (0, .ref (G.2.1 1)), (1, .int v1)]) dX6_seatsOf_1 rfl (by decide) rfl rfl ?_
  refine a_iconst C (v := (0 : Int32)) (q := 3) dX6_seatsOf_2 rfl (by decide) ?_
  refine a_istore_n C (i := 3) (q := 4) (lv' := [(3, .int (0 : Int32)), (2, .int (0 : Int32)), (0, .ref (G.2.1 1)), (1, .int v1)]) dX6_seatsOf_3 rfl (by decide) rfl rfl ?_
  obtain ⟨v2_4, h1, hf⟩ := b1_some hf
  refine a_sub [2, 3, 1, 0] rfl (lp_X6_seatsOf_4 C hR n r t v1  (0 : Int32) (0 : Int32) _ h1 ?_)
  show At F G Q 4 39 [(2, .int v2_4)] [] (t, r)
  refine a_iload_n C (i := 2) (q := 40) dX6_seatsOf_39 rfl 0 rfl rfl ?_
  have hf := Option.some.inj hf; subst hf
  exact (show RetI F G Q cX6_seatsOf 4 .int v2_4 (t, r) from hK) rfl _ _ dX6_seatsOf_40
theorem c_X6_seatsOf (l : Launch) (G : GX) (n : Nat) (t : MM) (r : SR) (v1 : Int32) (res : Int32) (hf : f_X6_seatsOf n t v1 = some res) : MetC l G yX6_seatsOf cX6_seatsOf 4 (some .int) 2 (t, r) [.ref (G.2.1 1), .int v1] (PostI G res (t, r)) :=
  m_I (by decide) (Nat.le_of_ble_eq_true rfl) (fun F Q C h1 h2 h3 hK => w_X6_seatsOf_e C (Rm.of h1 h3) n t r v1 res hf hK)
theorem cw_X6_weighRiders : CwV RX6 yX6_weighRiders cX6_weighRiders 2 1 none := ⟨k_732, k_730, k_731, k_2, by decide +kernel, by decide⟩
def f_X6_weighRiders (n : Nat) (t : MM) (k1 : Nat) : Option (MM) :=
  b1 (f_X2_clear t k1) (fun y_1 => b1 (f_X6_whoRides n y_1) (fun y_2 => b1 (f_X6_hangThese n y_1 y_2 k1) (fun y_3 => some y_3)))
set_option maxHeartbeats 4000000 in
theorem w_X6_weighRiders_e {F : FX} {G : GX} {Q : State → Prop} (C : Cx F G cX6_weighRiders 2 RX6) (hR : Rm F 4) (n : Nat) (t : MM) (r : SR)  (k1 : Nat) (hk1 : isBal k1) (res : MM) (hf : f_X6_weighRiders n t k1 = some res) (hK : RetV F G Q cX6_weighRiders 2 (res, r)) : At F G Q 2 0 [(0, .ref (G.2.1 1)), (1, .ref (G.2.1 k1))] [] (t, r) := by
  unfold f_X6_weighRiders at hf
  refine a_aload_n C (i := 1) (q := 1) dX6_weighRiders_0 rfl 1 rfl rfl ?_
  refine a_callVV C (q := 4) (As := []) (st := []) dX6_weighRiders_1 hR (by decide) hf (fun b => (b, r)) hk1.lt (hk1.at G _ _) rfl cw_X2_clear (fun b hb => c_X2_clear _ G t r k1 hk1 b hb) rfl rfl (Nat.le_of_ble_eq_true rfl) k_295 rfl (fun y_1 hf => ?_)
  refine a_aload_n C (i := 0) (q := 5) dX6_weighRiders_4 rfl 0 rfl rfl ?_
  refine a_aload_n C (i := 0) (q := 6) dX6_weighRiders_5 rfl 0 rfl rfl ?_
  refine a_callVI C (q := 9) (As := []) (st := [.ref (G.2.1 1)]) dX6_weighRiders_6 hR (by decide) hf (fun b => b) (fun _ => (y_1, r)) (by decide) rfl rfl cw_X6_whoRides (fun b hb => c_X6_whoRides _ G n y_1 r b hb) rfl rfl (Nat.le_of_ble_eq_true rfl) k_311 rfl (fun y_2 hf => ?_)
  refine a_aload_n C (i := 1) (q := 10) dX6_weighRiders_9 rfl 1 rfl rfl ?_
  refine a_callVV C (q := 13) (As := [.int y_2, .ref (G.2.1 k1)]) (st := []) dX6_weighRiders_10 hR (by decide) hf (fun b => (b, r)) (by decide) rfl rfl cw_X6_hangThese (fun b hb => c_X6_hangThese _ G n y_1 r y_2 k1 hk1 b hb) rfl rfl (Nat.le_of_ble_eq_true rfl) k_315 rfl (fun y_3 hf => ?_)
  have hf := Option.some.inj hf; subst hf
  exact (show RetV F G Q cX6_weighRiders 2 (y_3, r) from hK) _ _ dX6_weighRiders_13
theorem c_X6_weighRiders (l : Launch) (G : GX) (n : Nat) (t : MM) (r : SR) (k1 : Nat) (hk1 : isBal k1) (res : MM) (hf : f_X6_weighRiders n t k1 = some res) : MetC l G yX6_weighRiders cX6_weighRiders 2 none 4 (t, r) [.ref (G.2.1 1), .ref (G.2.1 k1)] (PostV G (res, r)) :=
  m_V (by decide) (Nat.le_of_ble_eq_true rfl) (fun F Q C h1 h2 h3 hK => w_X6_weighRiders_e C (Rm.of h1 h3) n t r k1 hk1 res hf hK)
theorem cw_X6_mayGetIn : CwV RX6 yX6_mayGetIn cX6_mayGetIn 3 2 (some .boolean) := ⟨k_510, k_508, k_509, k_2, by decide +kernel, by decide⟩
def f_X6_mayGetIn (n : Nat) (t : MM) (v1 : Int32) (k2 : Nat) : Option (Int32 × MM) :=
  b1 (f_X6_foot t) (fun y_1 => b1 (f_X6_whoIsAt n t y_1) (fun y_2 => b1 (f_X6_fitTogether n t (y_2 ||| ((1 : Int32) <<< (v1 &&& 31)))) (fun y_3 => (if y_3 = 0 then some ((0 : Int32), t) else b1 (f_X6_weighAll n t k2) (fun y_4 => b1 (f_X6_foot y_4) (fun y_5 => ix v1 10 (b1 (f_X2_hang y_4 k2 y_5 (y_4 3 v1.toNatClampNeg)) (fun y_6 => b1 (f_X2_isEvenWithin y_6 k2 (y_6 1 7)) (fun y_7 => bz y_7 (some (y_7, y_6)))))))))))
set_option maxHeartbeats 4000000 in
theorem w_X6_mayGetIn_e {F : FX} {G : GX} {Q : State → Prop} (C : Cx F G cX6_mayGetIn 3 RX6) (hR : Rm F 5) (n : Nat) (t : MM) (r : SR)  (v1 : Int32) (k2 : Nat) (hk2 : isBal k2) (res : Int32 × MM) (hf : f_X6_mayGetIn n t v1 k2 = some res) (hK : RetI F G Q cX6_mayGetIn 3 .boolean res.1 (res.2, r)) : At F G Q 3 0 [(0, .ref (G.2.1 1)), (1, .int v1), (2, .ref (G.2.1 k2))] [] (t, r) := by
  unfold f_X6_mayGetIn at hf
  refine a_aload_n C (i := 0) (q := 1) dX6_mayGetIn_0 rfl 0 rfl rfl ?_
  refine a_aload_n C (i := 0) (q := 2) dX6_mayGetIn_1 rfl 0 rfl rfl ?_
  refine a_aload_n C (i := 0) (q := 3) dX6_mayGetIn_2 rfl 0 rfl rfl ?_
  refine a_callVI C (q := 6) (As := []) (st := [.ref (G.2.1 1), .ref (G.2.1 1)]) dX6_mayGetIn_3 hR (by decide) hf (fun b => b) (fun _ => (t, r)) (by decide) rfl rfl cw_X6_foot (fun b hb => c_X6_foot _ G t r b hb) rfl rfl (Nat.le_of_ble_eq_true rfl) k_511 rfl (fun y_1 hf => ?_)
  refine a_callVI C (q := 9) (As := [.int y_1]) (st := [.ref (G.2.1 1)]) dX6_mayGetIn_6 hR (by decide) hf (fun b => b) (fun _ => (t, r)) (by decide) rfl rfl cw_X6_whoIsAt (fun b hb => c_X6_whoIsAt _ G n t r y_1 b hb) rfl rfl (Nat.le_of_ble_eq_true rfl) k_272 rfl (fun y_2 hf => ?_)
  refine a_iconst C (v := (1 : Int32)) (q := 10) dX6_mayGetIn_9 rfl (by decide) ?_
  refine a_iload_n C (i := 1) (q := 11) dX6_mayGetIn_10 rfl 1 rfl rfl ?_
  refine a_ishl C (q := 12) dX6_mayGetIn_11 rfl ?_
  refine a_ior C (q := 13) dX6_mayGetIn_12 rfl ?_
  refine a_callVI C (q := 16) (As := [.int (y_2 ||| ((1 : Int32) <<< (v1 &&& 31)))]) (st := []) dX6_mayGetIn_13 hR (by decide) hf (fun b => b) (fun _ => (t, r)) (by decide) rfl rfl cw_X6_fitTogether (fun b hb => c_X6_fitTogether _ G n t r (y_2 ||| ((1 : Int32) <<< (v1 &&& 31))) b hb) rfl rfl (Nat.le_of_ble_eq_true rfl) k_515 rfl (fun y_3 hf => ?_)
  refine a_if_ne C (tgt := 21) (q := 19) dX6_mayGetIn_16 hf (by decide) rfl (fun hf => ?_) (fun hf => ?_)
  · refine a_aload_n C (i := 0) (q := 22) dX6_mayGetIn_21 rfl 0 rfl rfl ?_
    refine a_aload_n C (i := 2) (q := 23) dX6_mayGetIn_22 rfl 2 rfl rfl ?_
    refine a_callVV C (q := 26) (As := [.ref (G.2.1 k2)]) (st := []) dX6_mayGetIn_23 hR (by decide) hf (fun b => (b, r)) (by decide) rfl rfl cw_X6_weighAll (fun b hb => c_X6_weighAll _ G n t r k2 hk2 b hb) rfl rfl (Nat.le_of_ble_eq_true rfl) k_519 rfl (fun y_4 hf => ?_)
    refine a_aload_n C (i := 2) (q := 27) dX6_mayGetIn_26 rfl 2 rfl rfl ?_
    refine a_aload_n C (i := 0) (q := 28) dX6_mayGetIn_27 rfl 0 rfl rfl ?_
    refine a_callVI C (q := 31) (As := []) (st := [.ref (G.2.1 k2)]) dX6_mayGetIn_28 hR (by decide) hf (fun b => b) (fun _ => (y_4, r)) (by decide) rfl rfl cw_X6_foot (fun b hb => c_X6_foot _ G y_4 r b hb) rfl rfl (Nat.le_of_ble_eq_true rfl) k_511 rfl (fun y_5 hf => ?_)
    refine a_aload_n C (i := 0) (q := 32) dX6_mayGetIn_31 rfl 0 rfl rfl ?_
    refine a_get6 C (q := 35) dX6_mayGetIn_32 1 (by decide) k_34 (by decide) rfl rfl rfl ?_
    refine a_iload_n C (i := 1) (q := 36) dX6_mayGetIn_35 rfl 1 rfl rfl ?_
    refine a_iald C (q := 37) (g := y_4 3) dX6_mayGetIn_36 hf (by decide) rfl rfl (fun hf => ?_)
    refine a_callVV C (q := 40) (As := [.int y_5, .int (y_4 3 v1.toNatClampNeg)]) (st := []) dX6_mayGetIn_37 hR (by decide) hf (fun b => (b, r)) hk2.lt (hk2.at G _ _) rfl cw_X2_hang (fun b hb => c_X2_hang _ G y_4 r k2 y_5 (y_4 3 v1.toNatClampNeg) hk2 b hb) rfl rfl (Nat.le_of_ble_eq_true rfl) k_299 rfl (fun y_6 hf => ?_)
    refine a_aload_n C (i := 2) (q := 41) dX6_mayGetIn_40 rfl 2 rfl rfl ?_
    refine a_aload_n C (i := 0) (q := 42) dX6_mayGetIn_41 rfl 0 rfl rfl ?_
    refine a_get6 C (q := 45) dX6_mayGetIn_42 7 (by decide) k_48 (by decide) rfl rfl rfl ?_
    refine a_callVI C (q := 48) (As := [.int (y_6 1 7)]) (st := []) dX6_mayGetIn_45 hR (by decide) hf (fun b => b) (fun _ => (y_6, r)) hk2.lt (hk2.at G _ _) rfl cw_X2_isEvenWithin (fun b hb => c_X2_isEvenWithin _ G y_6 r k2 (y_6 1 7) hk2 b hb) rfl rfl (Nat.le_of_ble_eq_true rfl) k_520 rfl (fun y_7 hf => ?_)
    obtain ⟨hz, hf⟩ := bz_some hf
    have hf := Option.some.inj hf; subst hf
    exact (show RetI F G Q cX6_mayGetIn 3 .boolean y_7 (y_6, r) from hK) hz _ _ dX6_mayGetIn_48
  · refine a_iconst C (v := (0 : Int32)) (q := 20) dX6_mayGetIn_19 rfl (by decide) ?_
    have hf := Option.some.inj hf; subst hf
    exact (show RetI F G Q cX6_mayGetIn 3 .boolean (0 : Int32) (t, r) from hK) rfl _ _ dX6_mayGetIn_20
theorem c_X6_mayGetIn (l : Launch) (G : GX) (n : Nat) (t : MM) (r : SR) (v1 : Int32) (k2 : Nat) (hk2 : isBal k2) (res : Int32 × MM) (hf : f_X6_mayGetIn n t v1 k2 = some res) : MetC l G yX6_mayGetIn cX6_mayGetIn 3 (some .boolean) 5 (t, r) [.ref (G.2.1 1), .int v1, .ref (G.2.1 k2)] (PostI G res.1 (res.2, r)) :=
  m_I (by decide) (Nat.le_of_ble_eq_true rfl) (fun F Q C h1 h2 h3 hK => w_X6_mayGetIn_e C (Rm.of h1 h3) n t r v1 k2 hk2 res hf hK)
theorem cw_X6_mayGetOut : CwV RX6 yX6_mayGetOut cX6_mayGetOut 3 2 (some .boolean) := ⟨k_537, k_535, k_536, k_2, by decide +kernel, by decide⟩
def f_X6_mayGetOut (n : Nat) (t : MM) (v1 : Int32) (k2 : Nat) : Option (Int32 × MM) :=
  b1 (f_X6_foot t) (fun y_1 => b1 (f_X6_whoIsAt n t y_1) (fun y_2 => b1 (f_X6_fitTogether n t (y_2 &&& (((1 : Int32) <<< (v1 &&& 31)) ^^^ (-1 : Int32)))) (fun y_3 => (if y_3 = 0 then some ((0 : Int32), t) else b1 (f_X6_weighAll n t k2) (fun y_4 => b1 (f_X6_foot y_4) (fun y_5 => ix v1 10 (b1 (f_X2_hang y_4 k2 y_5 (-(y_4 3 v1.toNatClampNeg))) (fun y_6 => b1 (f_X2_isEvenWithin y_6 k2 (y_6 1 7)) (fun y_7 => bz y_7 (some (y_7, y_6)))))))))))
set_option maxHeartbeats 4000000 in
theorem w_X6_mayGetOut_e {F : FX} {G : GX} {Q : State → Prop} (C : Cx F G cX6_mayGetOut 3 RX6) (hR : Rm F 5) (n : Nat) (t : MM) (r : SR)  (v1 : Int32) (k2 : Nat) (hk2 : isBal k2) (res : Int32 × MM) (hf : f_X6_mayGetOut n t v1 k2 = some res) (hK : RetI F G Q cX6_mayGetOut 3 .boolean res.1 (res.2, r)) : At F G Q 3 0 [(0, .ref (G.2.1 1)), (1, .int v1), (2, .ref (G.2.1 k2))] [] (t, r) := by
  unfold f_X6_mayGetOut at hf
  refine a_aload_n C (i := 0) (q := 1) dX6_mayGetOut_0 rfl 0 rfl rfl ?_
  refine a_aload_n C (i := 0) (q := 2) dX6_mayGetOut_1 rfl 0 rfl rfl ?_
  refine a_aload_n C (i := 0) (q := 3) dX6_mayGetOut_2 rfl 0 rfl rfl ?_
  refine a_callVI C (q := 6) (As := []) (st := [.ref (G.2.1 1), .ref (G.2.1 1)]) dX6_mayGetOut_3 hR (by decide) hf (fun b => b) (fun _ => (t, r)) (by decide) rfl rfl cw_X6_foot (fun b hb => c_X6_foot _ G t r b hb) rfl rfl (Nat.le_of_ble_eq_true rfl) k_511 rfl (fun y_1 hf => ?_)
  refine a_callVI C (q := 9) (As := [.int y_1]) (st := [.ref (G.2.1 1)]) dX6_mayGetOut_6 hR (by decide) hf (fun b => b) (fun _ => (t, r)) (by decide) rfl rfl cw_X6_whoIsAt (fun b hb => c_X6_whoIsAt _ G n t r y_1 b hb) rfl rfl (Nat.le_of_ble_eq_true rfl) k_272 rfl (fun y_2 hf => ?_)
  refine a_iconst C (v := (1 : Int32)) (q := 10) dX6_mayGetOut_9 rfl (by decide) ?_
  refine a_iload_n C (i := 1) (q := 11) dX6_mayGetOut_10 rfl 1 rfl rfl ?_
  refine a_ishl C (q := 12) dX6_mayGetOut_11 rfl ?_
  refine a_iconst C (v := (-1 : Int32)) (q := 13) dX6_mayGetOut_12 rfl (by decide) ?_
  refine a_ixor C (q := 14) dX6_mayGetOut_13 rfl ?_
  refine a_iand C (q := 15) dX6_mayGetOut_14 rfl ?_
  refine a_callVI C (q := 18) (As := [.int (y_2 &&& (((1 : Int32) <<< (v1 &&& 31)) ^^^ (-1 : Int32)))]) (st := []) dX6_mayGetOut_15 hR (by decide) hf (fun b => b) (fun _ => (t, r)) (by decide) rfl rfl cw_X6_fitTogether (fun b hb => c_X6_fitTogether _ G n t r (y_2 &&& (((1 : Int32) <<< (v1 &&& 31)) ^^^ (-1 : Int32))) b hb) rfl rfl (Nat.le_of_ble_eq_true rfl) k_515 rfl (fun y_3 hf => ?_)
  refine a_if_ne C (tgt := 23) (q := 21) dX6_mayGetOut_18 hf (by decide) rfl (fun hf => ?_) (fun hf => ?_)
  · refine a_aload_n C (i := 0) (q := 24) dX6_mayGetOut_23 rfl 0 rfl rfl ?_
    refine a_aload_n C (i := 2) (q := 25) dX6_mayGetOut_24 rfl 2 rfl rfl ?_
    refine a_callVV C (q := 28) (As := [.ref (G.2.1 k2)]) (st := []) dX6_mayGetOut_25 hR (by decide) hf (fun b => (b, r)) (by decide) rfl rfl cw_X6_weighAll (fun b hb => c_X6_weighAll _ G n t r k2 hk2 b hb) rfl rfl (Nat.le_of_ble_eq_true rfl) k_519 rfl (fun y_4 hf => ?_)
    refine a_aload_n C (i := 2) (q := 29) dX6_mayGetOut_28 rfl 2 rfl rfl ?_
    refine a_aload_n C (i := 0) (q := 30) dX6_mayGetOut_29 rfl 0 rfl rfl ?_
    refine a_callVI C (q := 33) (As := []) (st := [.ref (G.2.1 k2)]) dX6_mayGetOut_30 hR (by decide) hf (fun b => b) (fun _ => (y_4, r)) (by decide) rfl rfl cw_X6_foot (fun b hb => c_X6_foot _ G y_4 r b hb) rfl rfl (Nat.le_of_ble_eq_true rfl) k_511 rfl (fun y_5 hf => ?_)
    refine a_aload_n C (i := 0) (q := 34) dX6_mayGetOut_33 rfl 0 rfl rfl ?_
    refine a_get6 C (q := 37) dX6_mayGetOut_34 1 (by decide) k_34 (by decide) rfl rfl rfl ?_
    refine a_iload_n C (i := 1) (q := 38) dX6_mayGetOut_37 rfl 1 rfl rfl ?_
    refine a_iald C (q := 39) (g := y_4 3) dX6_mayGetOut_38 hf (by decide) rfl rfl (fun hf => ?_)
    refine a_ineg C (q := 40) dX6_mayGetOut_39 rfl ?_
    refine a_callVV C (q := 43) (As := [.int y_5, .int (-(y_4 3 v1.toNatClampNeg))]) (st := []) dX6_mayGetOut_40 hR (by decide) hf (fun b => (b, r)) hk2.lt (hk2.at G _ _) rfl cw_X2_hang (fun b hb => c_X2_hang _ G y_4 r k2 y_5 (-(y_4 3 v1.toNatClampNeg)) hk2 b hb) rfl rfl (Nat.le_of_ble_eq_true rfl) k_299 rfl (fun y_6 hf => ?_)
    refine a_aload_n C (i := 2) (q := 44) dX6_mayGetOut_43 rfl 2 rfl rfl ?_
    refine a_aload_n C (i := 0) (q := 45) dX6_mayGetOut_44 rfl 0 rfl rfl ?_
    refine a_get6 C (q := 48) dX6_mayGetOut_45 7 (by decide) k_48 (by decide) rfl rfl rfl ?_
    refine a_callVI C (q := 51) (As := [.int (y_6 1 7)]) (st := []) dX6_mayGetOut_48 hR (by decide) hf (fun b => b) (fun _ => (y_6, r)) hk2.lt (hk2.at G _ _) rfl cw_X2_isEvenWithin (fun b hb => c_X2_isEvenWithin _ G y_6 r k2 (y_6 1 7) hk2 b hb) rfl rfl (Nat.le_of_ble_eq_true rfl) k_520 rfl (fun y_7 hf => ?_)
    obtain ⟨hz, hf⟩ := bz_some hf
    have hf := Option.some.inj hf; subst hf
    exact (show RetI F G Q cX6_mayGetOut 3 .boolean y_7 (y_6, r) from hK) hz _ _ dX6_mayGetOut_51
  · refine a_iconst C (v := (0 : Int32)) (q := 22) dX6_mayGetOut_21 rfl (by decide) ?_
    have hf := Option.some.inj hf; subst hf
    exact (show RetI F G Q cX6_mayGetOut 3 .boolean (0 : Int32) (t, r) from hK) rfl _ _ dX6_mayGetOut_22
theorem c_X6_mayGetOut (l : Launch) (G : GX) (n : Nat) (t : MM) (r : SR) (v1 : Int32) (k2 : Nat) (hk2 : isBal k2) (res : Int32 × MM) (hf : f_X6_mayGetOut n t v1 k2 = some res) : MetC l G yX6_mayGetOut cX6_mayGetOut 3 (some .boolean) 5 (t, r) [.ref (G.2.1 1), .int v1, .ref (G.2.1 k2)] (PostI G res.1 (res.2, r)) :=
  m_I (by decide) (Nat.le_of_ble_eq_true rfl) (fun F Q C h1 h2 h3 hK => w_X6_mayGetOut_e C (Rm.of h1 h3) n t r v1 k2 hk2 res hf hK)
theorem cw_X6_mayHaveSand : CwV RX6 yX6_mayHaveSand cX6_mayHaveSand 3 2 (some .boolean) := ⟨k_549, k_547, k_548, k_2, by decide +kernel, by decide⟩
def f_X6_mayHaveSand (n : Nat) (t : MM) (v1 : Int32) (k2 : Nat) : Option (Int32 × MM) :=
  b1 (f_X6_weighAll n t k2) (fun y_1 => b1 (f_X6_foot y_1) (fun y_2 => b1 (f_X6_foot y_1) (fun y_3 => ix y_3 12 (b1 (f_X2_hang y_1 k2 y_2 (v1 - (y_1 6 y_3.toNatClampNeg))) (fun y_4 => b1 (f_X2_isEvenWithin y_4 k2 (y_4 1 7)) (fun y_5 => bz y_5 (some (y_5, y_4))))))))
set_option maxHeartbeats 4000000 in
theorem w_X6_mayHaveSand_e {F : FX} {G : GX} {Q : State → Prop} (C : Cx F G cX6_mayHaveSand 3 RX6) (hR : Rm F 5) (n : Nat) (t : MM) (r : SR)  (v1 : Int32) (k2 : Nat) (hk2 : isBal k2) (res : Int32 × MM) (hf : f_X6_mayHaveSand n t v1 k2 = some res) (hK : RetI F G Q cX6_mayHaveSand 3 .boolean res.1 (res.2, r)) : At F G Q 3 0 [(0, .ref (G.2.1 1)), (1, .int v1), (2, .ref (G.2.1 k2))] [] (t, r) := by
  unfold f_X6_mayHaveSand at hf
  refine a_aload_n C (i := 0) (q := 1) dX6_mayHaveSand_0 rfl 0 rfl rfl ?_
  refine a_aload_n C (i := 2) (q := 2) dX6_mayHaveSand_1 rfl 2 rfl rfl ?_
  refine a_callVV C (q := 5) (As := [.ref (G.2.1 k2)]) (st := []) dX6_mayHaveSand_2 hR (by decide) hf (fun b => (b, r)) (by decide) rfl rfl cw_X6_weighAll (fun b hb => c_X6_weighAll _ G n t r k2 hk2 b hb) rfl rfl (Nat.le_of_ble_eq_true rfl) k_519 rfl (fun y_1 hf => ?_)
  refine a_aload_n C (i := 2) (q := 6) dX6_mayHaveSand_5 rfl 2 rfl rfl ?_
  refine a_aload_n C (i := 0) (q := 7) dX6_mayHaveSand_6 rfl 0 rfl rfl ?_
  refine a_callVI C (q := 10) (As := []) (st := [.ref (G.2.1 k2)]) dX6_mayHaveSand_7 hR (by decide) hf (fun b => b) (fun _ => (y_1, r)) (by decide) rfl rfl cw_X6_foot (fun b hb => c_X6_foot _ G y_1 r b hb) rfl rfl (Nat.le_of_ble_eq_true rfl) k_511 rfl (fun y_2 hf => ?_)
  refine a_iload_n C (i := 1) (q := 11) dX6_mayHaveSand_10 rfl 1 rfl rfl ?_
  refine a_aload_n C (i := 0) (q := 12) dX6_mayHaveSand_11 rfl 0 rfl rfl ?_
  refine a_get6 C (q := 15) dX6_mayHaveSand_12 4 (by decide) k_42 (by decide) rfl rfl rfl ?_
  refine a_aload_n C (i := 0) (q := 16) dX6_mayHaveSand_15 rfl 0 rfl rfl ?_
  refine a_callVI C (q := 19) (As := []) (st := [.ref (G.2.1 6), .int v1, .int y_2, .ref (G.2.1 k2)]) dX6_mayHaveSand_16 hR (by decide) hf (fun b => b) (fun _ => (y_1, r)) (by decide) rfl rfl cw_X6_foot (fun b hb => c_X6_foot _ G y_1 r b hb) rfl rfl (Nat.le_of_ble_eq_true rfl) k_511 rfl (fun y_3 hf => ?_)
  refine a_iald C (q := 20) (g := y_1 6) dX6_mayHaveSand_19 hf (by decide) rfl rfl (fun hf => ?_)
  refine a_isub C (q := 21) dX6_mayHaveSand_20 rfl ?_
  refine a_callVV C (q := 24) (As := [.int y_2, .int (v1 - (y_1 6 y_3.toNatClampNeg))]) (st := []) dX6_mayHaveSand_21 hR (by decide) hf (fun b => (b, r)) hk2.lt (hk2.at G _ _) rfl cw_X2_hang (fun b hb => c_X2_hang _ G y_1 r k2 y_2 (v1 - (y_1 6 y_3.toNatClampNeg)) hk2 b hb) rfl rfl (Nat.le_of_ble_eq_true rfl) k_299 rfl (fun y_4 hf => ?_)
  refine a_aload_n C (i := 2) (q := 25) dX6_mayHaveSand_24 rfl 2 rfl rfl ?_
  refine a_aload_n C (i := 0) (q := 26) dX6_mayHaveSand_25 rfl 0 rfl rfl ?_
  refine a_get6 C (q := 29) dX6_mayHaveSand_26 7 (by decide) k_48 (by decide) rfl rfl rfl ?_
  refine a_callVI C (q := 32) (As := [.int (y_4 1 7)]) (st := []) dX6_mayHaveSand_29 hR (by decide) hf (fun b => b) (fun _ => (y_4, r)) hk2.lt (hk2.at G _ _) rfl cw_X2_isEvenWithin (fun b hb => c_X2_isEvenWithin _ G y_4 r k2 (y_4 1 7) hk2 b hb) rfl rfl (Nat.le_of_ble_eq_true rfl) k_520 rfl (fun y_5 hf => ?_)
  obtain ⟨hz, hf⟩ := bz_some hf
  have hf := Option.some.inj hf; subst hf
  exact (show RetI F G Q cX6_mayHaveSand 3 .boolean y_5 (y_4, r) from hK) hz _ _ dX6_mayHaveSand_32
theorem c_X6_mayHaveSand (l : Launch) (G : GX) (n : Nat) (t : MM) (r : SR) (v1 : Int32) (k2 : Nat) (hk2 : isBal k2) (res : Int32 × MM) (hf : f_X6_mayHaveSand n t v1 k2 = some res) : MetC l G yX6_mayHaveSand cX6_mayHaveSand 3 (some .boolean) 5 (t, r) [.ref (G.2.1 1), .int v1, .ref (G.2.1 k2)] (PostI G res.1 (res.2, r)) :=
  m_I (by decide) (Nat.le_of_ble_eq_true rfl) (fun F Q C h1 h2 h3 hK => w_X6_mayHaveSand_e C (Rm.of h1 h3) n t r v1 k2 hk2 res hf hK)
theorem cw_X6_getIn : CwV RX6 yX6_getIn cX6_getIn 2 1 none := ⟨k_524, k_522, k_523, k_2, by decide +kernel, by decide⟩
def f_X6_getIn (t : MM) (v1 : Int32) : Option (MM) :=
  b1 (f_X6_foot t) (fun y_1 => ix v1 10 (nm (st1 t 4 v1.toNatClampNeg y_1) (fun t_2 => ix v1 10 (nm (st1 t_2 5 v1.toNatClampNeg (t_2 1 6)) (fun t_3 => some t_3)))))
set_option maxHeartbeats 4000000 in
theorem w_X6_getIn_e {F : FX} {G : GX} {Q : State → Prop} (C : Cx F G cX6_getIn 2 RX6) (hR : Rm F 3) (t : MM) (r : SR)  (v1 : Int32) (res : MM) (hf : f_X6_getIn t v1 = some res) (hK : RetV F G Q cX6_getIn 2 (res, r)) : At F G Q 2 0 [(0, .ref (G.2.1 1)), (1, .int v1)] [] (t, r) := by
  unfold f_X6_getIn at hf
  refine a_aload_n C (i := 0) (q := 1) dX6_getIn_0 rfl 0 rfl rfl ?_
  refine a_get6 C (q := 4) dX6_getIn_1 2 (by decide) k_37 (by decide) rfl rfl rfl ?_
  refine a_iload_n C (i := 1) (q := 5) dX6_getIn_4 rfl 1 rfl rfl ?_
  refine a_aload_n C (i := 0) (q := 6) dX6_getIn_5 rfl 0 rfl rfl ?_
  refine a_callVI C (q := 9) (As := []) (st := [.int v1, .ref (G.2.1 4)]) dX6_getIn_6 hR (by decide) hf (fun b => b) (fun _ => (t, r)) (by decide) rfl rfl cw_X6_foot (fun b hb => c_X6_foot _ G t r b hb) rfl rfl (Nat.le_of_ble_eq_true rfl) k_511 rfl (fun y_1 hf => ?_)
  refine a_iastN C (q := 10) (mk := (fun z => (z, r))) dX6_getIn_9 hf (by decide) rfl rfl cellE_C1 rfl (fun t_2 hf => ?_)
  refine a_aload_n C (i := 0) (q := 11) dX6_getIn_10 rfl 0 rfl rfl ?_
  refine a_get6 C (q := 14) dX6_getIn_11 3 (by decide) k_40 (by decide) rfl rfl rfl ?_
  refine a_iload_n C (i := 1) (q := 15) dX6_getIn_14 rfl 1 rfl rfl ?_
  refine a_aload_n C (i := 0) (q := 16) dX6_getIn_15 rfl 0 rfl rfl ?_
  refine a_get6 C (q := 19) dX6_getIn_16 6 (by decide) k_46 (by decide) rfl rfl rfl ?_
  refine a_iastN C (q := 20) (mk := (fun z => (z, r))) dX6_getIn_19 hf (by decide) rfl rfl cellE_C1 rfl (fun t_3 hf => ?_)
  have hf := Option.some.inj hf; subst hf
  exact (show RetV F G Q cX6_getIn 2 (t_3, r) from hK) _ _ dX6_getIn_20
theorem c_X6_getIn (l : Launch) (G : GX) (t : MM) (r : SR) (v1 : Int32) (res : MM) (hf : f_X6_getIn t v1 = some res) : MetC l G yX6_getIn cX6_getIn 2 none 3 (t, r) [.ref (G.2.1 1), .int v1] (PostV G (res, r)) :=
  m_V (by decide) (Nat.le_of_ble_eq_true rfl) (fun F Q C h1 h2 h3 hK => w_X6_getIn_e C (Rm.of h1 h3) t r v1 res hf hK)
theorem cw_X6_getOut : CwV RX6 yX6_getOut cX6_getOut 2 1 none := ⟨k_541, k_539, k_540, k_2, by decide +kernel, by decide⟩
def f_X6_getOut (t : MM) (v1 : Int32) : Option (MM) :=
  ix v1 10 (nm (st1 t 4 v1.toNatClampNeg (13 : Int32)) (fun t_1 => some t_1))
set_option maxHeartbeats 4000000 in
theorem w_X6_getOut_e {F : FX} {G : GX} {Q : State → Prop} (C : Cx F G cX6_getOut 2 RX6) (hR : Rm F 2) (t : MM) (r : SR)  (v1 : Int32) (res : MM) (hf : f_X6_getOut t v1 = some res) (hK : RetV F G Q cX6_getOut 2 (res, r)) : At F G Q 2 0 [(0, .ref (G.2.1 1)), (1, .int v1)] [] (t, r) := by
  unfold f_X6_getOut at hf
  refine a_aload_n C (i := 0) (q := 1) dX6_getOut_0 rfl 0 rfl rfl ?_
  refine a_get6 C (q := 4) dX6_getOut_1 2 (by decide) k_37 (by decide) rfl rfl rfl ?_
  refine a_iload_n C (i := 1) (q := 5) dX6_getOut_4 rfl 1 rfl rfl ?_
  refine a_bipush C (v := (13 : Int32)) (q := 7) dX6_getOut_5 rfl (by decide) ?_
  refine a_iastN C (q := 8) (mk := (fun z => (z, r))) dX6_getOut_7 hf (by decide) rfl rfl cellE_C1 rfl (fun t_1 hf => ?_)
  have hf := Option.some.inj hf; subst hf
  exact (show RetV F G Q cX6_getOut 2 (t_1, r) from hK) _ _ dX6_getOut_8
theorem c_X6_getOut (l : Launch) (G : GX) (t : MM) (r : SR) (v1 : Int32) (res : MM) (hf : f_X6_getOut t v1 = some res) : MetC l G yX6_getOut cX6_getOut 2 none 2 (t, r) [.ref (G.2.1 1), .int v1] (PostV G (res, r)) :=
  m_V (by decide) (Nat.le_of_ble_eq_true rfl) (fun F Q C h1 h2 h3 hK => w_X6_getOut_e C (Rm.of h1 h3) t r v1 res hf hK)
