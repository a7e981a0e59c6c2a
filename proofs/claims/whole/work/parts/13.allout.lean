theorem cw_X1_mayRide : CwV RX1 yX1_mayRide cX1_mayRide 3 2 (some .boolean) := ⟨k_654, k_653, kp_15, k_6, by decide +kernel, by decide⟩
def f_X1_mayRide (n : Nat) (t : MM) (v1 : Int32) (v2 : Int32) : Option (Int32 × MM) :=
  b1 (f_X6_fitTogether n t (v1 &&& v2)) (fun y_1 => (if y_1 = 0 then some ((0 : Int32), t) else b1 (f_X2_become t 21 20) (fun y_2 => b1 (f_X6_hangThese n y_2 v1 21) (fun y_3 => b1 (f_X2_isEvenWithin y_3 21 (y_3 1 7)) (fun y_4 => bz y_4 (some (y_4, y_3)))))))
set_option maxHeartbeats 4000000 in
theorem w_X1_mayRide_e {F : FX} {G : GX} {Q : State → Prop} (C : Cx F G cX1_mayRide 3 RX1) (hR : Rm F 4) (n : Nat) (t : MM) (r : SR)  (v1 : Int32) (v2 : Int32) (res : Int32 × MM) (hf : f_X1_mayRide n t v1 v2 = some res) (hK : RetI F G Q cX1_mayRide 3 .boolean res.1 (res.2, r)) : At F G Q 3 0 [(0, .ref (G.2.1 19)), (1, .int v1), (2, .int v2)] [] (t, r) := by
  unfold f_X1_mayRide at hf
  refine a_aload_n C (i := 0) (q := 1) dX1_mayRide_0 rfl 0 rfl rfl ?_
  refine a_get1 C (q := 4) dX1_mayRide_1 0 (by decide) k_149 (by decide) rfl rfl rfl ?_
  refine a_iload_n C (i := 1) (q := 5) dX1_mayRide_4 rfl 1 rfl rfl ?_
  refine a_iload_n C (i := 2) (q := 6) dX1_mayRide_5 rfl 2 rfl rfl ?_
  refine a_iand C (q := 7) dX1_mayRide_6 rfl ?_
  refine a_callVI C (q := 10) (As := [.int (v1 &&& v2)]) (st := []) dX1_mayRide_7 hR (by decide) hf (fun b => b) (fun _ => (t, r)) (by decide) rfl rfl cw_X6_fitTogether (fun b hb => c_X6_fitTogether _ G n t r (v1 &&& v2) b hb) rfl rfl (Nat.le_of_ble_eq_true rfl) k_655 rfl (fun y_1 hf => ?_)
  refine a_if_ne C (tgt := 15) (q := 13) dX1_mayRide_10 hf (by decide) rfl (fun hf => ?_) (fun hf => ?_)
  · refine a_aload_n C (i := 0) (q := 16) dX1_mayRide_15 rfl 0 rfl rfl ?_
    refine a_get1 C (q := 19) dX1_mayRide_16 2 (by decide) k_151 (by decide) rfl rfl rfl ?_
    refine a_aload_n C (i := 0) (q := 20) dX1_mayRide_19 rfl 0 rfl rfl ?_
    refine a_get1 C (q := 23) dX1_mayRide_20 1 (by decide) k_150 (by decide) rfl rfl rfl ?_
    refine a_callVV C (q := 26) (As := [.ref (G.2.1 20)]) (st := []) dX1_mayRide_23 hR (by decide) hf (fun b => (b, r)) (by decide) rfl rfl cw_X2_become (fun b hb => c_X2_become _ G t r 21 20 (by unfold isBal; decide) (by unfold isBal; decide) b hb) rfl rfl (Nat.le_of_ble_eq_true rfl) k_656 rfl (fun y_2 hf => ?_)
    refine a_aload_n C (i := 0) (q := 27) dX1_mayRide_26 rfl 0 rfl rfl ?_
    refine a_get1 C (q := 30) dX1_mayRide_27 0 (by decide) k_149 (by decide) rfl rfl rfl ?_
    refine a_iload_n C (i := 1) (q := 31) dX1_mayRide_30 rfl 1 rfl rfl ?_
    refine a_aload_n C (i := 0) (q := 32) dX1_mayRide_31 rfl 0 rfl rfl ?_
    refine a_get1 C (q := 35) dX1_mayRide_32 2 (by decide) k_151 (by decide) rfl rfl rfl ?_
    refine a_callVV C (q := 38) (As := [.int v1, .ref (G.2.1 21)]) (st := []) dX1_mayRide_35 hR (by decide) hf (fun b => (b, r)) (by decide) rfl rfl cw_X6_hangThese (fun b hb => c_X6_hangThese _ G n y_2 r v1 21 (by unfold isBal; decide) b hb) rfl rfl (Nat.le_of_ble_eq_true rfl) k_660 rfl (fun y_3 hf => ?_)
    refine a_aload_n C (i := 0) (q := 39) dX1_mayRide_38 rfl 0 rfl rfl ?_
    refine a_get1 C (q := 42) dX1_mayRide_39 2 (by decide) k_151 (by decide) rfl rfl rfl ?_
    refine a_aload_n C (i := 0) (q := 43) dX1_mayRide_42 rfl 0 rfl rfl ?_
    refine a_get1 C (q := 46) dX1_mayRide_43 0 (by decide) k_149 (by decide) rfl rfl rfl ?_
    refine a_get6 C (q := 49) dX1_mayRide_46 7 (by decide) k_50 (by decide) rfl rfl rfl ?_
    refine a_callVI C (q := 52) (As := [.int (y_3 1 7)]) (st := []) dX1_mayRide_49 hR (by decide) hf (fun b => b) (fun _ => (y_3, r)) (by decide) rfl rfl cw_X2_isEvenWithin (fun b hb => c_X2_isEvenWithin _ G y_3 r 21 (y_3 1 7) (by unfold isBal; decide) b hb) rfl rfl (Nat.le_of_ble_eq_true rfl) k_661 rfl (fun y_4 hf => ?_)
    obtain ⟨hz, hf⟩ := bz_some hf
    have hf := Option.some.inj hf; subst hf
    exact (show RetI F G Q cX1_mayRide 3 .boolean y_4 (y_3, r) from hK) hz _ _ dX1_mayRide_52
  · refine a_iconst C (v := (0 : Int32)) (q := 14) dX1_mayRide_13 rfl (by decide) ?_
    have hf := Option.some.inj hf; subst hf
    exact (show RetI F G Q cX1_mayRide 3 .boolean (0 : Int32) (t, r) from hK) rfl _ _ dX1_mayRide_14
theorem c_X1_mayRide (l : Launch) (G : GX) (n : Nat) (t : MM) (r : SR) (v1 : Int32) (v2 : Int32) (res : Int32 × MM) (hf : f_X1_mayRide n t v1 v2 = some res) : MetC l G yX1_mayRide cX1_mayRide 3 (some .boolean) 4 (t, r) [.ref (G.2.1 19), .int v1, .int v2] (PostI G res.1 (res.2, r)) :=
  m_I (by decide) (Nat.le_of_ble_eq_true rfl) (fun F Q C h1 h2 h3 hK => w_X1_mayRide_e C (Rm.of h1 h3) n t r v1 v2 res hf hK)
theorem cw_X1_letOut : CwV RX1 yX1_letOut cX1_letOut 6 2 none := ⟨k_650, k_649, kp_14, k_6, by decide +kernel, by decide⟩
def P_X1_letOut_7 (F : FX) (G : GX) (Q : State → Prop) (r : SR) (v1 : Int32) (v2 : Int32) (v3 : Int32) (v4 : Int32) (t : MM) : Prop := At F G Q 6 7 [(0, .ref (G.2.1 19)), (1, .int v1), (2, .int v2), (3, .int v3), (4, .int v4)] [] (t, r)
def E_X1_letOut_7 (F : FX) (G : GX) (Q : State → Prop) (r : SR) (v1 : Int32) (v2 : Int32) (v3 : Int32) : MM → Prop := fun q => match q with
  | t => At F G Q 6 63 [] [] (t, r)
def lb_X1_letOut_7 (n : Nat) (v1 : Int32) (v2 : Int32) (v3 : Int32) (v4 : Int32) (t : MM) : Option ((MM) ⊕ (Int32 × MM)) :=
  (if v4 ≤ 0 then some (.inl t) else nm (v1 &&& (v4 ^^^ (-1 : Int32))) (fun v5_2 => ix v5_2 1024 ((if (t 22 v5_2.toNatClampNeg) = 0 then b1 (f_X1_mayRide n t v5_2 v2) (fun y_4 => (if y_4.1 = 0 then ix v5_2 1024 (nm (st1 y_4.2 22 v5_2.toNatClampNeg (2 : Int32)) (fun t_5 => nm ((v4 - (1 : Int32)) &&& v3) (fun v4_6 => some (.inr (v4_6, t_5))))) else ix v5_2 1024 (nm (st1 y_4.2 22 v5_2.toNatClampNeg (1 : Int32)) (fun t_7 => nm ((v4 - (1 : Int32)) &&& v3) (fun v4_8 => some (.inr (v4_8, t_7))))))) else nm ((v4 - (1 : Int32)) &&& v3) (fun v4_3 => some (.inr (v4_3, t)))))))
set_option maxHeartbeats 4000000 in
theorem w_X1_letOut_7 {F : FX} {G : GX} {Q : State → Prop} (C : Cx F G cX1_letOut 6 RX1) (hR : Rm F 5) (n : Nat) (r : SR) (v1 : Int32) (v2 : Int32) (v3 : Int32)  (v4 : Int32) (t : MM) (res : (MM) ⊕ (Int32 × MM)) (hf : lb_X1_letOut_7 n v1 v2 v3 v4 t = some res) (hK : Sum.elim (E_X1_letOut_7 F G Q r v1 v2 v3) (fun q => match q with | (v4, t) => P_X1_letOut_7 F G Q r v1 v2 v3 v4 t) res) : P_X1_letOut_7 F G Q r v1 v2 v3 v4 t := by
  unfold lb_X1_letOut_7 at hf
  show At F G Q 6 7 [(0, .ref (G.2.1 19)), (1, .int v1), (2, .int v2), (3, .int v3), (4, .int v4)] [] (t, r)
  refine a_iload C (i := 4) (q := 9) dX1_letOut_7 rfl 4 rfl ?_
  refine a_if_le C (tgt := 63) (q := 12) dX1_letOut_9 hf (by decide) rfl (fun hf => ?_) (fun hf => ?_)
  · have hf := Option.some.inj hf; subst hf
    exact a_sub [] rfl (show At F G Q 6 63 [] [] (t, r) from hK)
  · refine a_iload_n C (i := 1) (q := 13) dX1_letOut_12 rfl 1 rfl rfl ?_
    refine a_iload C (i := 4) (q := 15) dX1_letOut_13 rfl 4 rfl ?_
    refine a_iconst C (v := (-1 : Int32)) (q := 16) dX1_letOut_15 rfl (by decide) ?_
    refine a_ixor C (q := 17) dX1_letOut_16 rfl ?_
    refine a_iand C (q := 18) dX1_letOut_17 rfl ?_
    refine a_istoreN C (i := 5) (q := 20) (lv' := fun z => [(5, .int z), (0, .ref (G.2.1 19)), (1, .int v1), (2, .int v2), (3, .int v3), (4, .int v4)]) dX1_letOut_18 hf (by decide) (fun _ => rfl) rfl (fun v5_2 hf => ?_)
    refine a_aload_n C (i := 0) (q := 21) dX1_letOut_20 rfl 1 rfl rfl ?_
    refine a_get1 C (q := 24) dX1_letOut_21 3 (by decide) k_152 (by decide) rfl rfl rfl ?_
    refine a_iload C (i := 5) (q := 26) dX1_letOut_24 rfl 0 rfl ?_
    refine a_iald C (q := 27) (g := t 22) dX1_letOut_26 hf (by decide) rfl rfl (fun hf => ?_)
    refine a_if_ne C (tgt := 52) (q := 30) dX1_letOut_27 hf (by decide) rfl (fun hf => ?_) (fun hf => ?_)
    · refine a_iload C (i := 4) (q := 54) dX1_letOut_52 rfl 5 rfl ?_
      refine a_iconst C (v := (1 : Int32)) (q := 55) dX1_letOut_54 rfl (by decide) ?_
      refine a_isub C (q := 56) dX1_letOut_55 rfl ?_
      refine a_iload_n C (i := 3) (q := 57) dX1_letOut_56 rfl 4 rfl rfl ?_
      refine a_iand C (q := 58) dX1_letOut_57 rfl ?_
      refine a_istoreN C (i := 4) (q := 60) (lv' := fun z => [(4, .int z), (5, .int v5_2), (0, .ref (G.2.1 19)), (1, .int v1), (2, .int v2), (3, .int v3)]) dX1_letOut_58 hf (by decide) (fun _ => rfl) rfl (fun v4_3 hf => ?_)
      refine a_goto C (q := 7) dX1_letOut_60 (by decide) ?_
      have hf := Option.some.inj hf; subst hf
      exact a_sub [2, 3, 4, 5, 0] rfl (show At F G Q 6 7 [(0, .ref (G.2.1 19)), (1, .int v1), (2, .int v2), (3, .int v3), (4, .int v4_3)] [] (t, r) from hK)
    · refine a_aload_n C (i := 0) (q := 31) dX1_letOut_30 rfl 1 rfl rfl ?_
      refine a_get1 C (q := 34) dX1_letOut_31 3 (by decide) k_152 (by decide) rfl rfl rfl ?_
      refine a_iload C (i := 5) (q := 36) dX1_letOut_34 rfl 0 rfl ?_
      refine a_aload_n C (i := 0) (q := 37) dX1_letOut_36 rfl 1 rfl rfl ?_
      refine a_iload C (i := 5) (q := 39) dX1_letOut_37 rfl 0 rfl ?_
      refine a_iload_n C (i := 2) (q := 40) dX1_letOut_39 rfl 3 rfl rfl ?_
      refine a_callVI C (q := 43) (As := [.int v5_2, .int v2]) (st := [.int v5_2, .ref (G.2.1 22)]) dX1_letOut_40 hR (by decide) hf (fun b => b.1) (fun b => (b.2, r)) (by decide) rfl rfl cw_X1_mayRide (fun b hb => c_X1_mayRide _ G n t r v5_2 v2 b hb) rfl rfl (Nat.le_of_ble_eq_true rfl) k_651 rfl (fun y_4 hf => ?_)
      refine a_if_eq C (tgt := 50) (q := 46) dX1_letOut_43 hf (by decide) rfl (fun hf => ?_) (fun hf => ?_)
      · refine a_iconst C (v := (2 : Int32)) (q := 51) dX1_letOut_50 rfl (by decide) ?_
        refine a_iastN C (q := 52) (mk := (fun z => (z, r))) dX1_letOut_51 hf (by decide) rfl rfl cellE_C1 rfl (fun t_5 hf => ?_)
        refine a_iload C (i := 4) (q := 54) dX1_letOut_52 rfl 5 rfl ?_
        refine a_iconst C (v := (1 : Int32)) (q := 55) dX1_letOut_54 rfl (by decide) ?_
        refine a_isub C (q := 56) dX1_letOut_55 rfl ?_
        refine a_iload_n C (i := 3) (q := 57) dX1_letOut_56 rfl 4 rfl rfl ?_
        refine a_iand C (q := 58) dX1_letOut_57 rfl ?_
        refine a_istoreN C (i := 4) (q := 60) (lv' := fun z => [(4, .int z), (5, .int v5_2), (0, .ref (G.2.1 19)), (1, .int v1), (2, .int v2), (3, .int v3)]) dX1_letOut_58 hf (by decide) (fun _ => rfl) rfl (fun v4_6 hf => ?_)
        refine a_goto C (q := 7) dX1_letOut_60 (by decide) ?_
        have hf := Option.some.inj hf; subst hf
        exact a_sub [2, 3, 4, 5, 0] rfl (show At F G Q 6 7 [(0, .ref (G.2.1 19)), (1, .int v1), (2, .int v2), (3, .int v3), (4, .int v4_6)] [] (t_5, r) from hK)
      · refine a_iconst C (v := (1 : Int32)) (q := 47) dX1_letOut_46 rfl (by decide) ?_
        refine a_goto C (q := 51) dX1_letOut_47 (by decide) ?_
        refine a_iastN C (q := 52) (mk := (fun z => (z, r))) dX1_letOut_51 hf (by decide) rfl rfl cellE_C1 rfl (fun t_7 hf => ?_)
        refine a_iload C (i := 4) (q := 54) dX1_letOut_52 rfl 5 rfl ?_
        refine a_iconst C (v := (1 : Int32)) (q := 55) dX1_letOut_54 rfl (by decide) ?_
        refine a_isub C (q := 56) dX1_letOut_55 rfl ?_
        refine a_iload_n C (i := 3) (q := 57) dX1_letOut_56 rfl 4 rfl rfl ?_
        refine a_iand C (q := 58) dX1_letOut_57 rfl ?_
        refine a_istoreN C (i := 4) (q := 60) (lv' := fun z => [(4, .int z), (5, .int v5_2), (0, .ref (G.2.1 19)), (1, .int v1), (2, .int v2), (3, .int v3)]) dX1_letOut_58 hf (by decide) (fun _ => rfl) rfl (fun v4_8 hf => ?_)
        refine a_goto C (q := 7) dX1_letOut_60 (by decide) ?_
        have hf := Option.some.inj hf; subst hf
        exact a_sub [2, 3, 4, 5, 0] rfl (show At F G Q 6 7 [(0, .ref (G.2.1 19)), (1, .int v1), (2, .int v2), (3, .int v3), (4, .int v4_8)] [] (t_7, r) from hK)
theorem lp_X1_letOut_7 {F : FX} {G : GX} {Q : State → Prop} (C : Cx F G cX1_letOut 6 RX1) (hR : Rm F 5) (n : Nat) (r : SR) (v1 : Int32) (v2 : Int32) (v3 : Int32)  (v4 : Int32) (t : MM) (x : MM) (h : it2 (lb_X1_letOut_7 n v1 v2 v3) n v4 t = some x) (hE : E_X1_letOut_7 F G Q r v1 v2 v3 x) : At F G Q 6 7 [(0, .ref (G.2.1 19)), (1, .int v1), (2, .int v2), (3, .int v3), (4, .int v4)] [] (t, r) :=
  it2_ind (b := (lb_X1_letOut_7 n v1 v2 v3)) (E := E_X1_letOut_7 F G Q r v1 v2 v3) (P := fun v4 t => P_X1_letOut_7 F G Q r v1 v2 v3 v4 t) (fun v4 t res hf hK => w_X1_letOut_7 C hR n r v1 v2 v3   v4 t res hf hK) n v4 t x h hE
def f_X1_letOut (n : Nat) (t : MM) (v1 : Int32) (v2 : Int32) : Option (MM) :=
  nm (v1 &&& v2) (fun v3_1 => b1 (it2 (lb_X1_letOut_7 n v1 v2 v3_1) n v3_1 t) (fun t_9 => some t_9))
set_option maxHeartbeats 4000000 in
theorem w_X1_letOut_e {F : FX} {G : GX} {Q : State → Prop} (C : Cx F G cX1_letOut 6 RX1) (hR : Rm F 5) (n : Nat) (t : MM) (r : SR)  (v1 : Int32) (v2 : Int32) (res : MM) (hf : f_X1_letOut n t v1 v2 = some res) (hK : RetV F G Q cX1_letOut 6 (res, r)) : At F G Q 6 0 [(0, .ref (G.2.1 19)), (1, .int v1), (2, .int v2)] [] (t, r) := by
  unfold f_X1_letOut at hf
  refine a_iload_n C (i := 1) (q := 1) dX1_letOut_0 rfl 1 rfl rfl ?_
  refine a_iload_n C (i := 2) (q := 2) dX1_letOut_1 rfl 2 rfl rfl ?_
  refine a_iand C (q := 3) dX1_letOut_2 rfl ?_
  refine a_istore_nN C (i := 3) (q := 4) (lv' := fun z => [(3, .int z), (0, .ref (G.2.1 19)), (1, .int v1), (2, .int v2)]) dX1_letOut_3 hf rfl (by decide) (fun _ => rfl) rfl (fun v3_1 hf => ?_)
  refine a_iload_n C (i := 3) (q := 5) dX1_letOut_4 rfl 0 rfl rfl ?_
  refine a_istore C (i := 4) (q := 7) (lv' := [(4, .int v3_1), (3, .int v3_1), (0, .ref (G.2.1 19)), (1, .int v1), (2, .int v2)]) dX1_letOut_5 (by decide) rfl rfl ?_
  obtain ⟨t_9, h1, hf⟩ := b1_some hf
  refine a_sub [2, 3, 4, 1, 0] rfl (lp_X1_letOut_7 C hR n r v1 v2 v3_1  v3_1 t _ h1 ?_)
  show At F G Q 6 63 [] [] (t_9, r)
  have hf := Option.some.inj hf; subst hf
  exact (show RetV F G Q cX1_letOut 6 (t_9, r) from hK) _ _ dX1_letOut_63
theorem c_X1_letOut (l : Launch) (G : GX) (n : Nat) (t : MM) (r : SR) (v1 : Int32) (v2 : Int32) (res : MM) (hf : f_X1_letOut n t v1 v2 = some res) : MetC l G yX1_letOut cX1_letOut 6 none 5 (t, r) [.ref (G.2.1 19), .int v1, .int v2] (PostV G (res, r)) :=
  m_V (by decide) (Nat.le_of_ble_eq_true rfl) (fun F Q C h1 h2 h3 hK => w_X1_letOut_e C (Rm.of h1 h3) n t r v1 v2 res hf hK)
theorem cw_X1_stepAt : CwV RX1 yX1_stepAt cX1_stepAt 5 2 none := ⟨k_645, k_644, kp_13, k_6, by decide +kernel, by decide⟩
def P_X1_stepAt_17 (F : FX) (G : GX) (Q : State → Prop) (r : SR) (v3 : Int32) (v4 : Int32) (t : MM) : Prop := At F G Q 5 17 [(0, .ref (G.2.1 19)), (3, .int v3), (4, .int v4)] [] (t, r)
def E_X1_stepAt_17 (F : FX) (G : GX) (Q : State → Prop) (r : SR) (v3 : Int32) : MM → Prop := fun q => match q with
  | t => At F G Q 5 53 [] [] (t, r)
def lb_X1_stepAt_17 (n : Nat) (v3 : Int32) (v4 : Int32) (t : MM) : Option ((MM) ⊕ (Int32 × MM)) :=
  (if v4 ≤ 0 then some (.inl t) else ix v4 1024 ((if (t 22 v4.toNatClampNeg) = (1 : Int32) then (if (v4 &&& v3) = 0 then nm (v4 + (-1)) (fun v4_3 => some (.inr (v4_3, t))) else b1 (f_X1_letOut n t v4 v3) (fun y_4 => nm (v4 + (-1)) (fun v4_5 => some (.inr (v4_5, y_4))))) else nm (v4 + (-1)) (fun v4_2 => some (.inr (v4_2, t))))))
set_option maxHeartbeats 4000000 in
theorem w_X1_stepAt_17 {F : FX} {G : GX} {Q : State → Prop} (C : Cx F G cX1_stepAt 5 RX1) (hR : Rm F 6) (n : Nat) (r : SR) (v3 : Int32)  (v4 : Int32) (t : MM) (res : (MM) ⊕ (Int32 × MM)) (hf : lb_X1_stepAt_17 n v3 v4 t = some res) (hK : Sum.elim (E_X1_stepAt_17 F G Q r v3) (fun q => match q with | (v4, t) => P_X1_stepAt_17 F G Q r v3 v4 t) res) : P_X1_stepAt_17 F G Q r v3 v4 t := by
  unfold lb_X1_stepAt_17 at hf
  show At F G Q 5 17 [(0, .ref (G.2.1 19)), (3, .int v3), (4, .int v4)] [] (t, r)
  refine a_iload C (i := 4) (q := 19) dX1_stepAt_17 rfl 2 rfl ?_
  refine a_if_le C (tgt := 53) (q := 22) dX1_stepAt_19 hf (by decide) rfl (fun hf => ?_) (fun hf => ?_)
  · have hf := Option.some.inj hf; subst hf
    exact a_sub [] rfl (show At F G Q 5 53 [] [] (t, r) from hK)
  · refine a_aload_n C (i := 0) (q := 23) dX1_stepAt_22 rfl 0 rfl rfl ?_
    refine a_get1 C (q := 26) dX1_stepAt_23 3 (by decide) k_152 (by decide) rfl rfl rfl ?_
    refine a_iload C (i := 4) (q := 28) dX1_stepAt_26 rfl 2 rfl ?_
    refine a_iald C (q := 29) (g := t 22) dX1_stepAt_28 hf (by decide) rfl rfl (fun hf => ?_)
    refine a_iconst C (v := (1 : Int32)) (q := 30) dX1_stepAt_29 rfl (by decide) ?_
    refine a_icmp_ne C (tgt := 47) (q := 33) dX1_stepAt_30 hf (by decide) rfl (fun hf => ?_) (fun hf => ?_)
    · refine a_iincN C (i := 4) (k := 2) (q := 50) (lv' := fun z => [(4, .int z), (0, .ref (G.2.1 19)), (3, .int v3)]) dX1_stepAt_47 hf rfl rfl (by decide) (fun _ => rfl) rfl (fun v4_2 hf => ?_)
      refine a_goto C (q := 17) dX1_stepAt_50 (by decide) ?_
      have hf := Option.some.inj hf; subst hf
      exact a_sub [1, 2, 0] rfl (show At F G Q 5 17 [(0, .ref (G.2.1 19)), (3, .int v3), (4, .int v4_2)] [] (t, r) from hK)
    · refine a_iload C (i := 4) (q := 35) dX1_stepAt_33 rfl 2 rfl ?_
      refine a_iload_n C (i := 3) (q := 36) dX1_stepAt_35 rfl 1 rfl rfl ?_
      refine a_iand C (q := 37) dX1_stepAt_36 rfl ?_
      refine a_if_eq C (tgt := 47) (q := 40) dX1_stepAt_37 hf (by decide) rfl (fun hf => ?_) (fun hf => ?_)
      · refine a_iincN C (i := 4) (k := 2) (q := 50) (lv' := fun z => [(4, .int z), (0, .ref (G.2.1 19)), (3, .int v3)]) dX1_stepAt_47 hf rfl rfl (by decide) (fun _ => rfl) rfl (fun v4_3 hf => ?_)
        refine a_goto C (q := 17) dX1_stepAt_50 (by decide) ?_
        have hf := Option.some.inj hf; subst hf
        exact a_sub [1, 2, 0] rfl (show At F G Q 5 17 [(0, .ref (G.2.1 19)), (3, .int v3), (4, .int v4_3)] [] (t, r) from hK)
      · refine a_aload_n C (i := 0) (q := 41) dX1_stepAt_40 rfl 0 rfl rfl ?_
        refine a_iload C (i := 4) (q := 43) dX1_stepAt_41 rfl 2 rfl ?_
        refine a_iload_n C (i := 3) (q := 44) dX1_stepAt_43 rfl 1 rfl rfl ?_
        refine a_callVV C (q := 47) (As := [.int v4, .int v3]) (st := []) dX1_stepAt_44 hR (by decide) hf (fun b => (b, r)) (by decide) rfl rfl cw_X1_letOut (fun b hb => c_X1_letOut _ G n t r v4 v3 b hb) rfl rfl (Nat.le_of_ble_eq_true rfl) k_647 rfl (fun y_4 hf => ?_)
        refine a_iincN C (i := 4) (k := 2) (q := 50) (lv' := fun z => [(4, .int z), (0, .ref (G.2.1 19)), (3, .int v3)]) dX1_stepAt_47 hf rfl rfl (by decide) (fun _ => rfl) rfl (fun v4_5 hf => ?_)
        refine a_goto C (q := 17) dX1_stepAt_50 (by decide) ?_
        have hf := Option.some.inj hf; subst hf
        exact a_sub [1, 2, 0] rfl (show At F G Q 5 17 [(0, .ref (G.2.1 19)), (3, .int v3), (4, .int v4_5)] [] (y_4, r) from hK)
theorem lp_X1_stepAt_17 {F : FX} {G : GX} {Q : State → Prop} (C : Cx F G cX1_stepAt 5 RX1) (hR : Rm F 6) (n : Nat) (r : SR) (v3 : Int32)  (v4 : Int32) (t : MM) (x : MM) (h : it2 (lb_X1_stepAt_17 n v3) n v4 t = some x) (hE : E_X1_stepAt_17 F G Q r v3 x) : At F G Q 5 17 [(0, .ref (G.2.1 19)), (3, .int v3), (4, .int v4)] [] (t, r) :=
  it2_ind (b := (lb_X1_stepAt_17 n v3)) (E := E_X1_stepAt_17 F G Q r v3) (P := fun v4 t => P_X1_stepAt_17 F G Q r v3 v4 t) (fun v4 t res hf hK => w_X1_stepAt_17 C hR n r v3   v4 t res hf hK) n v4 t x h hE
def f_X1_stepAt (n : Nat) (t : MM) (v1 : Int32) (v2 : Int32) : Option (MM) :=
  b1 (f_X6_whoIsAt n t v1) (fun y_1 => (if y_1 = 0 then some t else b1 (it2 (lb_X1_stepAt_17 n y_1) n v2 t) (fun t_6 => some t_6)))
set_option maxHeartbeats 4000000 in
theorem w_X1_stepAt_e {F : FX} {G : GX} {Q : State → Prop} (C : Cx F G cX1_stepAt 5 RX1) (hR : Rm F 6) (n : Nat) (t : MM) (r : SR)  (v1 : Int32) (v2 : Int32) (res : MM) (hf : f_X1_stepAt n t v1 v2 = some res) (hK : RetV F G Q cX1_stepAt 5 (res, r)) : At F G Q 5 0 [(0, .ref (G.2.1 19)), (1, .int v1), (2, .int v2)] [] (t, r) := by
  unfold f_X1_stepAt at hf
  refine a_aload_n C (i := 0) (q := 1) dX1_stepAt_0 rfl 0 rfl rfl ?_
  refine a_get1 C (q := 4) dX1_stepAt_1 0 (by decide) k_149 (by decide) rfl rfl rfl ?_
  refine a_iload_n C (i := 1) (q := 5) dX1_stepAt_4 rfl 1 rfl rfl ?_
  refine a_callVI C (q := 8) (As := [.int v1]) (st := []) dX1_stepAt_5 hR (by decide) hf (fun b => b) (fun _ => (t, r)) (by decide) rfl rfl cw_X6_whoIsAt (fun b hb => c_X6_whoIsAt _ G n t r v1 b hb) rfl rfl (Nat.le_of_ble_eq_true rfl) k_646 rfl (fun y_1 hf => ?_)
  refine a_istore_n C (i := 3) (q := 9) (lv' := [(3, .int y_1), (0, .ref (G.2.1 19)), (1, .int v1), (2, .int v2)]) dX1_stepAt_8 rfl (by decide) rfl rfl ?_
  refine a_iload_n C (i := 3) (q := 10) dX1_stepAt_9 rfl 0 rfl rfl ?_
  refine a_if_ne C (tgt := 14) (q := 13) dX1_stepAt_10 hf (by decide) rfl (fun hf => ?_) (fun hf => ?_)
  · refine a_iload_n C (i := 2) (q := 15) dX1_stepAt_14 rfl 3 rfl rfl ?_
    refine a_istore C (i := 4) (q := 17) (lv' := [(4, .int v2), (3, .int y_1), (0, .ref (G.2.1 19)), (1, .int v1), (2, .int v2)]) dX1_stepAt_15 (by decide) rfl rfl ?_
    obtain ⟨t_6, h1, hf⟩ := b1_some hf
    refine a_sub [2, 1, 0] rfl (lp_X1_stepAt_17 C hR n r y_1  v2 t _ h1 ?_)
    show At F G Q 5 53 [] [] (t_6, r)
    have hf := Option.some.inj hf; subst hf
    exact (show RetV F G Q cX1_stepAt 5 (t_6, r) from hK) _ _ dX1_stepAt_53
  · have hf := Option.some.inj hf; subst hf
    exact (show RetV F G Q cX1_stepAt 5 (t, r) from hK) _ _ dX1_stepAt_13
theorem c_X1_stepAt (l : Launch) (G : GX) (n : Nat) (t : MM) (r : SR) (v1 : Int32) (v2 : Int32) (res : MM) (hf : f_X1_stepAt n t v1 v2 = some res) : MetC l G yX1_stepAt cX1_stepAt 5 none 6 (t, r) [.ref (G.2.1 19), .int v1, .int v2] (PostV G (res, r)) :=
  m_V (by decide) (Nat.le_of_ble_eq_true rfl) (fun F Q C h1 h2 h3 hK => w_X1_stepAt_e C (Rm.of h1 h3) n t r v1 v2 res hf hK)
theorem cw_X1_fewestMinutes : CwV RX1 yX1_fewestMinutes cX1_fewestMinutes 3 0 (some .int) := ⟨k_638, k_636, k_637, k_6, by decide +kernel, by decide⟩
def P_X1_fewestMinutes_10 (F : FX) (G : GX) (Q : State → Prop) (r : SR) (v1 : Int32) (v2 : Int32) (t : MM) : Prop := At F G Q 3 10 [(0, .ref (G.2.1 19)), (1, .int v1), (2, .int v2)] [] (t, r)
def E_X1_fewestMinutes_10 (F : FX) (G : GX) (Q : State → Prop) (r : SR) (v1 : Int32) : MM → Prop := fun q => match q with
  | t => At F G Q 3 28 [(0, .ref (G.2.1 19)), (1, .int v1)] [] (t, r)
def lb_X1_fewestMinutes_10 (n : Nat) (v1 : Int32) (v2 : Int32) (t : MM) : Option ((MM) ⊕ (Int32 × MM)) :=
  (if v1 < v2 then some (.inl t) else ix v2 1024 (nm (st1 t 22 v2.toNatClampNeg (0 : Int32)) (fun t_2 => nm (v2 + 1) (fun v2_3 => some (.inr (v2_3, t_2))))))
set_option maxHeartbeats 4000000 in
theorem w_X1_fewestMinutes_10 {F : FX} {G : GX} {Q : State → Prop} (C : Cx F G cX1_fewestMinutes 3 RX1) (hR : Rm F 7) (n : Nat) (r : SR) (v1 : Int32)  (v2 : Int32) (t : MM) (res : (MM) ⊕ (Int32 × MM)) (hf : lb_X1_fewestMinutes_10 n v1 v2 t = some res) (hK : Sum.elim (E_X1_fewestMinutes_10 F G Q r v1) (fun q => match q with | (v2, t) => P_X1_fewestMinutes_10 F G Q r v1 v2 t) res) : P_X1_fewestMinutes_10 F G Q r v1 v2 t := by
  unfold lb_X1_fewestMinutes_10 at hf
  show At F G Q 3 10 [(0, .ref (G.2.1 19)), (1, .int v1), (2, .int v2)] [] (t, r)
  refine a_iload_n C (i := 2) (q := 11) dX1_fewestMinutes_10 rfl 2 rfl rfl ?_
  refine a_iload_n C (i := 1) (q := 12) dX1_fewestMinutes_11 rfl 1 rfl rfl ?_
  refine a_icmp_gt C (tgt := 28) (q := 15) dX1_fewestMinutes_12 hf (by decide) rfl (fun hf => ?_) (fun hf => ?_)
  · have hf := Option.some.inj hf; subst hf
    exact a_sub [0, 1] rfl (show At F G Q 3 28 [(0, .ref (G.2.1 19)), (1, .int v1)] [] (t, r) from hK)
  · refine a_aload_n C (i := 0) (q := 16) dX1_fewestMinutes_15 rfl 0 rfl rfl ?_
    refine a_get1 C (q := 19) dX1_fewestMinutes_16 3 (by decide) k_152 (by decide) rfl rfl rfl ?_
    refine a_iload_n C (i := 2) (q := 20) dX1_fewestMinutes_19 rfl 2 rfl rfl ?_
    refine a_iconst C (v := (0 : Int32)) (q := 21) dX1_fewestMinutes_20 rfl (by decide) ?_
    refine a_iastN C (q := 22) (mk := (fun z => (z, r))) dX1_fewestMinutes_21 hf (by decide) rfl rfl cellE_C1 rfl (fun t_2 hf => ?_)
    refine a_iincN C (i := 2) (k := 2) (q := 25) (lv' := fun z => [(2, .int z), (0, .ref (G.2.1 19)), (1, .int v1)]) dX1_fewestMinutes_22 hf rfl rfl (by decide) (fun _ => rfl) rfl (fun v2_3 hf => ?_)
    refine a_goto C (q := 10) dX1_fewestMinutes_25 (by decide) ?_
    have hf := Option.some.inj hf; subst hf
    exact a_sub [1, 2, 0] rfl (show At F G Q 3 10 [(0, .ref (G.2.1 19)), (1, .int v1), (2, .int v2_3)] [] (t_2, r) from hK)
theorem lp_X1_fewestMinutes_10 {F : FX} {G : GX} {Q : State → Prop} (C : Cx F G cX1_fewestMinutes 3 RX1) (hR : Rm F 7) (n : Nat) (r : SR) (v1 : Int32)  (v2 : Int32) (t : MM) (x : MM) (h : it2 (lb_X1_fewestMinutes_10 n v1) n v2 t = some x) (hE : E_X1_fewestMinutes_10 F G Q r v1 x) : At F G Q 3 10 [(0, .ref (G.2.1 19)), (1, .int v1), (2, .int v2)] [] (t, r) :=
  it2_ind (b := (lb_X1_fewestMinutes_10 n v1)) (E := E_X1_fewestMinutes_10 F G Q r v1) (P := fun v2 t => P_X1_fewestMinutes_10 F G Q r v1 v2 t) (fun v2 t res hf hK => w_X1_fewestMinutes_10 C hR n r v1   v2 t res hf hK) n v2 t x h hE
def P_X1_fewestMinutes_48 (F : FX) (G : GX) (Q : State → Prop) (r : SR) (v1 : Int32) (v2 : Int32) (t : MM) : Prop := At F G Q 3 48 [(0, .ref (G.2.1 19)), (1, .int v1), (2, .int v2)] [] (t, r)
def E_X1_fewestMinutes_48 (F : FX) (G : GX) (Q : State → Prop) (r : SR) (v1 : Int32) : (Int32 × MM) ⊕ (MM) → Prop := fun q => match q with
  | .inl y => RetI F G Q cX1_fewestMinutes 3 .int y.1 (y.2, r)
  | .inr t => At F G Q 3 89 [] [] (t, r)
def lb_X1_fewestMinutes_48 (n : Nat) (v1 : Int32) (v2 : Int32) (t : MM) : Option (((Int32 × MM) ⊕ (MM)) ⊕ (Int32 × MM)) :=
  (if (23 : Int32) < v2 then some (.inl (.inr t)) else b1 (f_X6_foot t) (fun y_7 => b1 (f_X1_stepAt n t ((y_7 + v2) - (y_7 + v2) / (12 : Int32) * (12 : Int32)) v1) (fun y_8 => ix (0 : Int32) 1024 ((if (y_8 22 ((0 : Int32).toNatClampNeg)) = (1 : Int32) then some (.inl (.inl (v2, y_8))) else nm (v2 + 1) (fun v2_9 => some (.inr (v2_9, y_8))))))))
set_option maxHeartbeats 4000000 in
theorem w_X1_fewestMinutes_48 {F : FX} {G : GX} {Q : State → Prop} (C : Cx F G cX1_fewestMinutes 3 RX1) (hR : Rm F 7) (n : Nat) (r : SR) (v1 : Int32)  (v2 : Int32) (t : MM) (res : ((Int32 × MM) ⊕ (MM)) ⊕ (Int32 × MM)) (hf : lb_X1_fewestMinutes_48 n v1 v2 t = some res) (hK : Sum.elim (E_X1_fewestMinutes_48 F G Q r v1) (fun q => match q with | (v2, t) => P_X1_fewestMinutes_48 F G Q r v1 v2 t) res) : P_X1_fewestMinutes_48 F G Q r v1 v2 t := by
  unfold lb_X1_fewestMinutes_48 at hf
  show At F G Q 3 48 [(0, .ref (G.2.1 19)), (1, .int v1), (2, .int v2)] [] (t, r)
  refine a_iload_n C (i := 2) (q := 49) dX1_fewestMinutes_48 rfl 2 rfl rfl ?_
  refine a_bipush C (v := (23 : Int32)) (q := 51) dX1_fewestMinutes_49 rfl (by decide) ?_
  refine a_icmp_gt C (tgt := 89) (q := 54) dX1_fewestMinutes_51 hf (by decide) rfl (fun hf => ?_) (fun hf => ?_)
  · have hf := Option.some.inj hf; subst hf
    exact a_sub [] rfl (show At F G Q 3 89 [] [] (t, r) from hK)
  · refine a_aload_n C (i := 0) (q := 55) dX1_fewestMinutes_54 rfl 0 rfl rfl ?_
    refine a_aload_n C (i := 0) (q := 56) dX1_fewestMinutes_55 rfl 0 rfl rfl ?_
    refine a_get1 C (q := 59) dX1_fewestMinutes_56 0 (by decide) k_149 (by decide) rfl rfl rfl ?_
    refine a_callVI C (q := 62) (As := []) (st := [.ref (G.2.1 19)]) dX1_fewestMinutes_59 hR (by decide) hf (fun b => b) (fun _ => (t, r)) (by decide) rfl rfl cw_X6_foot (fun b hb => c_X6_foot _ G t r b hb) rfl rfl (Nat.le_of_ble_eq_true rfl) k_641 rfl (fun y_7 hf => ?_)
    refine a_iload_n C (i := 2) (q := 63) dX1_fewestMinutes_62 rfl 2 rfl rfl ?_
    refine a_iadd C (q := 64) dX1_fewestMinutes_63 rfl ?_
    refine a_bipush C (v := (12 : Int32)) (q := 66) dX1_fewestMinutes_64 rfl (by decide) ?_
    refine a_irem C (q := 67) dX1_fewestMinutes_66 rfl (by decide) ?_
    refine a_iload_n C (i := 1) (q := 68) dX1_fewestMinutes_67 rfl 1 rfl rfl ?_
    refine a_callVV C (q := 71) (As := [.int ((y_7 + v2) - (y_7 + v2) / (12 : Int32) * (12 : Int32)), .int v1]) (st := []) dX1_fewestMinutes_68 hR (by decide) hf (fun b => (b, r)) (by decide) rfl rfl cw_X1_stepAt (fun b hb => c_X1_stepAt _ G n t r ((y_7 + v2) - (y_7 + v2) / (12 : Int32) * (12 : Int32)) v1 b hb) rfl rfl (Nat.le_of_ble_eq_true rfl) k_642 rfl (fun y_8 hf => ?_)
    refine a_aload_n C (i := 0) (q := 72) dX1_fewestMinutes_71 rfl 0 rfl rfl ?_
    refine a_get1 C (q := 75) dX1_fewestMinutes_72 3 (by decide) k_152 (by decide) rfl rfl rfl ?_
    refine a_iconst C (v := (0 : Int32)) (q := 76) dX1_fewestMinutes_75 rfl (by decide) ?_
    refine a_iald C (q := 77) (g := y_8 22) dX1_fewestMinutes_76 hf (by decide) rfl rfl (fun hf => ?_)
    refine a_iconst C (v := (1 : Int32)) (q := 78) dX1_fewestMinutes_77 rfl (by decide) ?_
    refine a_icmp_ne C (tgt := 83) (q := 81) dX1_fewestMinutes_78 hf (by decide) rfl (fun hf => ?_) (fun hf => ?_)
    · refine a_iincN C (i := 2) (k := 2) (q := 86) (lv' := fun z => [(2, .int z), (0, .ref (G.2.1 19)), (1, .int v1)]) dX1_fewestMinutes_83 hf rfl rfl (by decide) (fun _ => rfl) rfl (fun v2_9 hf => ?_)
      refine a_goto C (q := 48) dX1_fewestMinutes_86 (by decide) ?_
      have hf := Option.some.inj hf; subst hf
      exact a_sub [1, 2, 0] rfl (show At F G Q 3 48 [(0, .ref (G.2.1 19)), (1, .int v1), (2, .int v2_9)] [] (y_8, r) from hK)
    · refine a_iload_n C (i := 2) (q := 82) dX1_fewestMinutes_81 rfl 2 rfl rfl ?_
      have hf := Option.some.inj hf; subst hf
      exact (show RetI F G Q cX1_fewestMinutes 3 .int v2 (y_8, r) from hK) rfl _ _ dX1_fewestMinutes_82
theorem lp_X1_fewestMinutes_48 {F : FX} {G : GX} {Q : State → Prop} (C : Cx F G cX1_fewestMinutes 3 RX1) (hR : Rm F 7) (n : Nat) (r : SR) (v1 : Int32)  (v2 : Int32) (t : MM) (x : (Int32 × MM) ⊕ (MM)) (h : it2 (lb_X1_fewestMinutes_48 n v1) n v2 t = some x) (hE : E_X1_fewestMinutes_48 F G Q r v1 x) : At F G Q 3 48 [(0, .ref (G.2.1 19)), (1, .int v1), (2, .int v2)] [] (t, r) :=
  it2_ind (b := (lb_X1_fewestMinutes_48 n v1)) (E := E_X1_fewestMinutes_48 F G Q r v1) (P := fun v2 t => P_X1_fewestMinutes_48 F G Q r v1 v2 t) (fun v2 t res hf hK => w_X1_fewestMinutes_48 C hR n r v1   v2 t res hf hK) n v2 t x h hE
def f_X1_fewestMinutes (n : Nat) (t : MM) : Option (Int32 × MM) :=
  b1 (f_X6_whoRides n t) (fun y_1 => b1 (it2 (lb_X1_fewestMinutes_10 n y_1) n (0 : Int32) t) (fun t_4 => ix y_1 1024 (nm (st1 t_4 22 y_1.toNatClampNeg (1 : Int32)) (fun t_5 => b1 (f_X6_weighSand n t_5 20) (fun y_6 => bR (it2 (lb_X1_fewestMinutes_48 n y_1) n (0 : Int32) y_6) (fun y => some y) (fun t_10 => some ((-4 : Int32), t_10)))))))
set_option maxHeartbeats 4000000 in
theorem w_X1_fewestMinutes_e {F : FX} {G : GX} {Q : State → Prop} (C : Cx F G cX1_fewestMinutes 3 RX1) (hR : Rm F 7) (n : Nat) (t : MM) (r : SR)   (res : Int32 × MM) (hf : f_X1_fewestMinutes n t = some res) (hK : RetI F G Q cX1_fewestMinutes 3 .int res.1 (res.2, r)) : At F G Q 3 0 [(0, .ref (G.2.1 19))] [] (t, r) := by
  unfold f_X1_fewestMinutes at hf
  refine a_aload_n C (i := 0) (q := 1) dX1_fewestMinutes_0 rfl 0 rfl rfl ?_
  refine a_get1 C (q := 4) dX1_fewestMinutes_1 0 (by decide) k_149 (by decide) rfl rfl rfl ?_
  refine a_callVI C (q := 7) (As := []) (st := []) dX1_fewestMinutes_4 hR (by decide) hf (fun b => b) (fun _ => (t, r)) (by decide) rfl rfl cw_X6_whoRides (fun b hb => c_X6_whoRides _ G n t r b hb) rfl rfl (Nat.le_of_ble_eq_true rfl) k_639 rfl (fun y_1 hf => ?_)
  refine a_istore_n C (i := 1) (q := 8) (lv' := [(1, .int y_1), (0, .ref (G.2.1 19))]) dX1_fewestMinutes_7 rfl (by decide) rfl rfl ?_
  refine a_iconst C (v := (0 : Int32)) (q := 9) dX1_fewestMinutes_8 rfl (by decide) ?_
  refine a_istore_n C (i := 2) (q := 10) (lv' := [(2, .int (0 : Int32)), (1, .int y_1), (0, .ref (G.2.1 19))]) dX1_fewestMinutes_9 rfl (by decide) rfl rfl ?_
  obtain ⟨t_4, h1, hf⟩ := b1_some hf
  refine a_sub [2, 1, 0] rfl (lp_X1_fewestMinutes_10 C hR n r y_1  (0 : Int32) t _ h1 ?_)
  show At F G Q 3 28 [(0, .ref (G.2.1 19)), (1, .int y_1)] [] (t_4, r)
  refine a_aload_n C (i := 0) (q := 29) dX1_fewestMinutes_28 rfl 0 rfl rfl ?_
  refine a_get1 C (q := 32) dX1_fewestMinutes_29 3 (by decide) k_152 (by decide) rfl rfl rfl ?_
  refine a_iload_n C (i := 1) (q := 33) dX1_fewestMinutes_32 rfl 1 rfl rfl ?_
  refine a_iconst C (v := (1 : Int32)) (q := 34) dX1_fewestMinutes_33 rfl (by decide) ?_
  refine a_iastN C (q := 35) (mk := (fun z => (z, r))) dX1_fewestMinutes_34 hf (by decide) rfl rfl cellE_C1 rfl (fun t_5 hf => ?_)
  refine a_aload_n C (i := 0) (q := 36) dX1_fewestMinutes_35 rfl 0 rfl rfl ?_
  refine a_get1 C (q := 39) dX1_fewestMinutes_36 0 (by decide) k_149 (by decide) rfl rfl rfl ?_
  refine a_aload_n C (i := 0) (q := 40) dX1_fewestMinutes_39 rfl 0 rfl rfl ?_
  refine a_get1 C (q := 43) dX1_fewestMinutes_40 1 (by decide) k_150 (by decide) rfl rfl rfl ?_
  refine a_callVV C (q := 46) (As := [.ref (G.2.1 20)]) (st := []) dX1_fewestMinutes_43 hR (by decide) hf (fun b => (b, r)) (by decide) rfl rfl cw_X6_weighSand (fun b hb => c_X6_weighSand _ G n t_5 r 20 (by unfold isBal; decide) b hb) rfl rfl (Nat.le_of_ble_eq_true rfl) k_640 rfl (fun y_6 hf => ?_)
  refine a_iconst C (v := (0 : Int32)) (q := 47) dX1_fewestMinutes_46 rfl (by decide) ?_
  refine a_istore_n C (i := 2) (q := 48) (lv' := [(2, .int (0 : Int32)), (0, .ref (G.2.1 19)), (1, .int y_1)]) dX1_fewestMinutes_47 rfl (by decide) rfl rfl ?_
  rcases bR_some hf with ⟨y, h1, hf⟩ | ⟨t_10, h1, hf⟩
  · refine a_sub [1, 2, 0] rfl (lp_X1_fewestMinutes_48 C hR n r y_1  (0 : Int32) y_6 _ h1 ?_)
    have hf := Option.some.inj hf; subst hf
    exact hK
  · refine a_sub [1, 2, 0] rfl (lp_X1_fewestMinutes_48 C hR n r y_1  (0 : Int32) y_6 _ h1 ?_)
    show At F G Q 3 89 [] [] (t_10, r)
    refine a_bipush C (v := (-4 : Int32)) (q := 91) dX1_fewestMinutes_89 rfl (by decide) ?_
    have hf := Option.some.inj hf; subst hf
    exact (show RetI F G Q cX1_fewestMinutes 3 .int (-4 : Int32) (t_10, r) from hK) rfl _ _ dX1_fewestMinutes_91
theorem c_X1_fewestMinutes (l : Launch) (G : GX) (n : Nat) (t : MM) (r : SR)  (res : Int32 × MM) (hf : f_X1_fewestMinutes n t = some res) : MetC l G yX1_fewestMinutes cX1_fewestMinutes 3 (some .int) 7 (t, r) [.ref (G.2.1 19)] (PostI G res.1 (res.2, r)) :=
  m_I (by decide) (Nat.le_of_ble_eq_true rfl) (fun F Q C h1 h2 h3 hK => w_X1_fewestMinutes_e C (Rm.of h1 h3) n t r res hf hK)
