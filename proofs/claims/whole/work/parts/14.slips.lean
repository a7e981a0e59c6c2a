theorem cw_X4_listRiders : CwV RX4 yX4_listRiders cX4_listRiders 4 0 (some .int) := ⟨k_683, k_682, kp_17, k_7, by decide +kernel, by decide⟩
def P_X4_listRiders_12 (F : FX) (G : GX) (Q : State → Prop) (r : SR) (v1 : Int32) (v2 : Int32) (v3 : Int32) (t : MM) : Prop := At F G Q 4 12 [(0, .ref (G.2.1 23)), (1, .int v1), (2, .int v2), (3, .int v3)] [] (t, r)
def E_X4_listRiders_12 (F : FX) (G : GX) (Q : State → Prop) (r : SR) (v1 : Int32) : Int32 × MM → Prop := fun q => match q with
  | (v2, t) => At F G Q 4 42 [(2, .int v2)] [] (t, r)
def lb_X4_listRiders_12 (n : Nat) (v1 : Int32) (v2 : Int32) (v3 : Int32) (t : MM) : Option ((Int32 × MM) ⊕ (Int32 × Int32 × MM)) :=
  (if (10 : Int32) ≤ v3 then some (.inl (v2, t)) else (if ((v1 >>> (v3 &&& 31)) &&& (1 : Int32)) = 0 then nm (v3 + 1) (fun v3_2 => some (.inr (v2, v3_2, t))) else ix v2 10 (nm (st1 t 26 v2.toNatClampNeg v3) (fun t_3 => nm (v2 + 1) (fun v2_4 => nm (v3 + 1) (fun v3_5 => some (.inr (v2_4, v3_5, t_3))))))))
set_option maxHeartbeats 4000000 in
theorem w_X4_listRiders_12 {F : FX} {G : GX} {Q : State → Prop} (C : Cx F G cX4_listRiders 4 RX4) (hR : Rm F 3) (n : Nat) (r : SR) (v1 : Int32)  (v2 : Int32) (v3 : Int32) (t : MM) (res : (Int32 × MM) ⊕ (Int32 × Int32 × MM)) (hf : lb_X4_listRiders_12 n v1 v2 v3 t = some res) (hK : Sum.elim (E_X4_listRiders_12 F G Q r v1) (fun q => match q with | (v2, v3, t) => P_X4_listRiders_12 F G Q r v1 v2 v3 t) res) : P_X4_listRiders_12 F G Q r v1 v2 v3 t := by
  unfold lb_X4_listRiders_12 at hf
  show At F G Q 4 12 [(0, .ref (G.2.1 23)), (1, .int v1), (2, .int v2), (3, .int v3)] [] (t, r)
  refine a_iload_n C (i := 3) (q := 13) dX4_listRiders_12 rfl 3 rfl rfl ?_
  refine a_bipush C (v := (10 : Int32)) (q := 15) dX4_listRiders_13 rfl (by decide) ?_
  refine a_icmp_ge C (tgt := 42) (q := 18) dX4_listRiders_15 hf (by decide) rfl (fun hf => ?_) (fun hf => ?_)
  · have hf := Option.some.inj hf; subst hf
    exact a_sub [2] rfl (show At F G Q 4 42 [(2, .int v2)] [] (t, r) from hK)
  · refine a_iload_n C (i := 1) (q := 19) dX4_listRiders_18 rfl 1 rfl rfl ?_
    refine a_iload_n C (i := 3) (q := 20) dX4_listRiders_19 rfl 3 rfl rfl ?_
    refine a_ishr C (q := 21) dX4_listRiders_20 rfl ?_
    refine a_iconst C (v := (1 : Int32)) (q := 22) dX4_listRiders_21 rfl (by decide) ?_
    refine a_iand C (q := 23) dX4_listRiders_22 rfl ?_
    refine a_if_eq C (tgt := 36) (q := 26) dX4_listRiders_23 hf (by decide) rfl (fun hf => ?_) (fun hf => ?_)
    · refine a_iincN C (i := 3) (k := 3) (q := 39) (lv' := fun z => [(3, .int z), (0, .ref (G.2.1 23)), (1, .int v1), (2, .int v2)]) dX4_listRiders_36 hf rfl rfl (by decide) (fun _ => rfl) rfl (fun v3_2 hf => ?_)
      refine a_goto C (q := 12) dX4_listRiders_39 (by decide) ?_
      have hf := Option.some.inj hf; subst hf
      exact a_sub [1, 2, 3, 0] rfl (show At F G Q 4 12 [(0, .ref (G.2.1 23)), (1, .int v1), (2, .int v2), (3, .int v3_2)] [] (t, r) from hK)
    · refine a_aload_n C (i := 0) (q := 27) dX4_listRiders_26 rfl 0 rfl rfl ?_
      refine a_get4 C (q := 30) dX4_listRiders_27 3 (by decide) k_173 (by decide) rfl rfl rfl ?_
      refine a_iload_n C (i := 2) (q := 31) dX4_listRiders_30 rfl 2 rfl rfl ?_
      refine a_iload_n C (i := 3) (q := 32) dX4_listRiders_31 rfl 3 rfl rfl ?_
      refine a_iastN C (q := 33) (mk := (fun z => (z, r))) dX4_listRiders_32 hf (by decide) rfl rfl cellE_C1 rfl (fun t_3 hf => ?_)
      refine a_iincN C (i := 2) (k := 2) (q := 36) (lv' := fun z => [(2, .int z), (0, .ref (G.2.1 23)), (1, .int v1), (3, .int v3)]) dX4_listRiders_33 hf rfl rfl (by decide) (fun _ => rfl) rfl (fun v2_4 hf => ?_)
      refine a_iincN C (i := 3) (k := 3) (q := 39) (lv' := fun z => [(3, .int z), (2, .int v2_4), (0, .ref (G.2.1 23)), (1, .int v1)]) dX4_listRiders_36 hf rfl rfl (by decide) (fun _ => rfl) rfl (fun v3_5 hf => ?_)
      refine a_goto C (q := 12) dX4_listRiders_39 (by decide) ?_
      have hf := Option.some.inj hf; subst hf
      exact a_sub [2, 3, 1, 0] rfl (show At F G Q 4 12 [(0, .ref (G.2.1 23)), (1, .int v1), (2, .int v2_4), (3, .int v3_5)] [] (t_3, r) from hK)
theorem lp_X4_listRiders_12 {F : FX} {G : GX} {Q : State → Prop} (C : Cx F G cX4_listRiders 4 RX4) (hR : Rm F 3) (n : Nat) (r : SR) (v1 : Int32)  (v2 : Int32) (v3 : Int32) (t : MM) (x : Int32 × MM) (h : it3 (lb_X4_listRiders_12 n v1) n v2 v3 t = some x) (hE : E_X4_listRiders_12 F G Q r v1 x) : At F G Q 4 12 [(0, .ref (G.2.1 23)), (1, .int v1), (2, .int v2), (3, .int v3)] [] (t, r) :=
  it3_ind (b := (lb_X4_listRiders_12 n v1)) (E := E_X4_listRiders_12 F G Q r v1) (P := fun v2 v3 t => P_X4_listRiders_12 F G Q r v1 v2 v3 t) (fun v2 v3 t res hf hK => w_X4_listRiders_12 C hR n r v1   v2 v3 t res hf hK) n v2 v3 t x h hE
def f_X4_listRiders (n : Nat) (t : MM) : Option (Int32 × MM) :=
  b1 (f_X6_whoRides n t) (fun y_1 => b2 (it3 (lb_X4_listRiders_12 n y_1) n (0 : Int32) (0 : Int32) t) (fun v2_6 t_7 => some (v2_6, t_7)))
set_option maxHeartbeats 4000000 in
theorem w_X4_listRiders_e {F : FX} {G : GX} {Q : State → Prop} (C : Cx F G cX4_listRiders 4 RX4) (hR : Rm F 3) (n : Nat) (t : MM) (r : SR)   (res : Int32 × MM) (hf : f_X4_listRiders n t = some res) (hK : RetI F G Q cX4_listRiders 4 .int res.1 (res.2, r)) : At F G Q 4 0 [(0, .ref (G.2.1 23))] [] (t, r) := by
  unfold f_X4_listRiders at hf
  refine a_aload_n C (i := 0) (q := 1) dX4_listRiders_0 rfl 0 rfl rfl ?_
  refine a_get4 C (q := 4) dX4_listRiders_1 0 (by decide) k_170 (by decide) rfl rfl rfl ?_
  refine a_callVI C (q := 7) (As := []) (st := []) dX4_listRiders_4 hR (by decide) hf (fun b => b) (fun _ => (t, r)) (by decide) rfl rfl cw_X6_whoRides (fun b hb => c_X6_whoRides _ G n t r b hb) rfl rfl (Nat.le_of_ble_eq_true rfl) k_684 rfl (fun y_1 hf => ?_)
  refine a_istore_n C (i := 1) (q := 8) (lv' := [(1, .int y_1), (0, .ref (G.2.1 23))]) dX4_listRiders_7 rfl (by decide) rfl rfl ?_
  refine a_iconst C (v := (0 : Int32)) (q := 9) dX4_listRiders_8 rfl (by decide) ?_
  refine a_istore_n C (i := 2) (q := 10) (lv' := [(2, .int (0 : Int32)), (1, .int y_1), (0, .ref (G.2.1 23))]) dX4_listRiders_9 rfl (by decide) rfl rfl ?_
  refine a_iconst C (v := (0 : Int32)) (q := 11) dX4_listRiders_10 rfl (by decide) ?_
  refine a_istore_n C (i := 3) (q := 12) (lv' := [(3, .int (0 : Int32)), (2, .int (0 : Int32)), (1, .int y_1), (0, .ref (G.2.1 23))]) dX4_listRiders_11 rfl (by decide) rfl rfl ?_
  obtain ⟨v2_6, t_7, h1, hf⟩ := b2_some hf
  refine a_sub [3, 2, 1, 0] rfl (lp_X4_listRiders_12 C hR n r y_1  (0 : Int32) (0 : Int32) t _ h1 ?_)
  show At F G Q 4 42 [(2, .int v2_6)] [] (t_7, r)
  refine a_iload_n C (i := 2) (q := 43) dX4_listRiders_42 rfl 0 rfl rfl ?_
  have hf := Option.some.inj hf; subst hf
  exact (show RetI F G Q cX4_listRiders 4 .int v2_6 (t_7, r) from hK) rfl _ _ dX4_listRiders_43
theorem c_X4_listRiders (l : Launch) (G : GX) (n : Nat) (t : MM) (r : SR)  (res : Int32 × MM) (hf : f_X4_listRiders n t = some res) : MetC l G yX4_listRiders cX4_listRiders 4 (some .int) 3 (t, r) [.ref (G.2.1 23)] (PostI G res.1 (res.2, r)) :=
  m_I (by decide) (Nat.le_of_ble_eq_true rfl) (fun F Q C h1 h2 h3 hK => w_X4_listRiders_e C (Rm.of h1 h3) n t r res hf hK)
theorem cw_X4_findWorst : CwV RX4 yX4_findWorst cX4_findWorst 7 1 none := ⟨k_679, k_677, k_678, k_7, by decide +kernel, by decide⟩
def P_X4_findWorst_29 (F : FX) (G : GX) (Q : State → Prop) (r : SR) (v1 : Int32) (v2 : Int32) (v3 : Int32) (t : MM) : Prop := At F G Q 7 29 [(0, .ref (G.2.1 23)), (1, .int v1), (2, .int v2), (3, .int v3)] [] (t, r)
def E_X4_findWorst_29 (F : FX) (G : GX) (Q : State → Prop) (r : SR) (v1 : Int32) (v2 : Int32) : MM → Prop := fun q => match q with
  | t => At F G Q 7 160 [] [] (t, r)
def P_X4_findWorst_50 (F : FX) (G : GX) (Q : State → Prop) (r : SR) (v1 : Int32) (v2 : Int32) (v3 : Int32) (v4 : Int32) (t : MM) : Prop := At F G Q 7 50 [(0, .ref (G.2.1 23)), (1, .int v1), (2, .int v2), (3, .int v3), (4, .int v4)] [] (t, r)
def E_X4_findWorst_50 (F : FX) (G : GX) (Q : State → Prop) (r : SR) (v1 : Int32) (v2 : Int32) (v3 : Int32) : MM → Prop := fun q => match q with
  | t => At F G Q 7 129 [(0, .ref (G.2.1 23)), (1, .int v1), (2, .int v2), (3, .int v3)] [] (t, r)
def f_X4_findWorst_97_in50 (n : Nat) (t : MM) (v1 : Int32) (v2 : Int32) (v3 : Int32) (v4 : Int32) (w0 : Int32) : Option ((MM) ⊕ (Int32 × MM)) :=
  ix v4 10 (ix (t 26 v4.toNatClampNeg) 10 (b1 (f_X2_hang t 25 (t 4 ((t 26 v4.toNatClampNeg).toNatClampNeg)) w0) (fun y_6 => nm (v4 + 1) (fun v4_7 => some (.inr (v4_7, y_6))))))
set_option maxHeartbeats 4000000 in
theorem w_X4_findWorst_97_in50 {F : FX} {G : GX} {Q : State → Prop} (C : Cx F G cX4_findWorst 7 RX4) (hR : Rm F 5) (n : Nat) (t : MM) (r : SR)  (v1 : Int32) (v2 : Int32) (v3 : Int32) (v4 : Int32) (w0 : Int32) (res : (MM) ⊕ (Int32 × MM)) (hf : f_X4_findWorst_97_in50 n t v1 v2 v3 v4 w0 = some res) (hK : Sum.elim (E_X4_findWorst_50 F G Q r v1 v2 v3) (fun q => match q with | (v4, t) => P_X4_findWorst_50 F G Q r v1 v2 v3 v4 t) res) : At F G Q 7 97 [(0, .ref (G.2.1 23)), (1, .int v1), (2, .int v2), (3, .int v3), (4, .int v4)] [.int w0] (t, r) := by
  unfold f_X4_findWorst_97_in50 at hf
  refine a_istore C (i := 6) (q := 99) (lv' := [(6, .int w0), (0, .ref (G.2.1 23)), (1, .int v1), (2, .int v2), (3, .int v3), (4, .int v4)]) dX4_findWorst_97 (by decide) rfl rfl ?_
  refine a_aload_n C (i := 0) (q := 100) dX4_findWorst_99 rfl 1 rfl rfl ?_
  refine a_get4 C (q := 103) dX4_findWorst_100 2 (by decide) k_172 (by decide) rfl rfl rfl ?_
  refine a_aload_n C (i := 0) (q := 104) dX4_findWorst_103 rfl 1 rfl rfl ?_
  refine a_get4 C (q := 107) dX4_findWorst_104 0 (by decide) k_170 (by decide) rfl rfl rfl ?_
  refine a_get6 C (q := 110) dX4_findWorst_107 2 (by decide) k_38 (by decide) rfl rfl rfl ?_
  refine a_aload_n C (i := 0) (q := 111) dX4_findWorst_110 rfl 1 rfl rfl ?_
  refine a_get4 C (q := 114) dX4_findWorst_111 3 (by decide) k_173 (by decide) rfl rfl rfl ?_
  refine a_iload C (i := 4) (q := 116) dX4_findWorst_114 rfl 5 rfl ?_
  refine a_iald C (q := 117) (g := t 26) dX4_findWorst_116 hf (by decide) rfl rfl (fun hf => ?_)
  refine a_iald C (q := 118) (g := t 4) dX4_findWorst_117 hf (by decide) rfl rfl (fun hf => ?_)
  refine a_iload C (i := 6) (q := 120) dX4_findWorst_118 rfl 0 rfl ?_
  refine a_callVV C (q := 123) (As := [.int (t 4 ((t 26 v4.toNatClampNeg).toNatClampNeg)), .int w0]) (st := []) dX4_findWorst_120 hR (by decide) hf (fun b => (b, r)) (by decide) rfl rfl cw_X2_hang (fun b hb => c_X2_hang _ G t r 25 (t 4 ((t 26 v4.toNatClampNeg).toNatClampNeg)) w0 (by unfold isBal; decide) b hb) rfl rfl (Nat.le_of_ble_eq_true rfl) k_689 rfl (fun y_6 hf => ?_)
  refine a_iincN C (i := 4) (k := 5) (q := 126) (lv' := fun z => [(4, .int z), (6, .int w0), (0, .ref (G.2.1 23)), (1, .int v1), (2, .int v2), (3, .int v3)]) dX4_findWorst_123 hf rfl rfl (by decide) (fun _ => rfl) rfl (fun v4_7 hf => ?_)
  refine a_goto C (q := 50) dX4_findWorst_126 (by decide) ?_
  have hf := Option.some.inj hf; subst hf
  exact a_sub [2, 3, 4, 5, 0] rfl (show At F G Q 7 50 [(0, .ref (G.2.1 23)), (1, .int v1), (2, .int v2), (3, .int v3), (4, .int v4_7)] [] (y_6, r) from hK)
def lb_X4_findWorst_50 (n : Nat) (v1 : Int32) (v2 : Int32) (v3 : Int32) (v4 : Int32) (t : MM) : Option ((MM) ⊕ (Int32 × MM)) :=
  (if v2 ≤ v4 then some (.inl t) else ix v4 10 (ix (t 26 v4.toNatClampNeg) 10 (nm (t 3 ((t 26 v4.toNatClampNeg).toNatClampNeg)) (fun v5_5 => (if ((v3 >>> (v4 &&& 31)) &&& (1 : Int32)) = 0 then f_X4_findWorst_97_in50 n t v1 v2 v3 v4 (if (0 : Int32) < (v5_5 - v1) then (v5_5 - v1) else (0 : Int32)) else f_X4_findWorst_97_in50 n t v1 v2 v3 v4 (v5_5 + v1))))))
set_option maxHeartbeats 4000000 in
theorem w_X4_findWorst_50 {F : FX} {G : GX} {Q : State → Prop} (C : Cx F G cX4_findWorst 7 RX4) (hR : Rm F 5) (n : Nat) (r : SR) (v1 : Int32) (v2 : Int32) (v3 : Int32)  (v4 : Int32) (t : MM) (res : (MM) ⊕ (Int32 × MM)) (hf : lb_X4_findWorst_50 n v1 v2 v3 v4 t = some res) (hK : Sum.elim (E_X4_findWorst_50 F G Q r v1 v2 v3) (fun q => match q with | (v4, t) => P_X4_findWorst_50 F G Q r v1 v2 v3 v4 t) res) : P_X4_findWorst_50 F G Q r v1 v2 v3 v4 t := by
  unfold lb_X4_findWorst_50 at hf
  show At F G Q 7 50 [(0, .ref (G.2.1 23)), (1, .int v1), (2, .int v2), (3, .int v3), (4, .int v4)] [] (t, r)
  refine a_iload C (i := 4) (q := 52) dX4_findWorst_50 rfl 4 rfl ?_
  refine a_iload_n C (i := 2) (q := 53) dX4_findWorst_52 rfl 2 rfl rfl ?_
  refine a_icmp_ge C (tgt := 129) (q := 56) dX4_findWorst_53 hf (by decide) rfl (fun hf => ?_) (fun hf => ?_)
  · have hf := Option.some.inj hf; subst hf
    exact a_sub [0, 1, 2, 3] rfl (show At F G Q 7 129 [(0, .ref (G.2.1 23)), (1, .int v1), (2, .int v2), (3, .int v3)] [] (t, r) from hK)
  · refine a_aload_n C (i := 0) (q := 57) dX4_findWorst_56 rfl 0 rfl rfl ?_
    refine a_get4 C (q := 60) dX4_findWorst_57 0 (by decide) k_170 (by decide) rfl rfl rfl ?_
    refine a_get6 C (q := 63) dX4_findWorst_60 1 (by decide) k_35 (by decide) rfl rfl rfl ?_
    refine a_aload_n C (i := 0) (q := 64) dX4_findWorst_63 rfl 0 rfl rfl ?_
    refine a_get4 C (q := 67) dX4_findWorst_64 3 (by decide) k_173 (by decide) rfl rfl rfl ?_
    refine a_iload C (i := 4) (q := 69) dX4_findWorst_67 rfl 4 rfl ?_
    refine a_iald C (q := 70) (g := t 26) dX4_findWorst_69 hf (by decide) rfl rfl (fun hf => ?_)
    refine a_iald C (q := 71) (g := t 3) dX4_findWorst_70 hf (by decide) rfl rfl (fun hf => ?_)
    refine a_istoreN C (i := 5) (q := 73) (lv' := fun z => [(5, .int z), (0, .ref (G.2.1 23)), (1, .int v1), (2, .int v2), (3, .int v3), (4, .int v4)]) dX4_findWorst_71 hf (by decide) (fun _ => rfl) rfl (fun v5_5 hf => ?_)
    refine a_iload_n C (i := 3) (q := 74) dX4_findWorst_73 rfl 4 rfl rfl ?_
    refine a_iload C (i := 4) (q := 76) dX4_findWorst_74 rfl 5 rfl ?_
    refine a_ishr C (q := 77) dX4_findWorst_76 rfl ?_
    refine a_iconst C (v := (1 : Int32)) (q := 78) dX4_findWorst_77 rfl (by decide) ?_
    refine a_iand C (q := 79) dX4_findWorst_78 rfl ?_
    refine a_if_eq C (tgt := 89) (q := 82) dX4_findWorst_79 hf (by decide) rfl (fun hf => ?_) (fun hf => ?_)
    · refine a_iconst C (v := (0 : Int32)) (q := 90) dX4_findWorst_89 rfl (by decide) ?_
      refine a_iload C (i := 5) (q := 92) dX4_findWorst_90 rfl 0 rfl ?_
      refine a_iload_n C (i := 1) (q := 93) dX4_findWorst_92 rfl 2 rfl rfl ?_
      refine a_isub C (q := 94) dX4_findWorst_93 rfl ?_
      refine a_mmax C (q := 97) (st := []) dX4_findWorst_94 hR (by decide) (Nat.le_of_ble_eq_true rfl) k_688 rfl ?_
      exact a_sub [1, 2, 3, 4, 5] rfl (w_X4_findWorst_97_in50 C hR n t r v1 v2 v3 v4 (if (0 : Int32) < (v5_5 - v1) then (v5_5 - v1) else (0 : Int32)) res hf hK)
    · refine a_iload C (i := 5) (q := 84) dX4_findWorst_82 rfl 0 rfl ?_
      refine a_iload_n C (i := 1) (q := 85) dX4_findWorst_84 rfl 2 rfl rfl ?_
      refine a_iadd C (q := 86) dX4_findWorst_85 rfl ?_
      refine a_goto C (q := 97) dX4_findWorst_86 (by decide) ?_
      exact a_sub [1, 2, 3, 4, 5] rfl (w_X4_findWorst_97_in50 C hR n t r v1 v2 v3 v4 (v5_5 + v1) res hf hK)
theorem lp_X4_findWorst_50 {F : FX} {G : GX} {Q : State → Prop} (C : Cx F G cX4_findWorst 7 RX4) (hR : Rm F 5) (n : Nat) (r : SR) (v1 : Int32) (v2 : Int32) (v3 : Int32)  (v4 : Int32) (t : MM) (x : MM) (h : it2 (lb_X4_findWorst_50 n v1 v2 v3) n v4 t = some x) (hE : E_X4_findWorst_50 F G Q r v1 v2 v3 x) : At F G Q 7 50 [(0, .ref (G.2.1 23)), (1, .int v1), (2, .int v2), (3, .int v3), (4, .int v4)] [] (t, r) :=
  it2_ind (b := (lb_X4_findWorst_50 n v1 v2 v3)) (E := E_X4_findWorst_50 F G Q r v1 v2 v3) (P := fun v4 t => P_X4_findWorst_50 F G Q r v1 v2 v3 v4 t) (fun v4 t res hf hK => w_X4_findWorst_50 C hR n r v1 v2 v3   v4 t res hf hK) n v4 t x h hE
def lb_X4_findWorst_29 (n : Nat) (v1 : Int32) (v2 : Int32) (v3 : Int32) (t : MM) : Option ((MM) ⊕ (Int32 × MM)) :=
  (if ((1 : Int32) <<< (v2 &&& 31)) ≤ v3 then some (.inl t) else b1 (f_X2_become t 25 24) (fun y_4 => b1 (it2 (lb_X4_findWorst_50 n v1 v2 v3) n (0 : Int32) y_4) (fun t_8 => b1 (f_X2_isWorseThan t_8 25 27) (fun y_9 => (if y_9 = 0 then nm (v3 + 1) (fun v3_10 => some (.inr (v3_10, t_8))) else b1 (f_X2_become t_8 27 25) (fun y_11 => nm (v3 + 1) (fun v3_12 => some (.inr (v3_12, y_11)))))))))
set_option maxHeartbeats 4000000 in
theorem w_X4_findWorst_29 {F : FX} {G : GX} {Q : State → Prop} (C : Cx F G cX4_findWorst 7 RX4) (hR : Rm F 5) (n : Nat) (r : SR) (v1 : Int32) (v2 : Int32)  (v3 : Int32) (t : MM) (res : (MM) ⊕ (Int32 × MM)) (hf : lb_X4_findWorst_29 n v1 v2 v3 t = some res) (hK : Sum.elim (E_X4_findWorst_29 F G Q r v1 v2) (fun q => match q with | (v3, t) => P_X4_findWorst_29 F G Q r v1 v2 v3 t) res) : P_X4_findWorst_29 F G Q r v1 v2 v3 t := by
  unfold lb_X4_findWorst_29 at hf
  show At F G Q 7 29 [(0, .ref (G.2.1 23)), (1, .int v1), (2, .int v2), (3, .int v3)] [] (t, r)
  refine a_iload_n C (i := 3) (q := 30) dX4_findWorst_29 rfl 3 rfl rfl ?_
  refine a_iconst C (v := (1 : Int32)) (q := 31) dX4_findWorst_30 rfl (by decide) ?_
  refine a_iload_n C (i := 2) (q := 32) dX4_findWorst_31 rfl 2 rfl rfl ?_
  refine a_ishl C (q := 33) dX4_findWorst_32 rfl ?_
  refine a_icmp_ge C (tgt := 160) (q := 36) dX4_findWorst_33 hf (by decide) rfl (fun hf => ?_) (fun hf => ?_)
  · have hf := Option.some.inj hf; subst hf
    exact a_sub [] rfl (show At F G Q 7 160 [] [] (t, r) from hK)
  · refine a_aload_n C (i := 0) (q := 37) dX4_findWorst_36 rfl 0 rfl rfl ?_
    refine a_get4 C (q := 40) dX4_findWorst_37 2 (by decide) k_172 (by decide) rfl rfl rfl ?_
    refine a_aload_n C (i := 0) (q := 41) dX4_findWorst_40 rfl 0 rfl rfl ?_
    refine a_get4 C (q := 44) dX4_findWorst_41 1 (by decide) k_171 (by decide) rfl rfl rfl ?_
    refine a_callVV C (q := 47) (As := [.ref (G.2.1 24)]) (st := []) dX4_findWorst_44 hR (by decide) hf (fun b => (b, r)) (by decide) rfl rfl cw_X2_become (fun b hb => c_X2_become _ G t r 25 24 (by unfold isBal; decide) (by unfold isBal; decide) b hb) rfl rfl (Nat.le_of_ble_eq_true rfl) k_687 rfl (fun y_4 hf => ?_)
    refine a_iconst C (v := (0 : Int32)) (q := 48) dX4_findWorst_47 rfl (by decide) ?_
    refine a_istore C (i := 4) (q := 50) (lv' := [(4, .int (0 : Int32)), (0, .ref (G.2.1 23)), (1, .int v1), (2, .int v2), (3, .int v3)]) dX4_findWorst_48 (by decide) rfl rfl ?_
    obtain ⟨t_8, h1, hf⟩ := b1_some hf
    refine a_sub [1, 2, 3, 4, 0] rfl (lp_X4_findWorst_50 C hR n r v1 v2 v3  (0 : Int32) y_4 _ h1 ?_)
    show At F G Q 7 129 [(0, .ref (G.2.1 23)), (1, .int v1), (2, .int v2), (3, .int v3)] [] (t_8, r)
    refine a_aload_n C (i := 0) (q := 130) dX4_findWorst_129 rfl 0 rfl rfl ?_
    refine a_get4 C (q := 133) dX4_findWorst_130 2 (by decide) k_172 (by decide) rfl rfl rfl ?_
    refine a_aload_n C (i := 0) (q := 134) dX4_findWorst_133 rfl 0 rfl rfl ?_
    refine a_get4 C (q := 137) dX4_findWorst_134 4 (by decide) k_174 (by decide) rfl rfl rfl ?_
    refine a_callVI C (q := 140) (As := [.ref (G.2.1 27)]) (st := []) dX4_findWorst_137 hR (by decide) hf (fun b => b) (fun _ => (t_8, r)) (by decide) rfl rfl cw_X2_isWorseThan (fun b hb => c_X2_isWorseThan _ G t_8 r 25 27 (by unfold isBal; decide) (by unfold isBal; decide) b hb) rfl rfl (Nat.le_of_ble_eq_true rfl) k_690 rfl (fun y_9 hf => ?_)
    refine a_if_eq C (tgt := 154) (q := 143) dX4_findWorst_140 hf (by decide) rfl (fun hf => ?_) (fun hf => ?_)
    · refine a_iincN C (i := 3) (k := 3) (q := 157) (lv' := fun z => [(3, .int z), (0, .ref (G.2.1 23)), (1, .int v1), (2, .int v2)]) dX4_findWorst_154 hf rfl rfl (by decide) (fun _ => rfl) rfl (fun v3_10 hf => ?_)
      refine a_goto C (q := 29) dX4_findWorst_157 (by decide) ?_
      have hf := Option.some.inj hf; subst hf
      exact a_sub [1, 2, 3, 0] rfl (show At F G Q 7 29 [(0, .ref (G.2.1 23)), (1, .int v1), (2, .int v2), (3, .int v3_10)] [] (t_8, r) from hK)
    · refine a_aload_n C (i := 0) (q := 144) dX4_findWorst_143 rfl 0 rfl rfl ?_
      refine a_get4 C (q := 147) dX4_findWorst_144 4 (by decide) k_174 (by decide) rfl rfl rfl ?_
      refine a_aload_n C (i := 0) (q := 148) dX4_findWorst_147 rfl 0 rfl rfl ?_
      refine a_get4 C (q := 151) dX4_findWorst_148 2 (by decide) k_172 (by decide) rfl rfl rfl ?_
      refine a_callVV C (q := 154) (As := [.ref (G.2.1 25)]) (st := []) dX4_findWorst_151 hR (by decide) hf (fun b => (b, r)) (by decide) rfl rfl cw_X2_become (fun b hb => c_X2_become _ G t_8 r 27 25 (by unfold isBal; decide) (by unfold isBal; decide) b hb) rfl rfl (Nat.le_of_ble_eq_true rfl) k_687 rfl (fun y_11 hf => ?_)
      refine a_iincN C (i := 3) (k := 3) (q := 157) (lv' := fun z => [(3, .int z), (0, .ref (G.2.1 23)), (1, .int v1), (2, .int v2)]) dX4_findWorst_154 hf rfl rfl (by decide) (fun _ => rfl) rfl (fun v3_12 hf => ?_)
      refine a_goto C (q := 29) dX4_findWorst_157 (by decide) ?_
      have hf := Option.some.inj hf; subst hf
      exact a_sub [1, 2, 3, 0] rfl (show At F G Q 7 29 [(0, .ref (G.2.1 23)), (1, .int v1), (2, .int v2), (3, .int v3_12)] [] (y_11, r) from hK)
theorem lp_X4_findWorst_29 {F : FX} {G : GX} {Q : State → Prop} (C : Cx F G cX4_findWorst 7 RX4) (hR : Rm F 5) (n : Nat) (r : SR) (v1 : Int32) (v2 : Int32)  (v3 : Int32) (t : MM) (x : MM) (h : it2 (lb_X4_findWorst_29 n v1 v2) n v3 t = some x) (hE : E_X4_findWorst_29 F G Q r v1 v2 x) : At F G Q 7 29 [(0, .ref (G.2.1 23)), (1, .int v1), (2, .int v2), (3, .int v3)] [] (t, r) :=
  it2_ind (b := (lb_X4_findWorst_29 n v1 v2)) (E := E_X4_findWorst_29 F G Q r v1 v2) (P := fun v3 t => P_X4_findWorst_29 F G Q r v1 v2 v3 t) (fun v3 t res hf hK => w_X4_findWorst_29 C hR n r v1 v2   v3 t res hf hK) n v3 t x h hE
def f_X4_findWorst (n : Nat) (t : MM) (v1 : Int32) : Option (MM) :=
  b1 (f_X4_listRiders n t) (fun y_1 => b1 (f_X6_weighAll n y_1.2 27) (fun y_2 => b1 (f_X6_weighSand n y_2 24) (fun y_3 => b1 (it2 (lb_X4_findWorst_29 n v1 y_1.1) n (0 : Int32) y_3) (fun t_13 => some t_13))))
set_option maxHeartbeats 4000000 in
theorem w_X4_findWorst_e {F : FX} {G : GX} {Q : State → Prop} (C : Cx F G cX4_findWorst 7 RX4) (hR : Rm F 5) (n : Nat) (t : MM) (r : SR)  (v1 : Int32) (res : MM) (hf : f_X4_findWorst n t v1 = some res) (hK : RetV F G Q cX4_findWorst 7 (res, r)) : At F G Q 7 0 [(0, .ref (G.2.1 23)), (1, .int v1)] [] (t, r) := by
  unfold f_X4_findWorst at hf
  refine a_aload_n C (i := 0) (q := 1) dX4_findWorst_0 rfl 0 rfl rfl ?_
  refine a_callVI C (q := 4) (As := []) (st := []) dX4_findWorst_1 hR (by decide) hf (fun b => b.1) (fun b => (b.2, r)) (by decide) rfl rfl cw_X4_listRiders (fun b hb => c_X4_listRiders _ G n t r b hb) rfl rfl (Nat.le_of_ble_eq_true rfl) k_680 rfl (fun y_1 hf => ?_)
  refine a_istore_n C (i := 2) (q := 5) (lv' := [(2, .int y_1.1), (0, .ref (G.2.1 23)), (1, .int v1)]) dX4_findWorst_4 rfl (by decide) rfl rfl ?_
  refine a_aload_n C (i := 0) (q := 6) dX4_findWorst_5 rfl 1 rfl rfl ?_
  refine a_get4 C (q := 9) dX4_findWorst_6 0 (by decide) k_170 (by decide) rfl rfl rfl ?_
  refine a_aload_n C (i := 0) (q := 10) dX4_findWorst_9 rfl 1 rfl rfl ?_
  refine a_get4 C (q := 13) dX4_findWorst_10 4 (by decide) k_174 (by decide) rfl rfl rfl ?_
  refine a_callVV C (q := 16) (As := [.ref (G.2.1 27)]) (st := []) dX4_findWorst_13 hR (by decide) hf (fun b => (b, r)) (by decide) rfl rfl cw_X6_weighAll (fun b hb => c_X6_weighAll _ G n y_1.2 r 27 (by unfold isBal; decide) b hb) rfl rfl (Nat.le_of_ble_eq_true rfl) k_685 rfl (fun y_2 hf => ?_)
  refine a_aload_n C (i := 0) (q := 17) dX4_findWorst_16 rfl 1 rfl rfl ?_
  refine a_get4 C (q := 20) dX4_findWorst_17 0 (by decide) k_170 (by decide) rfl rfl rfl ?_
  refine a_aload_n C (i := 0) (q := 21) dX4_findWorst_20 rfl 1 rfl rfl ?_
  refine a_get4 C (q := 24) dX4_findWorst_21 1 (by decide) k_171 (by decide) rfl rfl rfl ?_
  refine a_callVV C (q := 27) (As := [.ref (G.2.1 24)]) (st := []) dX4_findWorst_24 hR (by decide) hf (fun b => (b, r)) (by decide) rfl rfl cw_X6_weighSand (fun b hb => c_X6_weighSand _ G n y_2 r 24 (by unfold isBal; decide) b hb) rfl rfl (Nat.le_of_ble_eq_true rfl) k_686 rfl (fun y_3 hf => ?_)
  refine a_iconst C (v := (0 : Int32)) (q := 28) dX4_findWorst_27 rfl (by decide) ?_
  refine a_istore_n C (i := 3) (q := 29) (lv' := [(3, .int (0 : Int32)), (2, .int y_1.1), (0, .ref (G.2.1 23)), (1, .int v1)]) dX4_findWorst_28 rfl (by decide) rfl rfl ?_
  obtain ⟨t_13, h1, hf⟩ := b1_some hf
  refine a_sub [2, 3, 1, 0] rfl (lp_X4_findWorst_29 C hR n r v1 y_1.1  (0 : Int32) y_3 _ h1 ?_)
  show At F G Q 7 160 [] [] (t_13, r)
  have hf := Option.some.inj hf; subst hf
  exact (show RetV F G Q cX4_findWorst 7 (t_13, r) from hK) _ _ dX4_findWorst_160
theorem c_X4_findWorst (l : Launch) (G : GX) (n : Nat) (t : MM) (r : SR) (v1 : Int32) (res : MM) (hf : f_X4_findWorst n t v1 = some res) : MetC l G yX4_findWorst cX4_findWorst 7 none 5 (t, r) [.ref (G.2.1 23), .int v1] (PostV G (res, r)) :=
  m_V (by decide) (Nat.le_of_ble_eq_true rfl) (fun F Q C h1 h2 h3 hK => w_X4_findWorst_e C (Rm.of h1 h3) n t r v1 res hf hK)
