theorem cw_X5_isTypable : CwS yX5_isTypable cX5_isTypable 1 1 (some .boolean) := ⟨k_353, k_352, k_3, by decide +kernel, by decide⟩
def f_X5_isTypable (v0 : Int32) : Option (Int32) :=
  (if v0 < (32 : Int32) then some (0 : Int32) else (if (126 : Int32) < v0 then some (0 : Int32) else some (1 : Int32)))
set_option maxHeartbeats 4000000 in
theorem w_X5_isTypable_e {F : FX} {G : GX} {Q : State → Prop} (C : Cx F G cX5_isTypable 1 RX5) (hR : Rm F 2) (s : MM) (r : SR)  (v0 : Int32) (res : Int32) (hf : f_X5_isTypable v0 = some res) (hK : RetI F G Q cX5_isTypable 1 .boolean res (s, r)) : At F G Q 1 0 [(0, .int v0)] [] (s, r) := by
  unfold f_X5_isTypable at hf
  refine a_iload_n C (i := 0) (q := 1) dX5_isTypable_0 rfl 0 rfl rfl ?_
  refine a_bipush C (v := (32 : Int32)) (q := 3) dX5_isTypable_1 rfl (by decide) ?_
  refine a_icmp_lt C (tgt := 16) (q := 6) dX5_isTypable_3 hf (by decide) rfl (fun hf => ?_) (fun hf => ?_)
  · refine a_iconst C (v := (0 : Int32)) (q := 17) dX5_isTypable_16 rfl (by decide) ?_
    have hf := Option.some.inj hf; subst hf
    exact (show RetI F G Q cX5_isTypable 1 .boolean (0 : Int32) (s, r) from hK) rfl _ _ dX5_isTypable_17
  · refine a_iload_n C (i := 0) (q := 7) dX5_isTypable_6 rfl 0 rfl rfl ?_
    refine a_bipush C (v := (126 : Int32)) (q := 9) dX5_isTypable_7 rfl (by decide) ?_
    refine a_icmp_gt C (tgt := 16) (q := 12) dX5_isTypable_9 hf (by decide) rfl (fun hf => ?_) (fun hf => ?_)
    · refine a_iconst C (v := (0 : Int32)) (q := 17) dX5_isTypable_16 rfl (by decide) ?_
      have hf := Option.some.inj hf; subst hf
      exact (show RetI F G Q cX5_isTypable 1 .boolean (0 : Int32) (s, r) from hK) rfl _ _ dX5_isTypable_17
    · refine a_iconst C (v := (1 : Int32)) (q := 13) dX5_isTypable_12 rfl (by decide) ?_
      refine a_goto C (q := 17) dX5_isTypable_13 (by decide) ?_
      have hf := Option.some.inj hf; subst hf
      exact (show RetI F G Q cX5_isTypable 1 .boolean (1 : Int32) (s, r) from hK) rfl _ _ dX5_isTypable_17
theorem c_X5_isTypable (l : Launch) (G : GX) (s : MM) (r : SR) (v0 : Int32) (res : Int32) (hf : f_X5_isTypable v0 = some res) : MetC l G yX5_isTypable cX5_isTypable 1 (some .boolean) 2 (s, r) [.int v0] (PostI G res (s, r)) :=
  m_I (by decide) (Nat.le_of_ble_eq_true rfl) (fun F Q C h1 h2 h3 hK => w_X5_isTypable_e C (Rm.of h1 h3) s r v0 res hf hK)
theorem cw_X5_append : CwV RX5 yX5_append cX5_append 2 1 none := ⟨k_357, k_355, k_356, k_3, by decide +kernel, by decide⟩
def f_X5_append (t : MM) (v1 : Int32) : Option (MM) :=
  (if (120 : Int32) ≤ (t 13 2) then some t else ix (t 13 2) 120 (nm (st1 t 14 ((t 13 2).toNatClampNeg) (vp_nar .byte v1.toInt8.toInt32)) (fun t_1 => nm (st1 t_1 13 2 ((t_1 13 2) + (1 : Int32))) (fun t_2 => some t_2))))
set_option maxHeartbeats 4000000 in
theorem w_X5_append_e {F : FX} {G : GX} {Q : State → Prop} (C : Cx F G cX5_append 2 RX5) (hR : Rm F 2) (t : MM) (r : SR)  (v1 : Int32) (res : MM) (hf : f_X5_append t v1 = some res) (hK : RetV F G Q cX5_append 2 (res, r)) : At F G Q 2 0 [(0, .ref (G.2.1 13)), (1, .int v1)] [] (t, r) := by
  unfold f_X5_append at hf
  refine a_aload_n C (i := 0) (q := 1) dX5_append_0 rfl 0 rfl rfl ?_
  refine a_get5 C (q := 4) dX5_append_1 2 (by decide) k_78 (by decide) rfl rfl rfl ?_
  refine a_bipush C (v := (120 : Int32)) (q := 6) dX5_append_4 rfl (by decide) ?_
  refine a_icmp_ge C (tgt := 30) (q := 9) dX5_append_6 hf (by decide) rfl (fun hf => ?_) (fun hf => ?_)
  · have hf := Option.some.inj hf; subst hf
    exact (show RetV F G Q cX5_append 2 (t, r) from hK) _ _ dX5_append_30
  · refine a_aload_n C (i := 0) (q := 10) dX5_append_9 rfl 0 rfl rfl ?_
    refine a_get5 C (q := 13) dX5_append_10 0 (by decide) k_76 (by decide) rfl rfl rfl ?_
    refine a_aload_n C (i := 0) (q := 14) dX5_append_13 rfl 0 rfl rfl ?_
    refine a_get5 C (q := 17) dX5_append_14 2 (by decide) k_78 (by decide) rfl rfl rfl ?_
    refine a_iload_n C (i := 1) (q := 18) dX5_append_17 rfl 1 rfl rfl ?_
    refine a_i2b C (q := 19) dX5_append_18 rfl ?_
    refine a_bastN C (q := 20) (mk := (fun z => (z, r))) dX5_append_19 hf (by decide) rfl rfl cellE_C1 rfl (fun t_1 hf => ?_)
    refine a_aload_n C (i := 0) (q := 21) dX5_append_20 rfl 0 rfl rfl ?_
    refine a_dup C (q := 22) dX5_append_21 rfl rfl ?_
    refine a_get5 C (q := 25) dX5_append_22 2 (by decide) k_78 (by decide) rfl rfl rfl ?_
    refine a_iconst C (v := (1 : Int32)) (q := 26) dX5_append_25 rfl (by decide) ?_
    refine a_iadd C (q := 27) dX5_append_26 rfl ?_
    refine a_put5N C (q := 30) (mk := (fun z => (z, r))) dX5_append_27 hf 2 (by decide) k_78 (by decide) rfl rfl cellE_C1 rfl rfl rfl (Nat.le_of_ble_eq_true rfl) rfl (fun t_2 hf => ?_)
    have hf := Option.some.inj hf; subst hf
    exact (show RetV F G Q cX5_append 2 (t_2, r) from hK) _ _ dX5_append_30
theorem c_X5_append (l : Launch) (G : GX) (t : MM) (r : SR) (v1 : Int32) (res : MM) (hf : f_X5_append t v1 = some res) : MetC l G yX5_append cX5_append 2 none 2 (t, r) [.ref (G.2.1 13), .int v1] (PostV G (res, r)) :=
  m_V (by decide) (Nat.le_of_ble_eq_true rfl) (fun F Q C h1 h2 h3 hK => w_X5_append_e C (Rm.of h1 h3) t r v1 res hf hK)
theorem cw_X5_next : CwV RX5 yX5_next cX5_next 1 0 (some .int) := ⟨k_378, k_377, kp_2, k_3, by decide +kernel, by decide⟩
def P_X5_next_0 (F : FX) (G : GX) (Q : State → Prop) (r : SR) (t : MM) : Prop := At F G Q 1 0 [(0, .ref (G.2.1 13))] [] (t, r)
def E_X5_next_0 (F : FX) (G : GX) (Q : State → Prop) (r : SR) : MM → Prop := fun q => match q with
  | t => At F G Q 1 38 [(0, .ref (G.2.1 13))] [] (t, r)
def lb_X5_next_0 (n : Nat) (t : MM) : Option ((MM) ⊕ (MM)) :=
  (if (t 13 2) ≤ (t 13 1) then some (.inl t) else ix (t 13 1) 120 ((if (t 14 ((t 13 1).toNatClampNeg)) = (32 : Int32) then nm (st1 t 13 1 ((t 13 1) + (1 : Int32))) (fun t_1 => some (.inr t_1)) else some (.inl t))))
set_option maxHeartbeats 4000000 in
theorem w_X5_next_0 {F : FX} {G : GX} {Q : State → Prop} (C : Cx F G cX5_next 1 RX5) (hR : Rm F 2) (n : Nat) (r : SR)  (t : MM) (res : (MM) ⊕ (MM)) (hf : lb_X5_next_0 n t = some res) (hK : Sum.elim (E_X5_next_0 F G Q r) (fun q => match q with | t => P_X5_next_0 F G Q r t) res) : P_X5_next_0 F G Q r t := by
  unfold lb_X5_next_0 at hf
  show At F G Q 1 0 [(0, .ref (G.2.1 13))] [] (t, r)
  refine a_aload_n C (i := 0) (q := 1) dX5_next_0 rfl 0 rfl rfl ?_
  refine a_get5 C (q := 4) dX5_next_1 1 (by decide) k_77 (by decide) rfl rfl rfl ?_
  refine a_aload_n C (i := 0) (q := 5) dX5_next_4 rfl 0 rfl rfl ?_
  refine a_get5 C (q := 8) dX5_next_5 2 (by decide) k_78 (by decide) rfl rfl rfl ?_
  refine a_icmp_ge C (tgt := 38) (q := 11) dX5_next_8 hf (by decide) rfl (fun hf => ?_) (fun hf => ?_)
  · have hf := Option.some.inj hf; subst hf
    exact a_sub [0] rfl (show At F G Q 1 38 [(0, .ref (G.2.1 13))] [] (t, r) from hK)
  · refine a_aload_n C (i := 0) (q := 12) dX5_next_11 rfl 0 rfl rfl ?_
    refine a_get5 C (q := 15) dX5_next_12 0 (by decide) k_76 (by decide) rfl rfl rfl ?_
    refine a_aload_n C (i := 0) (q := 16) dX5_next_15 rfl 0 rfl rfl ?_
    refine a_get5 C (q := 19) dX5_next_16 1 (by decide) k_77 (by decide) rfl rfl rfl ?_
    refine a_bald C (q := 20) (g := t 14) dX5_next_19 hf (by decide) rfl rfl (fun hf => ?_)
    refine a_bipush C (v := (32 : Int32)) (q := 22) dX5_next_20 rfl (by decide) ?_
    refine a_icmp_ne C (tgt := 38) (q := 25) dX5_next_22 hf (by decide) rfl (fun hf => ?_) (fun hf => ?_)
    · have hf := Option.some.inj hf; subst hf
      exact a_sub [0] rfl (show At F G Q 1 38 [(0, .ref (G.2.1 13))] [] (t, r) from hK)
    · refine a_aload_n C (i := 0) (q := 26) dX5_next_25 rfl 0 rfl rfl ?_
      refine a_dup C (q := 27) dX5_next_26 rfl rfl ?_
      refine a_get5 C (q := 30) dX5_next_27 1 (by decide) k_77 (by decide) rfl rfl rfl ?_
      refine a_iconst C (v := (1 : Int32)) (q := 31) dX5_next_30 rfl (by decide) ?_
      refine a_iadd C (q := 32) dX5_next_31 rfl ?_
      refine a_put5N C (q := 35) (mk := (fun z => (z, r))) dX5_next_32 hf 1 (by decide) k_77 (by decide) rfl rfl cellE_C1 rfl rfl rfl (Nat.le_of_ble_eq_true rfl) rfl (fun t_1 hf => ?_)
      refine a_goto C (q := 0) dX5_next_35 (by decide) ?_
      have hf := Option.some.inj hf; subst hf
      exact a_sub [0] rfl (show At F G Q 1 0 [(0, .ref (G.2.1 13))] [] (t_1, r) from hK)
theorem lp_X5_next_0 {F : FX} {G : GX} {Q : State → Prop} (C : Cx F G cX5_next 1 RX5) (hR : Rm F 2) (n : Nat) (r : SR)  (t : MM) (x : MM) (h : it1 (lb_X5_next_0 n ) n t = some x) (hE : E_X5_next_0 F G Q r x) : At F G Q 1 0 [(0, .ref (G.2.1 13))] [] (t, r) :=
  it1_ind (b := (lb_X5_next_0 n )) (E := E_X5_next_0 F G Q r) (P := fun t => P_X5_next_0 F G Q r t) (fun t res hf hK => w_X5_next_0 C hR n r   t res hf hK) n t x h hE
def f_X5_next_38 (n : Nat) (t : MM) : Option (Int32 × MM) :=
  (if (t 13 2) ≤ (t 13 1) then some ((-1 : Int32), t) else ix (t 13 1) 120 (some (t 14 ((t 13 1).toNatClampNeg), t)))
set_option maxHeartbeats 4000000 in
theorem w_X5_next_38 {F : FX} {G : GX} {Q : State → Prop} (C : Cx F G cX5_next 1 RX5) (hR : Rm F 2) (n : Nat) (t : MM) (r : SR)   (res : Int32 × MM) (hf : f_X5_next_38 n t = some res) (hK : RetI F G Q cX5_next 1 .int res.1 (res.2, r)) : At F G Q 1 38 [(0, .ref (G.2.1 13))] [] (t, r) := by
  unfold f_X5_next_38 at hf
  refine a_aload_n C (i := 0) (q := 39) dX5_next_38 rfl 0 rfl rfl ?_
  refine a_get5 C (q := 42) dX5_next_39 1 (by decide) k_77 (by decide) rfl rfl rfl ?_
  refine a_aload_n C (i := 0) (q := 43) dX5_next_42 rfl 0 rfl rfl ?_
  refine a_get5 C (q := 46) dX5_next_43 2 (by decide) k_78 (by decide) rfl rfl rfl ?_
  refine a_icmp_ge C (tgt := 61) (q := 49) dX5_next_46 hf (by decide) rfl (fun hf => ?_) (fun hf => ?_)
  · refine a_iconst C (v := (-1 : Int32)) (q := 62) dX5_next_61 rfl (by decide) ?_
    have hf := Option.some.inj hf; subst hf
    exact (show RetI F G Q cX5_next 1 .int (-1 : Int32) (t, r) from hK) rfl _ _ dX5_next_62
  · refine a_aload_n C (i := 0) (q := 50) dX5_next_49 rfl 0 rfl rfl ?_
    refine a_get5 C (q := 53) dX5_next_50 0 (by decide) k_76 (by decide) rfl rfl rfl ?_
    refine a_aload_n C (i := 0) (q := 54) dX5_next_53 rfl 0 rfl rfl ?_
    refine a_get5 C (q := 57) dX5_next_54 1 (by decide) k_77 (by decide) rfl rfl rfl ?_
    refine a_bald C (q := 58) (g := t 14) dX5_next_57 hf (by decide) rfl rfl (fun hf => ?_)
    refine a_goto C (q := 62) dX5_next_58 (by decide) ?_
    have hf := Option.some.inj hf; subst hf
    exact (show RetI F G Q cX5_next 1 .int (t 14 ((t 13 1).toNatClampNeg)) (t, r) from hK) rfl _ _ dX5_next_62
def f_X5_next (n : Nat) (t : MM) : Option (Int32 × MM) :=
  b1 (it1 (lb_X5_next_0 n ) n t) (fun t_2 => f_X5_next_38 n t_2)
set_option maxHeartbeats 4000000 in
theorem w_X5_next_e {F : FX} {G : GX} {Q : State → Prop} (C : Cx F G cX5_next 1 RX5) (hR : Rm F 2) (n : Nat) (t : MM) (r : SR)   (res : Int32 × MM) (hf : f_X5_next n t = some res) (hK : RetI F G Q cX5_next 1 .int res.1 (res.2, r)) : At F G Q 1 0 [(0, .ref (G.2.1 13))] [] (t, r) := by
  unfold f_X5_next at hf
  obtain ⟨t_2, h1, hf⟩ := b1_some hf
  refine a_sub [0] rfl (lp_X5_next_0 C hR n r  t _ h1 ?_)
  show At F G Q 1 38 [(0, .ref (G.2.1 13))] [] (t_2, r)
  exact a_sub [0] rfl (w_X5_next_38 C hR n t_2 r res hf hK)
theorem c_X5_next (l : Launch) (G : GX) (n : Nat) (t : MM) (r : SR)  (res : Int32 × MM) (hf : f_X5_next n t = some res) : MetC l G yX5_next cX5_next 1 (some .int) 2 (t, r) [.ref (G.2.1 13)] (PostI G res.1 (res.2, r)) :=
  m_I (by decide) (Nat.le_of_ble_eq_true rfl) (fun F Q C h1 h2 h3 hK => w_X5_next_e C (Rm.of h1 h3) n t r res hf hK)
theorem cw_X5_faultAt : CwS yX5_faultAt cX5_faultAt 1 1 (some .int) := ⟨k_467, k_466, k_3, by decide +kernel, by decide⟩
def f_X5_faultAt (v0 : Int32) : Option (Int32) :=
  some ((-20 : Int32) - v0)
set_option maxHeartbeats 4000000 in
theorem w_X5_faultAt_e {F : FX} {G : GX} {Q : State → Prop} (C : Cx F G cX5_faultAt 1 RX5) (hR : Rm F 2) (s : MM) (r : SR)  (v0 : Int32) (res : Int32) (hf : f_X5_faultAt v0 = some res) (hK : RetI F G Q cX5_faultAt 1 .int res (s, r)) : At F G Q 1 0 [(0, .int v0)] [] (s, r) := by
  unfold f_X5_faultAt at hf
  refine a_bipush C (v := (-20 : Int32)) (q := 2) dX5_faultAt_0 rfl (by decide) ?_
  refine a_iload_n C (i := 0) (q := 3) dX5_faultAt_2 rfl 0 rfl rfl ?_
  refine a_isub C (q := 4) dX5_faultAt_3 rfl ?_
  have hf := Option.some.inj hf; subst hf
  exact (show RetI F G Q cX5_faultAt 1 .int ((-20 : Int32) - v0) (s, r) from hK) rfl _ _ dX5_faultAt_4
theorem c_X5_faultAt (l : Launch) (G : GX) (s : MM) (r : SR) (v0 : Int32) (res : Int32) (hf : f_X5_faultAt v0 = some res) : MetC l G yX5_faultAt cX5_faultAt 1 (some .int) 2 (s, r) [.int v0] (PostI G res (s, r)) :=
  m_I (by decide) (Nat.le_of_ble_eq_true rfl) (fun F Q C h1 h2 h3 hK => w_X5_faultAt_e C (Rm.of h1 h3) s r v0 res hf hK)
theorem cw_X5_readLetter : CwV RX5 yX5_readLetter cX5_readLetter 5 2 (some .int) := ⟨k_374, k_373, kp_1, k_3, by decide +kernel, by decide⟩
def f_X5_readLetter_20 (n : Nat) (t : MM) (v2 : Int32) (w0 : Int32) : Option (Int32 × MM) :=
  (if 0 ≤ w0 then ix v2 64 (nm (st1 t 15 v2.toNatClampNeg w0) (fun t_3 => nm (st1 t_3 13 1 ((t_3 13 1) + (1 : Int32))) (fun t_4 => some ((0 : Int32), t_4)))) else b1 (f_X5_faultAt (t 13 1)) (fun y_5 => some (y_5, t)))
set_option maxHeartbeats 4000000 in
theorem w_X5_readLetter_20 {F : FX} {G : GX} {Q : State → Prop} (C : Cx F G cX5_readLetter 5 RX5) (hR : Rm F 9) (n : Nat) (t : MM) (r : SR)  (v2 : Int32) (w0 : Int32) (res : Int32 × MM) (hf : f_X5_readLetter_20 n t v2 w0 = some res) (hK : RetI F G Q cX5_readLetter 5 .int res.1 (res.2, r)) : At F G Q 5 20 [(0, .ref (G.2.1 13)), (2, .int v2)] [.int w0] (t, r) := by
  unfold f_X5_readLetter_20 at hf
  refine a_istore C (i := 4) (q := 22) (lv' := [(4, .int w0), (0, .ref (G.2.1 13)), (2, .int v2)]) dX5_readLetter_20 (by decide) rfl rfl ?_
  refine a_iload C (i := 4) (q := 24) dX5_readLetter_22 rfl 0 rfl ?_
  refine a_if_ge C (tgt := 35) (q := 27) dX5_readLetter_24 hf (by decide) rfl (fun hf => ?_) (fun hf => ?_)
  · refine a_aload_n C (i := 0) (q := 36) dX5_readLetter_35 rfl 1 rfl rfl ?_
    refine a_get5 C (q := 39) dX5_readLetter_36 3 (by decide) k_80 (by decide) rfl rfl rfl ?_
    refine a_iload_n C (i := 2) (q := 40) dX5_readLetter_39 rfl 2 rfl rfl ?_
    refine a_iload C (i := 4) (q := 42) dX5_readLetter_40 rfl 0 rfl ?_
    refine a_iastN C (q := 43) (mk := (fun z => (z, r))) dX5_readLetter_42 hf (by decide) rfl rfl cellE_C1 rfl (fun t_3 hf => ?_)
    refine a_aload_n C (i := 0) (q := 44) dX5_readLetter_43 rfl 1 rfl rfl ?_
    refine a_dup C (q := 45) dX5_readLetter_44 rfl rfl ?_
    refine a_get5 C (q := 48) dX5_readLetter_45 1 (by decide) k_77 (by decide) rfl rfl rfl ?_
    refine a_iconst C (v := (1 : Int32)) (q := 49) dX5_readLetter_48 rfl (by decide) ?_
    refine a_iadd C (q := 50) dX5_readLetter_49 rfl ?_
    refine a_put5N C (q := 53) (mk := (fun z => (z, r))) dX5_readLetter_50 hf 1 (by decide) k_77 (by decide) rfl rfl cellE_C1 rfl rfl rfl (Nat.le_of_ble_eq_true rfl) rfl (fun t_4 hf => ?_)
    refine a_iconst C (v := (0 : Int32)) (q := 54) dX5_readLetter_53 rfl (by decide) ?_
    have hf := Option.some.inj hf; subst hf
    exact (show RetI F G Q cX5_readLetter 5 .int (0 : Int32) (t_4, r) from hK) rfl _ _ dX5_readLetter_54
  · refine a_aload_n C (i := 0) (q := 28) dX5_readLetter_27 rfl 1 rfl rfl ?_
    refine a_get5 C (q := 31) dX5_readLetter_28 1 (by decide) k_77 (by decide) rfl rfl rfl ?_
    refine a_callSI C (q := 34) (As := [.int (t 13 1)]) (st := []) dX5_readLetter_31 hR (by decide) hf (fun b => b) (fun _ => (t, r)) cw_X5_faultAt (fun b hb => c_X5_faultAt _ G t r (t 13 1) b hb) rfl rfl (Nat.le_of_ble_eq_true rfl) k_465 rfl (fun y_5 hf => ?_)
    have hf := Option.some.inj hf; subst hf
    exact (show RetI F G Q cX5_readLetter 5 .int y_5 (t, r) from hK) rfl _ _ dX5_readLetter_34
def f_X5_readLetter (n : Nat) (t : MM) (k1 : Nat) (v2 : Int32) : Option (Int32 × MM) :=
  b1 (f_X5_next n t) (fun y_1 => (if y_1.1 = (-1 : Int32) then f_X5_readLetter_20 n y_1.2 v2 (-1 : Int32) else b1 (f_J0_indexOf_0f7a4 n k1 ((y_1.1.toUInt32 % 65536).toInt32)) (fun y_2 => f_X5_readLetter_20 n y_1.2 v2 y_2)))
set_option maxHeartbeats 4000000 in
theorem w_X5_readLetter_e {F : FX} {G : GX} {Q : State → Prop} (C : Cx F G cX5_readLetter 5 RX5) (hR : Rm F 9) (n : Nat) (t : MM) (r : SR)  (k1 : Nat) (v2 : Int32) (hk1 : k1 < 2) (res : Int32 × MM) (hf : f_X5_readLetter n t k1 v2 = some res) (hK : RetI F G Q cX5_readLetter 5 .int res.1 (res.2, r)) : At F G Q 5 0 [(0, .ref (G.2.1 13)), (1, .ref (G.2.2.2 (5 + k1))), (2, .int v2)] [] (t, r) := by
  unfold f_X5_readLetter at hf
  refine a_aload_n C (i := 0) (q := 1) dX5_readLetter_0 rfl 0 rfl rfl ?_
  refine a_callVI C (q := 4) (As := []) (st := []) dX5_readLetter_1 hR (by decide) hf (fun b => b.1) (fun b => (b.2, r)) (by decide) rfl rfl cw_X5_next (fun b hb => c_X5_next _ G n t r b hb) rfl rfl (Nat.le_of_ble_eq_true rfl) k_375 rfl (fun y_1 hf => ?_)
  refine a_istore_n C (i := 3) (q := 5) (lv' := [(3, .int y_1.1), (0, .ref (G.2.1 13)), (1, .ref (G.2.2.2 (5 + k1))), (2, .int v2)]) dX5_readLetter_4 rfl (by decide) rfl rfl ?_
  refine a_iload_n C (i := 3) (q := 6) dX5_readLetter_5 rfl 0 rfl rfl ?_
  refine a_iconst C (v := (-1 : Int32)) (q := 7) dX5_readLetter_6 rfl (by decide) ?_
  refine a_icmp_ne C (tgt := 14) (q := 10) dX5_readLetter_7 hf (by decide) rfl (fun hf => ?_) (fun hf => ?_)
  · refine a_aload_n C (i := 1) (q := 15) dX5_readLetter_14 rfl 2 rfl rfl ?_
    refine a_iload_n C (i := 3) (q := 16) dX5_readLetter_15 rfl 0 rfl rfl ?_
    refine a_i2c C (q := 17) dX5_readLetter_16 rfl ?_
    refine a_callTI C (q := 20) (As := [.int ((y_1.1.toUInt32 % 65536).toInt32)]) (st := []) dX5_readLetter_17 hR (by decide) hf (fun b => b) (fun _ => (y_1.2, r)) hk1 cw_J0_indexOf_0f7a4 (fun b hb => c_J0_indexOf_0f7a4 _ G n y_1.2 r k1 ((y_1.1.toUInt32 % 65536).toInt32) hk1 b hb) rfl rfl (Nat.le_of_ble_eq_true rfl) k_379 rfl (fun y_2 hf => ?_)
    exact a_sub [1, 3] rfl (w_X5_readLetter_20 C hR n y_1.2 r v2 y_2 res hf hK)
  · refine a_iconst C (v := (-1 : Int32)) (q := 11) dX5_readLetter_10 rfl (by decide) ?_
    refine a_goto C (q := 20) dX5_readLetter_11 (by decide) ?_
    exact a_sub [1, 3] rfl (w_X5_readLetter_20 C hR n y_1.2 r v2 (-1 : Int32) res hf hK)
theorem c_X5_readLetter (l : Launch) (G : GX) (n : Nat) (t : MM) (r : SR) (k1 : Nat) (v2 : Int32) (hk1 : k1 < 2) (res : Int32 × MM) (hf : f_X5_readLetter n t k1 v2 = some res) : MetC l G yX5_readLetter cX5_readLetter 5 (some .int) 9 (t, r) [.ref (G.2.1 13), .ref (G.2.2.2 (5 + k1)), .int v2] (PostI G res.1 (res.2, r)) :=
  m_I (by decide) (Nat.le_of_ble_eq_true rfl) (fun F Q C h1 h2 h3 hK => w_X5_readLetter_e C (Rm.of h1 h3) n t r k1 v2 hk1 res hf hK)
theorem cw_X5_isDigit : CwS yX5_isDigit cX5_isDigit 1 1 (some .boolean) := ⟨k_474, k_473, k_3, by decide +kernel, by decide⟩
def f_X5_isDigit (v0 : Int32) : Option (Int32) :=
  (if v0 < (48 : Int32) then some (0 : Int32) else (if (57 : Int32) < v0 then some (0 : Int32) else some (1 : Int32)))
set_option maxHeartbeats 4000000 in
theorem w_X5_isDigit_e {F : FX} {G : GX} {Q : State → Prop} (C : Cx F G cX5_isDigit 1 RX5) (hR : Rm F 2) (s : MM) (r : SR)  (v0 : Int32) (res : Int32) (hf : f_X5_isDigit v0 = some res) (hK : RetI F G Q cX5_isDigit 1 .boolean res (s, r)) : At F G Q 1 0 [(0, .int v0)] [] (s, r) := by
  unfold f_X5_isDigit at hf
  refine a_iload_n C (i := 0) (q := 1) dX5_isDigit_0 rfl 0 rfl rfl ?_
  refine a_bipush C (v := (48 : Int32)) (q := 3) dX5_isDigit_1 rfl (by decide) ?_
  refine a_icmp_lt C (tgt := 16) (q := 6) dX5_isDigit_3 hf (by decide) rfl (fun hf => ?_) (fun hf => ?_)
  · refine a_iconst C (v := (0 : Int32)) (q := 17) dX5_isDigit_16 rfl (by decide) ?_
    have hf := Option.some.inj hf; subst hf
    exact (show RetI F G Q cX5_isDigit 1 .boolean (0 : Int32) (s, r) from hK) rfl _ _ dX5_isDigit_17
  · refine a_iload_n C (i := 0) (q := 7) dX5_isDigit_6 rfl 0 rfl rfl ?_
    refine a_bipush C (v := (57 : Int32)) (q := 9) dX5_isDigit_7 rfl (by decide) ?_
    refine a_icmp_gt C (tgt := 16) (q := 12) dX5_isDigit_9 hf (by decide) rfl (fun hf => ?_) (fun hf => ?_)
    · refine a_iconst C (v := (0 : Int32)) (q := 17) dX5_isDigit_16 rfl (by decide) ?_
      have hf := Option.some.inj hf; subst hf
      exact (show RetI F G Q cX5_isDigit 1 .boolean (0 : Int32) (s, r) from hK) rfl _ _ dX5_isDigit_17
    · refine a_iconst C (v := (1 : Int32)) (q := 13) dX5_isDigit_12 rfl (by decide) ?_
      refine a_goto C (q := 17) dX5_isDigit_13 (by decide) ?_
      have hf := Option.some.inj hf; subst hf
      exact (show RetI F G Q cX5_isDigit 1 .boolean (1 : Int32) (s, r) from hK) rfl _ _ dX5_isDigit_17
theorem c_X5_isDigit (l : Launch) (G : GX) (s : MM) (r : SR) (v0 : Int32) (res : Int32) (hf : f_X5_isDigit v0 = some res) : MetC l G yX5_isDigit cX5_isDigit 1 (some .boolean) 2 (s, r) [.int v0] (PostI G res (s, r)) :=
  m_I (by decide) (Nat.le_of_ble_eq_true rfl) (fun F Q C h1 h2 h3 hK => w_X5_isDigit_e C (Rm.of h1 h3) s r v0 res hf hK)
theorem cw_X5_readNumber : CwV RX5 yX5_readNumber cX5_readNumber 6 3 (some .int) := ⟨k_471, k_470, kp_3, k_3, by decide +kernel, by decide⟩
def P_X5_readNumber_27 (F : FX) (G : GX) (Q : State → Prop) (r : SR) (v1 : Int32) (v2 : Int32) (v3 : Int32) (v4 : Int32) (v5 : Int32) (t : MM) : Prop := At F G Q 6 27 [(0, .ref (G.2.1 13)), (1, .int v1), (2, .int v2), (3, .int v3), (4, .int v4), (5, .int v5)] [] (t, r)
def E_X5_readNumber_27 (F : FX) (G : GX) (Q : State → Prop) (r : SR) (v1 : Int32) (v2 : Int32) (v3 : Int32) (v4 : Int32) : Int32 × MM → Prop := fun q => match q with
  | (v5, t) => At F G Q 6 92 [(0, .ref (G.2.1 13)), (1, .int v1), (2, .int v2), (3, .int v3), (4, .int v4), (5, .int v5)] [] (t, r)
def lb_X5_readNumber_27 (n : Nat) (v1 : Int32) (v2 : Int32) (v3 : Int32) (v4 : Int32) (v5 : Int32) (t : MM) : Option ((Int32 × MM) ⊕ (Int32 × MM)) :=
  (if (t 13 2) ≤ (t 13 1) then some (.inl (v5, t)) else ix (t 13 1) 120 (b1 (f_X5_isDigit (t 14 ((t 13 1).toNatClampNeg))) (fun y_4 => (if y_4 = 0 then some (.inl (v5, t)) else ix (t 13 1) 120 (nm (if (v3 + (1 : Int32)) < ((((10 : Int32) * v5) + (t 14 ((t 13 1).toNatClampNeg))) - (48 : Int32)) then (v3 + (1 : Int32)) else ((((10 : Int32) * v5) + (t 14 ((t 13 1).toNatClampNeg))) - (48 : Int32))) (fun v5_5 => nm (st1 t 13 1 ((t 13 1) + (1 : Int32))) (fun t_6 => some (.inr (v5_5, t_6)))))))))
set_option maxHeartbeats 4000000 in
theorem w_X5_readNumber_27 {F : FX} {G : GX} {Q : State → Prop} (C : Cx F G cX5_readNumber 6 RX5) (hR : Rm F 3) (n : Nat) (r : SR) (v1 : Int32) (v2 : Int32) (v3 : Int32) (v4 : Int32)  (v5 : Int32) (t : MM) (res : (Int32 × MM) ⊕ (Int32 × MM)) (hf : lb_X5_readNumber_27 n v1 v2 v3 v4 v5 t = some res) (hK : Sum.elim (E_X5_readNumber_27 F G Q r v1 v2 v3 v4) (fun q => match q with | (v5, t) => P_X5_readNumber_27 F G Q r v1 v2 v3 v4 v5 t) res) : P_X5_readNumber_27 F G Q r v1 v2 v3 v4 v5 t := by
  unfold lb_X5_readNumber_27 at hf
  show At F G Q 6 27 [(0, .ref (G.2.1 13)), (1, .int v1), (2, .int v2), (3, .int v3), (4, .int v4), (5, .int v5)] [] (t, r)
  refine a_aload_n C (i := 0) (q := 28) dX5_readNumber_27 rfl 0 rfl rfl ?_
  refine a_get5 C (q := 31) dX5_readNumber_28 1 (by decide) k_77 (by decide) rfl rfl rfl ?_
  refine a_aload_n C (i := 0) (q := 32) dX5_readNumber_31 rfl 0 rfl rfl ?_
  refine a_get5 C (q := 35) dX5_readNumber_32 2 (by decide) k_78 (by decide) rfl rfl rfl ?_
  refine a_icmp_ge C (tgt := 92) (q := 38) dX5_readNumber_35 hf (by decide) rfl (fun hf => ?_) (fun hf => ?_)
  · have hf := Option.some.inj hf; subst hf
    exact a_sub [0, 1, 2, 3, 4, 5] rfl (show At F G Q 6 92 [(0, .ref (G.2.1 13)), (1, .int v1), (2, .int v2), (3, .int v3), (4, .int v4), (5, .int v5)] [] (t, r) from hK)
  · refine a_aload_n C (i := 0) (q := 39) dX5_readNumber_38 rfl 0 rfl rfl ?_
    refine a_get5 C (q := 42) dX5_readNumber_39 0 (by decide) k_76 (by decide) rfl rfl rfl ?_
    refine a_aload_n C (i := 0) (q := 43) dX5_readNumber_42 rfl 0 rfl rfl ?_
    refine a_get5 C (q := 46) dX5_readNumber_43 1 (by decide) k_77 (by decide) rfl rfl rfl ?_
    refine a_bald C (q := 47) (g := t 14) dX5_readNumber_46 hf (by decide) rfl rfl (fun hf => ?_)
    refine a_callSI C (q := 50) (As := [.int (t 14 ((t 13 1).toNatClampNeg))]) (st := []) dX5_readNumber_47 hR (by decide) hf (fun b => b) (fun _ => (t, r)) cw_X5_isDigit (fun b hb => c_X5_isDigit _ G t r (t 14 ((t 13 1).toNatClampNeg)) b hb) rfl rfl (Nat.le_of_ble_eq_true rfl) k_472 rfl (fun y_4 hf => ?_)
    refine a_if_eq C (tgt := 92) (q := 53) dX5_readNumber_50 hf (by decide) rfl (fun hf => ?_) (fun hf => ?_)
    · have hf := Option.some.inj hf; subst hf
      exact a_sub [0, 1, 2, 3, 4, 5] rfl (show At F G Q 6 92 [(0, .ref (G.2.1 13)), (1, .int v1), (2, .int v2), (3, .int v3), (4, .int v4), (5, .int v5)] [] (t, r) from hK)
    · refine a_bipush C (v := (10 : Int32)) (q := 55) dX5_readNumber_53 rfl (by decide) ?_
      refine a_iload C (i := 5) (q := 57) dX5_readNumber_55 rfl 5 rfl ?_
      refine a_imul C (q := 58) dX5_readNumber_57 rfl ?_
      refine a_aload_n C (i := 0) (q := 59) dX5_readNumber_58 rfl 0 rfl rfl ?_
      refine a_get5 C (q := 62) dX5_readNumber_59 0 (by decide) k_76 (by decide) rfl rfl rfl ?_
      refine a_aload_n C (i := 0) (q := 63) dX5_readNumber_62 rfl 0 rfl rfl ?_
      refine a_get5 C (q := 66) dX5_readNumber_63 1 (by decide) k_77 (by decide) rfl rfl rfl ?_
      refine a_bald C (q := 67) (g := t 14) dX5_readNumber_66 hf (by decide) rfl rfl (fun hf => ?_)
      refine a_iadd C (q := 68) dX5_readNumber_67 rfl ?_
      refine a_bipush C (v := (48 : Int32)) (q := 70) dX5_readNumber_68 rfl (by decide) ?_
      refine a_isub C (q := 71) dX5_readNumber_70 rfl ?_
      refine a_iload_n C (i := 3) (q := 72) dX5_readNumber_71 rfl 3 rfl rfl ?_
      refine a_iconst C (v := (1 : Int32)) (q := 73) dX5_readNumber_72 rfl (by decide) ?_
      refine a_iadd C (q := 74) dX5_readNumber_73 rfl ?_
      refine a_mmin C (q := 77) (st := []) dX5_readNumber_74 hR (by decide) (Nat.le_of_ble_eq_true rfl) k_475 rfl ?_
      refine a_istoreN C (i := 5) (q := 79) (lv' := fun z => [(5, .int z), (0, .ref (G.2.1 13)), (1, .int v1), (2, .int v2), (3, .int v3), (4, .int v4)]) dX5_readNumber_77 hf (by decide) (fun _ => rfl) rfl (fun v5_5 hf => ?_)
      refine a_aload_n C (i := 0) (q := 80) dX5_readNumber_79 rfl 1 rfl rfl ?_
      refine a_dup C (q := 81) dX5_readNumber_80 rfl rfl ?_
      refine a_get5 C (q := 84) dX5_readNumber_81 1 (by decide) k_77 (by decide) rfl rfl rfl ?_
      refine a_iconst C (v := (1 : Int32)) (q := 85) dX5_readNumber_84 rfl (by decide) ?_
      refine a_iadd C (q := 86) dX5_readNumber_85 rfl ?_
      refine a_put5N C (q := 89) (mk := (fun z => (z, r))) dX5_readNumber_86 hf 1 (by decide) k_77 (by decide) rfl rfl cellE_C1 rfl rfl rfl (Nat.le_of_ble_eq_true rfl) rfl (fun t_6 hf => ?_)
      refine a_goto C (q := 27) dX5_readNumber_89 (by decide) ?_
      have hf := Option.some.inj hf; subst hf
      exact a_sub [1, 2, 3, 4, 5, 0] rfl (show At F G Q 6 27 [(0, .ref (G.2.1 13)), (1, .int v1), (2, .int v2), (3, .int v3), (4, .int v4), (5, .int v5_5)] [] (t_6, r) from hK)
theorem lp_X5_readNumber_27 {F : FX} {G : GX} {Q : State → Prop} (C : Cx F G cX5_readNumber 6 RX5) (hR : Rm F 3) (n : Nat) (r : SR) (v1 : Int32) (v2 : Int32) (v3 : Int32) (v4 : Int32)  (v5 : Int32) (t : MM) (x : Int32 × MM) (h : it2 (lb_X5_readNumber_27 n v1 v2 v3 v4) n v5 t = some x) (hE : E_X5_readNumber_27 F G Q r v1 v2 v3 v4 x) : At F G Q 6 27 [(0, .ref (G.2.1 13)), (1, .int v1), (2, .int v2), (3, .int v3), (4, .int v4), (5, .int v5)] [] (t, r) :=
  it2_ind (b := (lb_X5_readNumber_27 n v1 v2 v3 v4)) (E := E_X5_readNumber_27 F G Q r v1 v2 v3 v4) (P := fun v5 t => P_X5_readNumber_27 F G Q r v1 v2 v3 v4 v5 t) (fun v5 t res hf hK => w_X5_readNumber_27 C hR n r v1 v2 v3 v4   v5 t res hf hK) n v5 t x h hE
def f_X5_readNumber_112 (n : Nat) (t : MM) (v4 : Int32) : Option (Int32 × MM) :=
  b1 (f_X5_faultAt v4) (fun y_10 => some (y_10, t))
set_option maxHeartbeats 4000000 in
theorem w_X5_readNumber_112 {F : FX} {G : GX} {Q : State → Prop} (C : Cx F G cX5_readNumber 6 RX5) (hR : Rm F 3) (n : Nat) (t : MM) (r : SR)  (v4 : Int32) (res : Int32 × MM) (hf : f_X5_readNumber_112 n t v4 = some res) (hK : RetI F G Q cX5_readNumber 6 .int res.1 (res.2, r)) : At F G Q 6 112 [(4, .int v4)] [] (t, r) := by
  unfold f_X5_readNumber_112 at hf
  refine a_iload C (i := 4) (q := 114) dX5_readNumber_112 rfl 0 rfl ?_
  refine a_callSI C (q := 117) (As := [.int v4]) (st := []) dX5_readNumber_114 hR (by decide) hf (fun b => b) (fun _ => (t, r)) cw_X5_faultAt (fun b hb => c_X5_faultAt _ G t r v4 b hb) rfl rfl (Nat.le_of_ble_eq_true rfl) k_465 rfl (fun y_10 hf => ?_)
  refine a_goto C (q := 121) dX5_readNumber_117 (by decide) ?_
  have hf := Option.some.inj hf; subst hf
  exact (show RetI F G Q cX5_readNumber 6 .int y_10 (t, r) from hK) rfl _ _ dX5_readNumber_121
def f_X5_readNumber_92 (n : Nat) (t : MM) (v1 : Int32) (v2 : Int32) (v3 : Int32) (v4 : Int32) (v5 : Int32) : Option (Int32 × MM) :=
  ix v1 64 (nm (st1 t 16 v1.toNatClampNeg v5) (fun t_9 => (if v5 < v2 then f_X5_readNumber_112 n t_9 v4 else (if v5 ≤ v3 then some ((0 : Int32), t_9) else f_X5_readNumber_112 n t_9 v4))))
set_option maxHeartbeats 4000000 in
theorem w_X5_readNumber_92 {F : FX} {G : GX} {Q : State → Prop} (C : Cx F G cX5_readNumber 6 RX5) (hR : Rm F 3) (n : Nat) (t : MM) (r : SR)  (v1 : Int32) (v2 : Int32) (v3 : Int32) (v4 : Int32) (v5 : Int32) (res : Int32 × MM) (hf : f_X5_readNumber_92 n t v1 v2 v3 v4 v5 = some res) (hK : RetI F G Q cX5_readNumber 6 .int res.1 (res.2, r)) : At F G Q 6 92 [(0, .ref (G.2.1 13)), (1, .int v1), (2, .int v2), (3, .int v3), (4, .int v4), (5, .int v5)] [] (t, r) := by
  unfold f_X5_readNumber_92 at hf
  refine a_aload_n C (i := 0) (q := 93) dX5_readNumber_92 rfl 0 rfl rfl ?_
  refine a_get5 C (q := 96) dX5_readNumber_93 4 (by decide) k_82 (by decide) rfl rfl rfl ?_
  refine a_iload_n C (i := 1) (q := 97) dX5_readNumber_96 rfl 1 rfl rfl ?_
  refine a_iload C (i := 5) (q := 99) dX5_readNumber_97 rfl 5 rfl ?_
  refine a_iastN C (q := 100) (mk := (fun z => (z, r))) dX5_readNumber_99 hf (by decide) rfl rfl cellE_C1 rfl (fun t_9 hf => ?_)
  refine a_iload C (i := 5) (q := 102) dX5_readNumber_100 rfl 5 rfl ?_
  refine a_iload_n C (i := 2) (q := 103) dX5_readNumber_102 rfl 2 rfl rfl ?_
  refine a_icmp_lt C (tgt := 112) (q := 106) dX5_readNumber_103 hf (by decide) rfl (fun hf => ?_) (fun hf => ?_)
  · exact a_sub [4] rfl (w_X5_readNumber_112 C hR n t_9 r v4 res hf hK)
  · refine a_iload C (i := 5) (q := 108) dX5_readNumber_106 rfl 5 rfl ?_
    refine a_iload_n C (i := 3) (q := 109) dX5_readNumber_108 rfl 3 rfl rfl ?_
    refine a_icmp_le C (tgt := 120) (q := 112) dX5_readNumber_109 hf (by decide) rfl (fun hf => ?_) (fun hf => ?_)
    · refine a_iconst C (v := (0 : Int32)) (q := 121) dX5_readNumber_120 rfl (by decide) ?_
      have hf := Option.some.inj hf; subst hf
      exact (show RetI F G Q cX5_readNumber 6 .int (0 : Int32) (t_9, r) from hK) rfl _ _ dX5_readNumber_121
    · exact a_sub [4] rfl (w_X5_readNumber_112 C hR n t_9 r v4 res hf hK)
def f_X5_readNumber (n : Nat) (t : MM) (v1 : Int32) (v2 : Int32) (v3 : Int32) : Option (Int32 × MM) :=
  b1 (f_X5_next n t) (fun y_1 => b1 (f_X5_isDigit y_1.1) (fun y_2 => (if y_2 = 0 then b1 (f_X5_faultAt (y_1.2 13 1)) (fun y_11 => some (y_11, y_1.2)) else nm (y_1.2 13 1) (fun v4_3 => b2 (it2 (lb_X5_readNumber_27 n v1 v2 v3 v4_3) n (0 : Int32) y_1.2) (fun v5_7 t_8 => f_X5_readNumber_92 n t_8 v1 v2 v3 v4_3 v5_7)))))
set_option maxHeartbeats 4000000 in
theorem w_X5_readNumber_e {F : FX} {G : GX} {Q : State → Prop} (C : Cx F G cX5_readNumber 6 RX5) (hR : Rm F 3) (n : Nat) (t : MM) (r : SR)  (v1 : Int32) (v2 : Int32) (v3 : Int32) (res : Int32 × MM) (hf : f_X5_readNumber n t v1 v2 v3 = some res) (hK : RetI F G Q cX5_readNumber 6 .int res.1 (res.2, r)) : At F G Q 6 0 [(0, .ref (G.2.1 13)), (1, .int v1), (2, .int v2), (3, .int v3)] [] (t, r) := by
  unfold f_X5_readNumber at hf
  refine a_aload_n C (i := 0) (q := 1) dX5_readNumber_0 rfl 0 rfl rfl ?_
  refine a_callVI C (q := 4) (As := []) (st := []) dX5_readNumber_1 hR (by decide) hf (fun b => b.1) (fun b => (b.2, r)) (by decide) rfl rfl cw_X5_next (fun b hb => c_X5_next _ G n t r b hb) rfl rfl (Nat.le_of_ble_eq_true rfl) k_375 rfl (fun y_1 hf => ?_)
  refine a_callSI C (q := 7) (As := [.int y_1.1]) (st := []) dX5_readNumber_4 hR (by decide) hf (fun b => b) (fun _ => (y_1.2, r)) cw_X5_isDigit (fun b hb => c_X5_isDigit _ G y_1.2 r y_1.1 b hb) rfl rfl (Nat.le_of_ble_eq_true rfl) k_472 rfl (fun y_2 hf => ?_)
  refine a_if_ne C (tgt := 18) (q := 10) dX5_readNumber_7 hf (by decide) rfl (fun hf => ?_) (fun hf => ?_)
  · refine a_aload_n C (i := 0) (q := 19) dX5_readNumber_18 rfl 0 rfl rfl ?_
    refine a_get5 C (q := 22) dX5_readNumber_19 1 (by decide) k_77 (by decide) rfl rfl rfl ?_
    refine a_istoreN C (i := 4) (q := 24) (lv' := fun z => [(4, .int z), (0, .ref (G.2.1 13)), (1, .int v1), (2, .int v2), (3, .int v3)]) dX5_readNumber_22 hf (by decide) (fun _ => rfl) rfl (fun v4_3 hf => ?_)
    refine a_iconst C (v := (0 : Int32)) (q := 25) dX5_readNumber_24 rfl (by decide) ?_
    refine a_istore C (i := 5) (q := 27) (lv' := [(5, .int (0 : Int32)), (4, .int v4_3), (0, .ref (G.2.1 13)), (1, .int v1), (2, .int v2), (3, .int v3)]) dX5_readNumber_25 (by decide) rfl rfl ?_
    obtain ⟨v5_7, t_8, h1, hf⟩ := b2_some hf
    refine a_sub [2, 3, 4, 5, 1, 0] rfl (lp_X5_readNumber_27 C hR n r v1 v2 v3 v4_3  (0 : Int32) y_1.2 _ h1 ?_)
    show At F G Q 6 92 [(0, .ref (G.2.1 13)), (1, .int v1), (2, .int v2), (3, .int v3), (4, .int v4_3), (5, .int v5_7)] [] (t_8, r)
    exact a_sub [0, 1, 2, 3, 4, 5] rfl (w_X5_readNumber_92 C hR n t_8 r v1 v2 v3 v4_3 v5_7 res hf hK)
  · refine a_aload_n C (i := 0) (q := 11) dX5_readNumber_10 rfl 0 rfl rfl ?_
    refine a_get5 C (q := 14) dX5_readNumber_11 1 (by decide) k_77 (by decide) rfl rfl rfl ?_
    refine a_callSI C (q := 17) (As := [.int (y_1.2 13 1)]) (st := []) dX5_readNumber_14 hR (by decide) hf (fun b => b) (fun _ => (y_1.2, r)) cw_X5_faultAt (fun b hb => c_X5_faultAt _ G y_1.2 r (y_1.2 13 1) b hb) rfl rfl (Nat.le_of_ble_eq_true rfl) k_465 rfl (fun y_11 hf => ?_)
    have hf := Option.some.inj hf; subst hf
    exact (show RetI F G Q cX5_readNumber 6 .int y_11 (y_1.2, r) from hK) rfl _ _ dX5_readNumber_17
theorem c_X5_readNumber (l : Launch) (G : GX) (n : Nat) (t : MM) (r : SR) (v1 : Int32) (v2 : Int32) (v3 : Int32) (res : Int32 × MM) (hf : f_X5_readNumber n t v1 v2 v3 = some res) : MetC l G yX5_readNumber cX5_readNumber 6 (some .int) 3 (t, r) [.ref (G.2.1 13), .int v1, .int v2, .int v3] (PostI G res.1 (res.2, r)) :=
  m_I (by decide) (Nat.le_of_ble_eq_true rfl) (fun F Q C h1 h2 h3 hK => w_X5_readNumber_e C (Rm.of h1 h3) n t r v1 v2 v3 res hf hK)
theorem cw_X5_readDigit : CwV RX5 yX5_readDigit cX5_readDigit 3 1 (some .int) := ⟨k_483, k_482, kp_5, k_3, by decide +kernel, by decide⟩
def f_X5_readDigit (n : Nat) (t : MM) (v1 : Int32) : Option (Int32 × MM) :=
  b1 (f_X5_next n t) (fun y_1 => b1 (f_X5_isDigit y_1.1) (fun y_2 => (if y_2 = 0 then b1 (f_X5_faultAt (y_1.2 13 1)) (fun y_5 => some (y_5, y_1.2)) else ix v1 64 (nm (st1 y_1.2 16 v1.toNatClampNeg (y_1.1 - (48 : Int32))) (fun t_3 => nm (st1 t_3 13 1 ((t_3 13 1) + (1 : Int32))) (fun t_4 => some ((0 : Int32), t_4)))))))
set_option maxHeartbeats 4000000 in
theorem w_X5_readDigit_e {F : FX} {G : GX} {Q : State → Prop} (C : Cx F G cX5_readDigit 3 RX5) (hR : Rm F 3) (n : Nat) (t : MM) (r : SR)  (v1 : Int32) (res : Int32 × MM) (hf : f_X5_readDigit n t v1 = some res) (hK : RetI F G Q cX5_readDigit 3 .int res.1 (res.2, r)) : At F G Q 3 0 [(0, .ref (G.2.1 13)), (1, .int v1)] [] (t, r) := by
  unfold f_X5_readDigit at hf
  refine a_aload_n C (i := 0) (q := 1) dX5_readDigit_0 rfl 0 rfl rfl ?_
  refine a_callVI C (q := 4) (As := []) (st := []) dX5_readDigit_1 hR (by decide) hf (fun b => b.1) (fun b => (b.2, r)) (by decide) rfl rfl cw_X5_next (fun b hb => c_X5_next _ G n t r b hb) rfl rfl (Nat.le_of_ble_eq_true rfl) k_375 rfl (fun y_1 hf => ?_)
  refine a_istore_n C (i := 2) (q := 5) (lv' := [(2, .int y_1.1), (0, .ref (G.2.1 13)), (1, .int v1)]) dX5_readDigit_4 rfl (by decide) rfl rfl ?_
  refine a_iload_n C (i := 2) (q := 6) dX5_readDigit_5 rfl 0 rfl rfl ?_
  refine a_callSI C (q := 9) (As := [.int y_1.1]) (st := []) dX5_readDigit_6 hR (by decide) hf (fun b => b) (fun _ => (y_1.2, r)) cw_X5_isDigit (fun b hb => c_X5_isDigit _ G y_1.2 r y_1.1 b hb) rfl rfl (Nat.le_of_ble_eq_true rfl) k_472 rfl (fun y_2 hf => ?_)
  refine a_if_ne C (tgt := 20) (q := 12) dX5_readDigit_9 hf (by decide) rfl (fun hf => ?_) (fun hf => ?_)
  · refine a_aload_n C (i := 0) (q := 21) dX5_readDigit_20 rfl 1 rfl rfl ?_
    refine a_get5 C (q := 24) dX5_readDigit_21 4 (by decide) k_82 (by decide) rfl rfl rfl ?_
    refine a_iload_n C (i := 1) (q := 25) dX5_readDigit_24 rfl 2 rfl rfl ?_
    refine a_iload_n C (i := 2) (q := 26) dX5_readDigit_25 rfl 0 rfl rfl ?_
    refine a_bipush C (v := (48 : Int32)) (q := 28) dX5_readDigit_26 rfl (by decide) ?_
    refine a_isub C (q := 29) dX5_readDigit_28 rfl ?_
    refine a_iastN C (q := 30) (mk := (fun z => (z, r))) dX5_readDigit_29 hf (by decide) rfl rfl cellE_C1 rfl (fun t_3 hf => ?_)
    refine a_aload_n C (i := 0) (q := 31) dX5_readDigit_30 rfl 1 rfl rfl ?_
    refine a_dup C (q := 32) dX5_readDigit_31 rfl rfl ?_
    refine a_get5 C (q := 35) dX5_readDigit_32 1 (by decide) k_77 (by decide) rfl rfl rfl ?_
    refine a_iconst C (v := (1 : Int32)) (q := 36) dX5_readDigit_35 rfl (by decide) ?_
    refine a_iadd C (q := 37) dX5_readDigit_36 rfl ?_
    refine a_put5N C (q := 40) (mk := (fun z => (z, r))) dX5_readDigit_37 hf 1 (by decide) k_77 (by decide) rfl rfl cellE_C1 rfl rfl rfl (Nat.le_of_ble_eq_true rfl) rfl (fun t_4 hf => ?_)
    refine a_iconst C (v := (0 : Int32)) (q := 41) dX5_readDigit_40 rfl (by decide) ?_
    have hf := Option.some.inj hf; subst hf
    exact (show RetI F G Q cX5_readDigit 3 .int (0 : Int32) (t_4, r) from hK) rfl _ _ dX5_readDigit_41
  · refine a_aload_n C (i := 0) (q := 13) dX5_readDigit_12 rfl 1 rfl rfl ?_
    refine a_get5 C (q := 16) dX5_readDigit_13 1 (by decide) k_77 (by decide) rfl rfl rfl ?_
    refine a_callSI C (q := 19) (As := [.int (y_1.2 13 1)]) (st := []) dX5_readDigit_16 hR (by decide) hf (fun b => b) (fun _ => (y_1.2, r)) cw_X5_faultAt (fun b hb => c_X5_faultAt _ G y_1.2 r (y_1.2 13 1) b hb) rfl rfl (Nat.le_of_ble_eq_true rfl) k_465 rfl (fun y_5 hf => ?_)
    have hf := Option.some.inj hf; subst hf
    exact (show RetI F G Q cX5_readDigit 3 .int y_5 (y_1.2, r) from hK) rfl _ _ dX5_readDigit_19
theorem c_X5_readDigit (l : Launch) (G : GX) (n : Nat) (t : MM) (r : SR) (v1 : Int32) (res : Int32 × MM) (hf : f_X5_readDigit n t v1 = some res) : MetC l G yX5_readDigit cX5_readDigit 3 (some .int) 3 (t, r) [.ref (G.2.1 13), .int v1] (PostI G res.1 (res.2, r)) :=
  m_I (by decide) (Nat.le_of_ble_eq_true rfl) (fun F Q C h1 h2 h3 hK => w_X5_readDigit_e C (Rm.of h1 h3) n t r v1 res hf hK)
theorem cw_X5_readWhatFollows : CwV RX5 yX5_readWhatFollows cX5_readWhatFollows 2 1 (some .int) := ⟨k_479, k_478, kp_4, k_3, by decide +kernel, by decide⟩
def f_X5_readWhatFollows (n : Nat) (t : MM) (v1 : Int32) : Option (Int32 × MM) :=
  ix v1 64 ((if (t 15 v1.toNatClampNeg) = 0 then b1 (f_X5_readDigit n t v1) (fun y_1 => some (y_1.1, y_1.2)) else (if (t 15 v1.toNatClampNeg) = 1 then b1 (f_X5_readDigit n t v1) (fun y_2 => some (y_2.1, y_2.2)) else (if (t 15 v1.toNatClampNeg) = 2 then b1 (f_X5_readNumber n t v1 (0 : Int32) (99 : Int32)) (fun y_3 => some (y_3.1, y_3.2)) else ix v1 64 (nm (st1 t 16 v1.toNatClampNeg (0 : Int32)) (fun t_4 => some ((0 : Int32), t_4)))))))
set_option maxHeartbeats 4000000 in
theorem w_X5_readWhatFollows_e {F : FX} {G : GX} {Q : State → Prop} (C : Cx F G cX5_readWhatFollows 2 RX5) (hR : Rm F 4) (n : Nat) (t : MM) (r : SR)  (v1 : Int32) (res : Int32 × MM) (hf : f_X5_readWhatFollows n t v1 = some res) (hK : RetI F G Q cX5_readWhatFollows 2 .int res.1 (res.2, r)) : At F G Q 2 0 [(0, .ref (G.2.1 13)), (1, .int v1)] [] (t, r) := by
  unfold f_X5_readWhatFollows at hf
  refine a_aload_n C (i := 0) (q := 1) dX5_readWhatFollows_0 rfl 0 rfl rfl ?_
  refine a_get5 C (q := 4) dX5_readWhatFollows_1 3 (by decide) k_80 (by decide) rfl rfl rfl ?_
  refine a_iload_n C (i := 1) (q := 5) dX5_readWhatFollows_4 rfl 1 rfl rfl ?_
  refine a_iald C (q := 6) (g := t 15) dX5_readWhatFollows_5 hf (by decide) rfl rfl (fun hf => ?_)
  rcases ite_cut hf with ⟨hc0, hf⟩ | ⟨hc0, hf⟩
  · refine a_tblIn C (tgt := 32) (q := 6) (v := 0) dX5_readWhatFollows_6 hc0 (by decide) (by decide) rfl (by decide) rfl ?_
    refine a_aload_n C (i := 0) (q := 33) dX5_readWhatFollows_32 rfl 0 rfl rfl ?_
    refine a_iload_n C (i := 1) (q := 34) dX5_readWhatFollows_33 rfl 1 rfl rfl ?_
    refine a_callVI C (q := 37) (As := [.int v1]) (st := []) dX5_readWhatFollows_34 hR (by decide) hf (fun b => b.1) (fun b => (b.2, r)) (by decide) rfl rfl cw_X5_readDigit (fun b hb => c_X5_readDigit _ G n t r v1 b hb) rfl rfl (Nat.le_of_ble_eq_true rfl) k_480 rfl (fun y_1 hf => ?_)
    have hf := Option.some.inj hf; subst hf
    exact (show RetI F G Q cX5_readWhatFollows 2 .int y_1.1 (y_1.2, r) from hK) rfl _ _ dX5_readWhatFollows_37
  · rcases ite_cut hf with ⟨hc1, hf⟩ | ⟨hc1, hf⟩
    · refine a_tblIn C (tgt := 32) (q := 6) (v := 1) dX5_readWhatFollows_6 hc1 (by decide) (by decide) rfl (by decide) rfl ?_
      refine a_aload_n C (i := 0) (q := 33) dX5_readWhatFollows_32 rfl 0 rfl rfl ?_
      refine a_iload_n C (i := 1) (q := 34) dX5_readWhatFollows_33 rfl 1 rfl rfl ?_
      refine a_callVI C (q := 37) (As := [.int v1]) (st := []) dX5_readWhatFollows_34 hR (by decide) hf (fun b => b.1) (fun b => (b.2, r)) (by decide) rfl rfl cw_X5_readDigit (fun b hb => c_X5_readDigit _ G n t r v1 b hb) rfl rfl (Nat.le_of_ble_eq_true rfl) k_480 rfl (fun y_2 hf => ?_)
      have hf := Option.some.inj hf; subst hf
      exact (show RetI F G Q cX5_readWhatFollows 2 .int y_2.1 (y_2.2, r) from hK) rfl _ _ dX5_readWhatFollows_37
    · rcases ite_cut hf with ⟨hc2, hf⟩ | ⟨hc2, hf⟩
      · refine a_tblIn C (tgt := 38) (q := 6) (v := 2) dX5_readWhatFollows_6 hc2 (by decide) (by decide) rfl (by decide) rfl ?_
        refine a_aload_n C (i := 0) (q := 39) dX5_readWhatFollows_38 rfl 0 rfl rfl ?_
        refine a_iload_n C (i := 1) (q := 40) dX5_readWhatFollows_39 rfl 1 rfl rfl ?_
        refine a_iconst C (v := (0 : Int32)) (q := 41) dX5_readWhatFollows_40 rfl (by decide) ?_
        refine a_bipush C (v := (99 : Int32)) (q := 43) dX5_readWhatFollows_41 rfl (by decide) ?_
        refine a_callVI C (q := 46) (As := [.int v1, .int (0 : Int32), .int (99 : Int32)]) (st := []) dX5_readWhatFollows_43 hR (by decide) hf (fun b => b.1) (fun b => (b.2, r)) (by decide) rfl rfl cw_X5_readNumber (fun b hb => c_X5_readNumber _ G n t r v1 (0 : Int32) (99 : Int32) b hb) rfl rfl (Nat.le_of_ble_eq_true rfl) k_468 rfl (fun y_3 hf => ?_)
        have hf := Option.some.inj hf; subst hf
        exact (show RetI F G Q cX5_readWhatFollows 2 .int y_3.1 (y_3.2, r) from hK) rfl _ _ dX5_readWhatFollows_46
      · refine a_tblOut C (tgt := 47) (q := 6) dX5_readWhatFollows_6 (tO3 hc0 hc1 hc2) (by decide) rfl ?_
        refine a_aload_n C (i := 0) (q := 48) dX5_readWhatFollows_47 rfl 0 rfl rfl ?_
        refine a_get5 C (q := 51) dX5_readWhatFollows_48 4 (by decide) k_82 (by decide) rfl rfl rfl ?_
        refine a_iload_n C (i := 1) (q := 52) dX5_readWhatFollows_51 rfl 1 rfl rfl ?_
        refine a_iconst C (v := (0 : Int32)) (q := 53) dX5_readWhatFollows_52 rfl (by decide) ?_
        refine a_iastN C (q := 54) (mk := (fun z => (z, r))) dX5_readWhatFollows_53 hf (by decide) rfl rfl cellE_C1 rfl (fun t_4 hf => ?_)
        refine a_iconst C (v := (0 : Int32)) (q := 55) dX5_readWhatFollows_54 rfl (by decide) ?_
        have hf := Option.some.inj hf; subst hf
        exact (show RetI F G Q cX5_readWhatFollows 2 .int (0 : Int32) (t_4, r) from hK) rfl _ _ dX5_readWhatFollows_55
theorem c_X5_readWhatFollows (l : Launch) (G : GX) (n : Nat) (t : MM) (r : SR) (v1 : Int32) (res : Int32 × MM) (hf : f_X5_readWhatFollows n t v1 = some res) : MetC l G yX5_readWhatFollows cX5_readWhatFollows 2 (some .int) 4 (t, r) [.ref (G.2.1 13), .int v1] (PostI G res.1 (res.2, r)) :=
  m_I (by decide) (Nat.le_of_ble_eq_true rfl) (fun F Q C h1 h2 h3 hK => w_X5_readWhatFollows_e C (Rm.of h1 h3) n t r v1 res hf hK)
theorem cw_X5_readEntries : CwV RX5 yX5_readEntries cX5_readEntries 7 3 (some .int) := ⟨k_370, k_369, kp_0, k_3, by decide +kernel, by decide⟩
def P_X5_readEntries_8 (F : FX) (G : GX) (Q : State → Prop) (r : SR) (k1 : Nat) (v2 : Int32) (v3 : Int32) (v4 : Int32) (t : MM) : Prop := At F G Q 7 8 [(0, .ref (G.2.1 13)), (1, .ref (G.2.2.2 (5 + k1))), (2, .int v2), (3, .int v3), (4, .int v4)] [] (t, r)
def E_X5_readEntries_8 (F : FX) (G : GX) (Q : State → Prop) (r : SR) (k1 : Nat) (v2 : Int32) (v3 : Int32) : (Int32 × MM) ⊕ (MM) → Prop := fun q => match q with
  | .inl y => RetI F G Q cX5_readEntries 7 .int y.1 (y.2, r)
  | .inr t => At F G Q 7 117 [(0, .ref (G.2.1 13))] [] (t, r)
def f_X5_readEntries_93_in8 (n : Nat) (t : MM) (k1 : Nat) (v2 : Int32) (v3 : Int32) : Option (((Int32 × MM) ⊕ (MM)) ⊕ (Int32 × MM)) :=
  b1 (f_X5_faultAt (t 13 1)) (fun y_4 => some (.inl (.inl (y_4, t))))
set_option maxHeartbeats 4000000 in
theorem w_X5_readEntries_93_in8 {F : FX} {G : GX} {Q : State → Prop} (C : Cx F G cX5_readEntries 7 RX5) (hR : Rm F 10) (n : Nat) (t : MM) (r : SR)  (k1 : Nat) (v2 : Int32) (v3 : Int32) (hk1 : k1 < 2) (res : ((Int32 × MM) ⊕ (MM)) ⊕ (Int32 × MM)) (hf : f_X5_readEntries_93_in8 n t k1 v2 v3 = some res) (hK : Sum.elim (E_X5_readEntries_8 F G Q r k1 v2 v3) (fun q => match q with | (v4, t) => P_X5_readEntries_8 F G Q r k1 v2 v3 v4 t) res) : At F G Q 7 93 [(0, .ref (G.2.1 13)), (1, .ref (G.2.2.2 (5 + k1))), (2, .int v2), (3, .int v3)] [] (t, r) := by
  unfold f_X5_readEntries_93_in8 at hf
  refine a_aload_n C (i := 0) (q := 94) dX5_readEntries_93 rfl 0 rfl rfl ?_
  refine a_get5 C (q := 97) dX5_readEntries_94 1 (by decide) k_77 (by decide) rfl rfl rfl ?_
  refine a_callSI C (q := 100) (As := [.int (t 13 1)]) (st := []) dX5_readEntries_97 hR (by decide) hf (fun b => b) (fun _ => (t, r)) cw_X5_faultAt (fun b hb => c_X5_faultAt _ G t r (t 13 1) b hb) rfl rfl (Nat.le_of_ble_eq_true rfl) k_465 rfl (fun y_4 hf => ?_)
  have hf := Option.some.inj hf; subst hf
  exact (show RetI F G Q cX5_readEntries 7 .int y_4 (t, r) from hK) rfl _ _ dX5_readEntries_100
def f_X5_readEntries_54_in8 (n : Nat) (t : MM) (k1 : Nat) (v2 : Int32) (v3 : Int32) (v4 : Int32) (v5 : Int32) : Option (((Int32 × MM) ⊕ (MM)) ⊕ (Int32 × MM)) :=
  (if v5 = 0 then b1 (f_X5_next n t) (fun y_3 => (if y_3.1 = (-1 : Int32) then some (.inl (.inl (v4 + (1 : Int32), y_3.2))) else (if y_3.1 = v2 then (if v4 = (v3 - (1 : Int32)) then f_X5_readEntries_93_in8 n y_3.2 k1 v2 v3 else nm (st1 y_3.2 13 1 ((y_3.2 13 1) + (1 : Int32))) (fun t_5 => nm (v4 + 1) (fun v4_6 => some (.inr (v4_6, t_5))))) else f_X5_readEntries_93_in8 n y_3.2 k1 v2 v3))) else some (.inl (.inl (v5, t))))
set_option maxHeartbeats 4000000 in
theorem w_X5_readEntries_54_in8 {F : FX} {G : GX} {Q : State → Prop} (C : Cx F G cX5_readEntries 7 RX5) (hR : Rm F 10) (n : Nat) (t : MM) (r : SR)  (k1 : Nat) (v2 : Int32) (v3 : Int32) (v4 : Int32) (v5 : Int32) (hk1 : k1 < 2) (res : ((Int32 × MM) ⊕ (MM)) ⊕ (Int32 × MM)) (hf : f_X5_readEntries_54_in8 n t k1 v2 v3 v4 v5 = some res) (hK : Sum.elim (E_X5_readEntries_8 F G Q r k1 v2 v3) (fun q => match q with | (v4, t) => P_X5_readEntries_8 F G Q r k1 v2 v3 v4 t) res) : At F G Q 7 54 [(0, .ref (G.2.1 13)), (1, .ref (G.2.2.2 (5 + k1))), (2, .int v2), (3, .int v3), (4, .int v4), (5, .int v5)] [] (t, r) := by
  unfold f_X5_readEntries_54_in8 at hf
  refine a_iload C (i := 5) (q := 56) dX5_readEntries_54 rfl 5 rfl ?_
  refine a_if_eq C (tgt := 62) (q := 59) dX5_readEntries_56 hf (by decide) rfl (fun hf => ?_) (fun hf => ?_)
  · refine a_aload_n C (i := 0) (q := 63) dX5_readEntries_62 rfl 0 rfl rfl ?_
    refine a_callVI C (q := 66) (As := []) (st := []) dX5_readEntries_63 hR (by decide) hf (fun b => b.1) (fun b => (b.2, r)) (by decide) rfl rfl cw_X5_next (fun b hb => c_X5_next _ G n t r b hb) rfl rfl (Nat.le_of_ble_eq_true rfl) k_375 rfl (fun y_3 hf => ?_)
    refine a_istore C (i := 6) (q := 68) (lv' := [(6, .int y_3.1), (0, .ref (G.2.1 13)), (1, .ref (G.2.2.2 (5 + k1))), (2, .int v2), (3, .int v3), (4, .int v4), (5, .int v5)]) dX5_readEntries_66 (by decide) rfl rfl ?_
    refine a_iload C (i := 6) (q := 70) dX5_readEntries_68 rfl 0 rfl ?_
    refine a_iconst C (v := (-1 : Int32)) (q := 71) dX5_readEntries_70 rfl (by decide) ?_
    refine a_icmp_ne C (tgt := 79) (q := 74) dX5_readEntries_71 hf (by decide) rfl (fun hf => ?_) (fun hf => ?_)
    · refine a_iload C (i := 6) (q := 81) dX5_readEntries_79 rfl 0 rfl ?_
      refine a_iload_n C (i := 2) (q := 82) dX5_readEntries_81 rfl 3 rfl rfl ?_
      refine a_icmp_ne C (tgt := 93) (q := 85) dX5_readEntries_82 hf (by decide) rfl (fun hf => ?_) (fun hf => ?_)
      · exact a_sub [1, 2, 3, 4] rfl (w_X5_readEntries_93_in8 C hR n y_3.2 r k1 v2 v3 hk1 res hf hK)
      · refine a_iload C (i := 4) (q := 87) dX5_readEntries_85 rfl 5 rfl ?_
        refine a_iload_n C (i := 3) (q := 88) dX5_readEntries_87 rfl 4 rfl rfl ?_
        refine a_iconst C (v := (1 : Int32)) (q := 89) dX5_readEntries_88 rfl (by decide) ?_
        refine a_isub C (q := 90) dX5_readEntries_89 rfl ?_
        refine a_icmp_ne C (tgt := 101) (q := 93) dX5_readEntries_90 hf (by decide) rfl (fun hf => ?_) (fun hf => ?_)
        · refine a_aload_n C (i := 0) (q := 102) dX5_readEntries_101 rfl 1 rfl rfl ?_
          refine a_dup C (q := 103) dX5_readEntries_102 rfl rfl ?_
          refine a_get5 C (q := 106) dX5_readEntries_103 1 (by decide) k_77 (by decide) rfl rfl rfl ?_
          refine a_iconst C (v := (1 : Int32)) (q := 107) dX5_readEntries_106 rfl (by decide) ?_
          refine a_iadd C (q := 108) dX5_readEntries_107 rfl ?_
          refine a_put5N C (q := 111) (mk := (fun z => (z, r))) dX5_readEntries_108 hf 1 (by decide) k_77 (by decide) rfl rfl cellE_C1 rfl rfl rfl (Nat.le_of_ble_eq_true rfl) rfl (fun t_5 hf => ?_)
          refine a_iincN C (i := 4) (k := 5) (q := 114) (lv' := fun z => [(4, .int z), (6, .int y_3.1), (0, .ref (G.2.1 13)), (1, .ref (G.2.2.2 (5 + k1))), (2, .int v2), (3, .int v3), (5, .int v5)]) dX5_readEntries_111 hf rfl rfl (by decide) (fun _ => rfl) rfl (fun v4_6 hf => ?_)
          refine a_goto C (q := 8) dX5_readEntries_114 (by decide) ?_
          have hf := Option.some.inj hf; subst hf
          exact a_sub [2, 3, 4, 5, 0] rfl (show At F G Q 7 8 [(0, .ref (G.2.1 13)), (1, .ref (G.2.2.2 (5 + k1))), (2, .int v2), (3, .int v3), (4, .int v4_6)] [] (t_5, r) from hK)
        · exact a_sub [1, 2, 3, 4] rfl (w_X5_readEntries_93_in8 C hR n y_3.2 r k1 v2 v3 hk1 res hf hK)
    · refine a_iload C (i := 4) (q := 76) dX5_readEntries_74 rfl 5 rfl ?_
      refine a_iconst C (v := (1 : Int32)) (q := 77) dX5_readEntries_76 rfl (by decide) ?_
      refine a_iadd C (q := 78) dX5_readEntries_77 rfl ?_
      have hf := Option.some.inj hf; subst hf
      exact (show RetI F G Q cX5_readEntries 7 .int (v4 + (1 : Int32)) (y_3.2, r) from hK) rfl _ _ dX5_readEntries_78
  · refine a_iload C (i := 5) (q := 61) dX5_readEntries_59 rfl 5 rfl ?_
    have hf := Option.some.inj hf; subst hf
    exact (show RetI F G Q cX5_readEntries 7 .int v5 (t, r) from hK) rfl _ _ dX5_readEntries_61
def lb_X5_readEntries_8 (n : Nat) (k1 : Nat) (v2 : Int32) (v3 : Int32) (v4 : Int32) (t : MM) : Option (((Int32 × MM) ⊕ (MM)) ⊕ (Int32 × MM)) :=
  (if v3 ≤ v4 then some (.inl (.inr t)) else b1 (f_X5_readLetter n t k1 v4) (fun y_2 => (if y_2.1 = 0 then (if v2 = (44 : Int32) then b1 (f_X5_readNumber n y_2.2 v4 (1 : Int32) (99 : Int32)) (fun y_8 => f_X5_readEntries_54_in8 n y_8.2 k1 v2 v3 v4 y_8.1) else b1 (f_X5_readWhatFollows n y_2.2 v4) (fun y_7 => f_X5_readEntries_54_in8 n y_7.2 k1 v2 v3 v4 y_7.1)) else f_X5_readEntries_54_in8 n y_2.2 k1 v2 v3 v4 y_2.1)))
set_option maxHeartbeats 4000000 in
theorem w_X5_readEntries_8 {F : FX} {G : GX} {Q : State → Prop} (C : Cx F G cX5_readEntries 7 RX5) (hR : Rm F 10) (n : Nat) (r : SR) (k1 : Nat) (v2 : Int32) (v3 : Int32)  (hk1 : k1 < 2) (v4 : Int32) (t : MM) (res : ((Int32 × MM) ⊕ (MM)) ⊕ (Int32 × MM)) (hf : lb_X5_readEntries_8 n k1 v2 v3 v4 t = some res) (hK : Sum.elim (E_X5_readEntries_8 F G Q r k1 v2 v3) (fun q => match q with | (v4, t) => P_X5_readEntries_8 F G Q r k1 v2 v3 v4 t) res) : P_X5_readEntries_8 F G Q r k1 v2 v3 v4 t := by
  unfold lb_X5_readEntries_8 at hf
  show At F G Q 7 8 [(0, .ref (G.2.1 13)), (1, .ref (G.2.2.2 (5 + k1))), (2, .int v2), (3, .int v3), (4, .int v4)] [] (t, r)
  refine a_iload C (i := 4) (q := 10) dX5_readEntries_8 rfl 4 rfl ?_
  refine a_iload_n C (i := 3) (q := 11) dX5_readEntries_10 rfl 3 rfl rfl ?_
  refine a_icmp_ge C (tgt := 117) (q := 14) dX5_readEntries_11 hf (by decide) rfl (fun hf => ?_) (fun hf => ?_)
  · have hf := Option.some.inj hf; subst hf
    exact a_sub [0] rfl (show At F G Q 7 117 [(0, .ref (G.2.1 13))] [] (t, r) from hK)
  · refine a_aload_n C (i := 0) (q := 15) dX5_readEntries_14 rfl 0 rfl rfl ?_
    refine a_aload_n C (i := 1) (q := 16) dX5_readEntries_15 rfl 1 rfl rfl ?_
    refine a_iload C (i := 4) (q := 18) dX5_readEntries_16 rfl 4 rfl ?_
    refine a_callVI C (q := 21) (As := [.ref (G.2.2.2 (5 + k1)), .int v4]) (st := []) dX5_readEntries_18 hR (by decide) hf (fun b => b.1) (fun b => (b.2, r)) (by decide) rfl rfl cw_X5_readLetter (fun b hb => c_X5_readLetter _ G n t r k1 v4 hk1 b hb) rfl rfl (Nat.le_of_ble_eq_true rfl) k_371 rfl (fun y_2 hf => ?_)
    refine a_istore C (i := 5) (q := 23) (lv' := [(5, .int y_2.1), (0, .ref (G.2.1 13)), (1, .ref (G.2.2.2 (5 + k1))), (2, .int v2), (3, .int v3), (4, .int v4)]) dX5_readEntries_21 (by decide) rfl rfl ?_
    refine a_iload C (i := 5) (q := 25) dX5_readEntries_23 rfl 0 rfl ?_
    refine a_if_ne C (tgt := 54) (q := 28) dX5_readEntries_25 hf (by decide) rfl (fun hf => ?_) (fun hf => ?_)
    · exact a_sub [1, 2, 3, 4, 5, 0] rfl (w_X5_readEntries_54_in8 C hR n y_2.2 r k1 v2 v3 v4 y_2.1 hk1 res hf hK)
    · refine a_iload_n C (i := 2) (q := 29) dX5_readEntries_28 rfl 3 rfl rfl ?_
      refine a_bipush C (v := (44 : Int32)) (q := 31) dX5_readEntries_29 rfl (by decide) ?_
      refine a_icmp_ne C (tgt := 46) (q := 34) dX5_readEntries_31 hf (by decide) rfl (fun hf => ?_) (fun hf => ?_)
      · refine a_aload_n C (i := 0) (q := 47) dX5_readEntries_46 rfl 1 rfl rfl ?_
        refine a_iload C (i := 4) (q := 49) dX5_readEntries_47 rfl 5 rfl ?_
        refine a_callVI C (q := 52) (As := [.int v4]) (st := []) dX5_readEntries_49 hR (by decide) hf (fun b => b.1) (fun b => (b.2, r)) (by decide) rfl rfl cw_X5_readWhatFollows (fun b hb => c_X5_readWhatFollows _ G n y_2.2 r v4 b hb) rfl rfl (Nat.le_of_ble_eq_true rfl) k_476 rfl (fun y_7 hf => ?_)
        refine a_istore C (i := 5) (q := 54) (lv' := [(5, .int y_7.1), (0, .ref (G.2.1 13)), (1, .ref (G.2.2.2 (5 + k1))), (2, .int v2), (3, .int v3), (4, .int v4)]) dX5_readEntries_52 (by decide) rfl rfl ?_
        exact a_sub [1, 2, 3, 4, 5, 0] rfl (w_X5_readEntries_54_in8 C hR n y_7.2 r k1 v2 v3 v4 y_7.1 hk1 res hf hK)
      · refine a_aload_n C (i := 0) (q := 35) dX5_readEntries_34 rfl 1 rfl rfl ?_
        refine a_iload C (i := 4) (q := 37) dX5_readEntries_35 rfl 5 rfl ?_
        refine a_iconst C (v := (1 : Int32)) (q := 38) dX5_readEntries_37 rfl (by decide) ?_
        refine a_bipush C (v := (99 : Int32)) (q := 40) dX5_readEntries_38 rfl (by decide) ?_
        refine a_callVI C (q := 43) (As := [.int v4, .int (1 : Int32), .int (99 : Int32)]) (st := []) dX5_readEntries_40 hR (by decide) hf (fun b => b.1) (fun b => (b.2, r)) (by decide) rfl rfl cw_X5_readNumber (fun b hb => c_X5_readNumber _ G n y_2.2 r v4 (1 : Int32) (99 : Int32) b hb) rfl rfl (Nat.le_of_ble_eq_true rfl) k_468 rfl (fun y_8 hf => ?_)
        refine a_goto C (q := 52) dX5_readEntries_43 (by decide) ?_
        refine a_istore C (i := 5) (q := 54) (lv' := [(5, .int y_8.1), (0, .ref (G.2.1 13)), (1, .ref (G.2.2.2 (5 + k1))), (2, .int v2), (3, .int v3), (4, .int v4)]) dX5_readEntries_52 (by decide) rfl rfl ?_
        exact a_sub [1, 2, 3, 4, 5, 0] rfl (w_X5_readEntries_54_in8 C hR n y_8.2 r k1 v2 v3 v4 y_8.1 hk1 res hf hK)
theorem lp_X5_readEntries_8 {F : FX} {G : GX} {Q : State → Prop} (C : Cx F G cX5_readEntries 7 RX5) (hR : Rm F 10) (n : Nat) (r : SR) (k1 : Nat) (v2 : Int32) (v3 : Int32)  (hk1 : k1 < 2) (v4 : Int32) (t : MM) (x : (Int32 × MM) ⊕ (MM)) (h : it2 (lb_X5_readEntries_8 n k1 v2 v3) n v4 t = some x) (hE : E_X5_readEntries_8 F G Q r k1 v2 v3 x) : At F G Q 7 8 [(0, .ref (G.2.1 13)), (1, .ref (G.2.2.2 (5 + k1))), (2, .int v2), (3, .int v3), (4, .int v4)] [] (t, r) :=
  it2_ind (b := (lb_X5_readEntries_8 n k1 v2 v3)) (E := E_X5_readEntries_8 F G Q r k1 v2 v3) (P := fun v4 t => P_X5_readEntries_8 F G Q r k1 v2 v3 v4 t) (fun v4 t res hf hK => w_X5_readEntries_8 C hR n r k1 v2 v3  hk1 v4 t res hf hK) n v4 t x h hE
def f_X5_readEntries (n : Nat) (t : MM) (k1 : Nat) (v2 : Int32) (v3 : Int32) : Option (Int32 × MM) :=
  nm (st1 t 13 1 (0 : Int32)) (fun t_1 => bR (it2 (lb_X5_readEntries_8 n k1 v2 v3) n (0 : Int32) t_1) (fun y => some y) (fun t_9 => b1 (f_X5_faultAt (t_9 13 1)) (fun y_10 => some (y_10, t_9))))
set_option maxHeartbeats 4000000 in
theorem w_X5_readEntries_e {F : FX} {G : GX} {Q : State → Prop} (C : Cx F G cX5_readEntries 7 RX5) (hR : Rm F 10) (n : Nat) (t : MM) (r : SR)  (k1 : Nat) (v2 : Int32) (v3 : Int32) (hk1 : k1 < 2) (res : Int32 × MM) (hf : f_X5_readEntries n t k1 v2 v3 = some res) (hK : RetI F G Q cX5_readEntries 7 .int res.1 (res.2, r)) : At F G Q 7 0 [(0, .ref (G.2.1 13)), (1, .ref (G.2.2.2 (5 + k1))), (2, .int v2), (3, .int v3)] [] (t, r) := by
  unfold f_X5_readEntries at hf
  refine a_aload_n C (i := 0) (q := 1) dX5_readEntries_0 rfl 0 rfl rfl ?_
  refine a_iconst C (v := (0 : Int32)) (q := 2) dX5_readEntries_1 rfl (by decide) ?_
  refine a_put5N C (q := 5) (mk := (fun z => (z, r))) dX5_readEntries_2 hf 1 (by decide) k_77 (by decide) rfl rfl cellE_C1 rfl rfl rfl (Nat.le_of_ble_eq_true rfl) rfl (fun t_1 hf => ?_)
  refine a_iconst C (v := (0 : Int32)) (q := 6) dX5_readEntries_5 rfl (by decide) ?_
  refine a_istore C (i := 4) (q := 8) (lv' := [(4, .int (0 : Int32)), (0, .ref (G.2.1 13)), (1, .ref (G.2.2.2 (5 + k1))), (2, .int v2), (3, .int v3)]) dX5_readEntries_6 (by decide) rfl rfl ?_
  rcases bR_some hf with ⟨y, h1, hf⟩ | ⟨t_9, h1, hf⟩
  · refine a_sub [1, 2, 3, 4, 0] rfl (lp_X5_readEntries_8 C hR n r k1 v2 v3  hk1 (0 : Int32) t_1 _ h1 ?_)
    have hf := Option.some.inj hf; subst hf
    exact hK
  · refine a_sub [1, 2, 3, 4, 0] rfl (lp_X5_readEntries_8 C hR n r k1 v2 v3  hk1 (0 : Int32) t_1 _ h1 ?_)
    show At F G Q 7 117 [(0, .ref (G.2.1 13))] [] (t_9, r)
    refine a_aload_n C (i := 0) (q := 118) dX5_readEntries_117 rfl 0 rfl rfl ?_
    refine a_get5 C (q := 121) dX5_readEntries_118 1 (by decide) k_77 (by decide) rfl rfl rfl ?_
    refine a_callSI C (q := 124) (As := [.int (t_9 13 1)]) (st := []) dX5_readEntries_121 hR (by decide) hf (fun b => b) (fun _ => (t_9, r)) cw_X5_faultAt (fun b hb => c_X5_faultAt _ G t_9 r (t_9 13 1) b hb) rfl rfl (Nat.le_of_ble_eq_true rfl) k_465 rfl (fun y_10 hf => ?_)
    have hf := Option.some.inj hf; subst hf
    exact (show RetI F G Q cX5_readEntries 7 .int y_10 (t_9, r) from hK) rfl _ _ dX5_readEntries_124
theorem c_X5_readEntries (l : Launch) (G : GX) (n : Nat) (t : MM) (r : SR) (k1 : Nat) (v2 : Int32) (v3 : Int32) (hk1 : k1 < 2) (res : Int32 × MM) (hf : f_X5_readEntries n t k1 v2 v3 = some res) : MetC l G yX5_readEntries cX5_readEntries 7 (some .int) 10 (t, r) [.ref (G.2.1 13), .ref (G.2.2.2 (5 + k1)), .int v2, .int v3] (PostI G res.1 (res.2, r)) :=
  m_I (by decide) (Nat.le_of_ble_eq_true rfl) (fun F Q C h1 h2 h3 hK => w_X5_readEntries_e C (Rm.of h1 h3) n t r k1 v2 v3 hk1 res hf hK)
theorem cw_X5_readPeople : CwV RX5 yX5_readPeople cX5_readPeople 1 0 (some .int) := ⟨k_365, k_363, k_364, k_3, by decide +kernel, by decide⟩
def f_X5_readPeople (n : Nat) (t : MM) : Option (Int32 × MM) :=
  b1 (f_X5_readEntries n t 0 (44 : Int32) (10 : Int32)) (fun y_1 => some (y_1.1, y_1.2))
set_option maxHeartbeats 4000000 in
theorem w_X5_readPeople_e {F : FX} {G : GX} {Q : State → Prop} (C : Cx F G cX5_readPeople 1 RX5) (hR : Rm F 11) (n : Nat) (t : MM) (r : SR)   (res : Int32 × MM) (hf : f_X5_readPeople n t = some res) (hK : RetI F G Q cX5_readPeople 1 .int res.1 (res.2, r)) : At F G Q 1 0 [(0, .ref (G.2.1 13))] [] (t, r) := by
  unfold f_X5_readPeople at hf
  refine a_aload_n C (i := 0) (q := 1) dX5_readPeople_0 rfl 0 rfl rfl ?_
  refine b_ldcS0 C (q := 3) dX5_readPeople_1 rfl ?_
  refine a_bipush C (v := (44 : Int32)) (q := 5) dX5_readPeople_3 rfl (by decide) ?_
  refine a_bipush C (v := (10 : Int32)) (q := 7) dX5_readPeople_5 rfl (by decide) ?_
  refine a_callVI C (q := 10) (As := [.ref (G.2.2.2 (5 + 0)), .int (44 : Int32), .int (10 : Int32)]) (st := []) dX5_readPeople_7 hR (by decide) hf (fun b => b.1) (fun b => (b.2, r)) (by decide) rfl rfl cw_X5_readEntries (fun b hb => c_X5_readEntries _ G n t r 0 (44 : Int32) (10 : Int32) (by decide) b hb) rfl rfl (Nat.le_of_ble_eq_true rfl) k_367 rfl (fun y_1 hf => ?_)
  have hf := Option.some.inj hf; subst hf
  exact (show RetI F G Q cX5_readPeople 1 .int y_1.1 (y_1.2, r) from hK) rfl _ _ dX5_readPeople_10
theorem c_X5_readPeople (l : Launch) (G : GX) (n : Nat) (t : MM) (r : SR)  (res : Int32 × MM) (hf : f_X5_readPeople n t = some res) : MetC l G yX5_readPeople cX5_readPeople 1 (some .int) 11 (t, r) [.ref (G.2.1 13)] (PostI G res.1 (res.2, r)) :=
  m_I (by decide) (Nat.le_of_ble_eq_true rfl) (fun F Q C h1 h2 h3 hK => w_X5_readPeople_e C (Rm.of h1 h3) n t r res hf hK)
theorem cw_X5_readEvening : CwV RX5 yX5_readEvening cX5_readEvening 1 0 (some .int) := ⟨k_492, k_490, k_491, k_3, by decide +kernel, by decide⟩
def f_X5_readEvening (n : Nat) (t : MM) : Option (Int32 × MM) :=
  b1 (f_X5_readEntries n t 1 (59 : Int32) (64 : Int32)) (fun y_1 => some (y_1.1, y_1.2))
set_option maxHeartbeats 4000000 in
theorem w_X5_readEvening_e {F : FX} {G : GX} {Q : State → Prop} (C : Cx F G cX5_readEvening 1 RX5) (hR : Rm F 11) (n : Nat) (t : MM) (r : SR)   (res : Int32 × MM) (hf : f_X5_readEvening n t = some res) (hK : RetI F G Q cX5_readEvening 1 .int res.1 (res.2, r)) : At F G Q 1 0 [(0, .ref (G.2.1 13))] [] (t, r) := by
  unfold f_X5_readEvening at hf
  refine a_aload_n C (i := 0) (q := 1) dX5_readEvening_0 rfl 0 rfl rfl ?_
  refine b_ldcS1 C (q := 3) dX5_readEvening_1 rfl ?_
  refine a_bipush C (v := (59 : Int32)) (q := 5) dX5_readEvening_3 rfl (by decide) ?_
  refine a_bipush C (v := (64 : Int32)) (q := 7) dX5_readEvening_5 rfl (by decide) ?_
  refine a_callVI C (q := 10) (As := [.ref (G.2.2.2 (5 + 1)), .int (59 : Int32), .int (64 : Int32)]) (st := []) dX5_readEvening_7 hR (by decide) hf (fun b => b.1) (fun b => (b.2, r)) (by decide) rfl rfl cw_X5_readEntries (fun b hb => c_X5_readEntries _ G n t r 1 (59 : Int32) (64 : Int32) (by decide) b hb) rfl rfl (Nat.le_of_ble_eq_true rfl) k_367 rfl (fun y_1 hf => ?_)
  have hf := Option.some.inj hf; subst hf
  exact (show RetI F G Q cX5_readEvening 1 .int y_1.1 (y_1.2, r) from hK) rfl _ _ dX5_readEvening_10
theorem c_X5_readEvening (l : Launch) (G : GX) (n : Nat) (t : MM) (r : SR)  (res : Int32 × MM) (hf : f_X5_readEvening n t = some res) : MetC l G yX5_readEvening cX5_readEvening 1 (some .int) 11 (t, r) [.ref (G.2.1 13)] (PostI G res.1 (res.2, r)) :=
  m_I (by decide) (Nat.le_of_ble_eq_true rfl) (fun F Q C h1 h2 h3 hK => w_X5_readEvening_e C (Rm.of h1 h3) n t r res hf hK)
