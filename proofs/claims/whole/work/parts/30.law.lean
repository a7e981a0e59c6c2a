def ScrOk (F : FX) (G : GX) (b L : Nat) (xs : Nat → Int32) : Prop := match F with
  | (_, _, _, _, s, _, _, _, _, _, _, _) => va_X b L xs s s.heap ∧ b < s.heap.size ∧ ¬ Af G b
theorem a_slen {F : FX} {G : GX} {Q : State → Prop} {nL pc q : Nat} {lv : List (Nat × Value)} {st : List Value} {S : SX} {cc : ByteArray} {own : String} (C : Cx F G cc nL own) {b L : Nat} {xs : Nat → Int32} (hX : ScrOk F G b L xs) (hd : decode cc pc = .ok (.arraylength, 1)) (hq : pc + 1 = q) (kk : At F G Q nL q lv (.int (Int32.ofNat L) :: st) S) : At F G Q nL pc lv (.ref b :: st) S := by
  obtain ⟨p, l, e, R, s, m, args, below, meth, c, ce, sl⟩ := F
  obtain ⟨hx, hb, hml, hown, hts, hlk, hK, hSt⟩ := C
  subst hq
  intro H locs ls hP hD hS hl
  exact va_slen hx hb hX.1 hX.2.1 hX.2.2 hS hd (kk H locs ls hP hD hS hl)
theorem a_sld {F : FX} {G : GX} {Q : State → Prop} {nL pc q : Nat} {lv : List (Nat × Value)} {st : List Value} {S : SX} {cc : ByteArray} {own : String} (C : Cx F G cc nL own) {b L : Nat} {xs : Nat → Int32} {i : Int32} {B : Type} {a : Option B} {r : B} (hX : ScrOk F G b L xs) (hd : decode cc pc = .ok (.iaload, 1)) (hf : ix i L a = some r) (hq : pc + 1 = q) (kk : a = some r → At F G Q nL q lv (.int (xs i.toNatClampNeg) :: st) S) : At F G Q nL pc lv (.int i :: .ref b :: st) S := by
  obtain ⟨p, l, e, R, s, m, args, below, meth, c, ce, sl⟩ := F
  obtain ⟨hx, hb, hml, hown, hts, hlk, hK, hSt⟩ := C
  subst hq
  intro H locs ls hP hD hS hl
  obtain ⟨hin, hf⟩ := ix_some hf
  exact va_sld hx hb hX.1 hX.2.1 hX.2.2 hS hin hd (kk hf H locs ls hP hD hS hl)
def P_law (F : FX) (G : GX) (Q : State → Prop) (b : Nat) (v3 : Int32) (t : MM) (u : SR) : Prop := At F G Q 4 18 [(0, .ref b), (1, .ref (G.2.1 0)), (2, .ref (G.2.1 39)), (3, .int v3)] [] (t, u)
def K_law (F : FX) (G : GX) (Q : State → Prop) (b : Nat) : Unit ⊕ (Int32 × MM × SR) → Prop := Sum.elim (fun _ => True) (fun q => match q with | (v3, t, u) => P_law F G Q b v3 t u)
def f_L_law_160 (n L : Nat) (xs : Nat → Int32) (v3 : Int32) (t : MM) (u : SR) : Option (Unit ⊕ (Int32 × MM × SR)) :=
  ix (v3 + (1 : Int32)) L (ix (v3 + (2 : Int32)) L (b1 (f_X7_person t (xs (v3 + (1 : Int32)).toNatClampNeg) (xs (v3 + (2 : Int32)).toNatClampNeg)) (fun y_1 => ix (v3 + (1 : Int32)) L (ix (v3 + (2 : Int32)) L (b1 (f_X8_person u (xs (v3 + (1 : Int32)).toNatClampNeg) (xs (v3 + (2 : Int32)).toNatClampNeg)) (fun y_2 => (if y_1.1 = y_2.1 then nm (v3 + 6) (fun v3_3 => some (.inr (v3_3, y_1.2, y_2.2))) else (none : Option (Unit ⊕ (Int32 × MM × SR))))))))))
set_option maxHeartbeats 4000000 in
theorem w_L_law_160 {F : FX} {G : GX} {Q : State → Prop} {b L : Nat} {xs : Nat → Int32} (C : Cx F G cL_law 4 RL) (hR : Rm F 34) (hX : ScrOk F G b L xs) (hE : ∀ S : SX, At F G Q 4 1010 [] [] S) (n : Nat) (v3 : Int32) (t : MM) (u : SR) (res : Unit ⊕ (Int32 × MM × SR)) (hf : f_L_law_160 n L xs v3 t u = some res) (hK : K_law F G Q b res) : At F G Q 4 160 [(0, .ref b), (1, .ref (G.2.1 0)), (2, .ref (G.2.1 39)), (3, .int v3)] [] (t, u) := by
  unfold f_L_law_160 at hf
  refine a_aload_n C (i := 1) (q := 161) dL_law_160 rfl 1 rfl rfl ?_
  refine a_aload_n C (i := 0) (q := 162) dL_law_161 rfl 0 rfl rfl ?_
  refine a_iload_n C (i := 3) (q := 163) dL_law_162 rfl 3 rfl rfl ?_
  refine a_iconst C (v := (1 : Int32)) (q := 164) dL_law_163 rfl (by decide) ?_
  refine a_iadd C (q := 165) dL_law_164 rfl ?_
  refine a_sld C hX (q := 166) dL_law_165 hf rfl (fun hf => ?_)
  refine a_aload_n C (i := 0) (q := 167) dL_law_166 rfl 0 rfl rfl ?_
  refine a_iload_n C (i := 3) (q := 168) dL_law_167 rfl 3 rfl rfl ?_
  refine a_iconst C (v := (2 : Int32)) (q := 169) dL_law_168 rfl (by decide) ?_
  refine a_iadd C (q := 170) dL_law_169 rfl ?_
  refine a_sld C hX (q := 171) dL_law_170 hf rfl (fun hf => ?_)
  refine a_callVI C (q := 174) (As := [.int (xs (v3 + (1 : Int32)).toNatClampNeg), .int (xs (v3 + (2 : Int32)).toNatClampNeg)]) (st := []) dL_law_171 hR (by decide) hf (fun b => b.1) (fun b => (b.2, u)) (by decide) rfl rfl cw_X7_person (fun b hb => c_X7_person _ G t u (xs (v3 + (1 : Int32)).toNatClampNeg) (xs (v3 + (2 : Int32)).toNatClampNeg) b hb) rfl rfl (Nat.le_of_ble_eq_true rfl) k_244 rfl (fun y_1 hf => ?_)
  refine a_aload_n C (i := 2) (q := 175) dL_law_174 rfl 2 rfl rfl ?_
  refine a_aload_n C (i := 0) (q := 176) dL_law_175 rfl 0 rfl rfl ?_
  refine a_iload_n C (i := 3) (q := 177) dL_law_176 rfl 3 rfl rfl ?_
  refine a_iconst C (v := (1 : Int32)) (q := 178) dL_law_177 rfl (by decide) ?_
  refine a_iadd C (q := 179) dL_law_178 rfl ?_
  refine a_sld C hX (q := 180) dL_law_179 hf rfl (fun hf => ?_)
  refine a_aload_n C (i := 0) (q := 181) dL_law_180 rfl 0 rfl rfl ?_
  refine a_iload_n C (i := 3) (q := 182) dL_law_181 rfl 3 rfl rfl ?_
  refine a_iconst C (v := (2 : Int32)) (q := 183) dL_law_182 rfl (by decide) ?_
  refine a_iadd C (q := 184) dL_law_183 rfl ?_
  refine a_sld C hX (q := 185) dL_law_184 hf rfl (fun hf => ?_)
  refine a_callVI C (q := 188) (As := [.int (xs (v3 + (1 : Int32)).toNatClampNeg), .int (xs (v3 + (2 : Int32)).toNatClampNeg)]) (st := [.int y_1.1]) dL_law_185 hR (by decide) hf (fun b => b.1) (fun b => (y_1.2, b.2)) (by decide) rfl rfl cw_X8_person (fun b hb => c_X8_person _ G y_1.2 u (xs (v3 + (1 : Int32)).toNatClampNeg) (xs (v3 + (2 : Int32)).toNatClampNeg) b hb) rfl rfl (Nat.le_of_ble_eq_true rfl) k_875 rfl (fun y_2 hf => ?_)
  refine a_icmp_eq C (tgt := 1004) (q := 191) dL_law_188 hf (by decide) rfl (fun hf => ?_) (fun hf => ?_)
  · refine a_iincN C (i := 3) (k := 3) (q := 1007) (lv' := fun z => [(3, .int z), (0, .ref b), (1, .ref (G.2.1 0)), (2, .ref (G.2.1 39))]) dL_law_1004 hf rfl rfl (by decide) (fun _ => rfl) rfl (fun v3_3 hf => ?_)
    refine a_goto C (q := 18) dL_law_1007 (by decide) ?_
    have hf := Option.some.inj hf; subst hf
    exact a_sub [1, 2, 3, 0] rfl (show At F G Q 4 18 [(0, .ref b), (1, .ref (G.2.1 0)), (2, .ref (G.2.1 39)), (3, .int v3_3)] [] (y_1.2, y_2.2) from hK)
  · refine a_iconst C (v := (0 : Int32)) (q := 192) dL_law_191 rfl (by decide) ?_
    cases hf
def f_L_law_193 (n L : Nat) (xs : Nat → Int32) (v3 : Int32) (t : MM) (u : SR) : Option (Unit ⊕ (Int32 × MM × SR)) :=
  ix (v3 + (1 : Int32)) L (ix (v3 + (2 : Int32)) L (b1 (f_X7_told t (xs (v3 + (1 : Int32)).toNatClampNeg) (xs (v3 + (2 : Int32)).toNatClampNeg)) (fun y_4 => ix (v3 + (1 : Int32)) L (ix (v3 + (2 : Int32)) L (b1 (f_X8_told u (xs (v3 + (1 : Int32)).toNatClampNeg) (xs (v3 + (2 : Int32)).toNatClampNeg)) (fun y_5 => (if y_4 = y_5 then nm (v3 + 6) (fun v3_6 => some (.inr (v3_6, t, u))) else (none : Option (Unit ⊕ (Int32 × MM × SR))))))))))
set_option maxHeartbeats 4000000 in
theorem w_L_law_193 {F : FX} {G : GX} {Q : State → Prop} {b L : Nat} {xs : Nat → Int32} (C : Cx F G cL_law 4 RL) (hR : Rm F 34) (hX : ScrOk F G b L xs) (hE : ∀ S : SX, At F G Q 4 1010 [] [] S) (n : Nat) (v3 : Int32) (t : MM) (u : SR) (res : Unit ⊕ (Int32 × MM × SR)) (hf : f_L_law_193 n L xs v3 t u = some res) (hK : K_law F G Q b res) : At F G Q 4 193 [(0, .ref b), (1, .ref (G.2.1 0)), (2, .ref (G.2.1 39)), (3, .int v3)] [] (t, u) := by
  unfold f_L_law_193 at hf
  refine a_aload_n C (i := 1) (q := 194) dL_law_193 rfl 1 rfl rfl ?_
  refine a_aload_n C (i := 0) (q := 195) dL_law_194 rfl 0 rfl rfl ?_
  refine a_iload_n C (i := 3) (q := 196) dL_law_195 rfl 3 rfl rfl ?_
  refine a_iconst C (v := (1 : Int32)) (q := 197) dL_law_196 rfl (by decide) ?_
  refine a_iadd C (q := 198) dL_law_197 rfl ?_
  refine a_sld C hX (q := 199) dL_law_198 hf rfl (fun hf => ?_)
  refine a_aload_n C (i := 0) (q := 200) dL_law_199 rfl 0 rfl rfl ?_
  refine a_iload_n C (i := 3) (q := 201) dL_law_200 rfl 3 rfl rfl ?_
  refine a_iconst C (v := (2 : Int32)) (q := 202) dL_law_201 rfl (by decide) ?_
  refine a_iadd C (q := 203) dL_law_202 rfl ?_
  refine a_sld C hX (q := 204) dL_law_203 hf rfl (fun hf => ?_)
  refine a_callVI C (q := 207) (As := [.int (xs (v3 + (1 : Int32)).toNatClampNeg), .int (xs (v3 + (2 : Int32)).toNatClampNeg)]) (st := []) dL_law_204 hR (by decide) hf (fun b => b) (fun _ => (t, u)) (by decide) rfl rfl cw_X7_told (fun b hb => c_X7_told _ G t u (xs (v3 + (1 : Int32)).toNatClampNeg) (xs (v3 + (2 : Int32)).toNatClampNeg) b hb) rfl rfl (Nat.le_of_ble_eq_true rfl) k_252 rfl (fun y_4 hf => ?_)
  refine a_aload_n C (i := 2) (q := 208) dL_law_207 rfl 2 rfl rfl ?_
  refine a_aload_n C (i := 0) (q := 209) dL_law_208 rfl 0 rfl rfl ?_
  refine a_iload_n C (i := 3) (q := 210) dL_law_209 rfl 3 rfl rfl ?_
  refine a_iconst C (v := (1 : Int32)) (q := 211) dL_law_210 rfl (by decide) ?_
  refine a_iadd C (q := 212) dL_law_211 rfl ?_
  refine a_sld C hX (q := 213) dL_law_212 hf rfl (fun hf => ?_)
  refine a_aload_n C (i := 0) (q := 214) dL_law_213 rfl 0 rfl rfl ?_
  refine a_iload_n C (i := 3) (q := 215) dL_law_214 rfl 3 rfl rfl ?_
  refine a_iconst C (v := (2 : Int32)) (q := 216) dL_law_215 rfl (by decide) ?_
  refine a_iadd C (q := 217) dL_law_216 rfl ?_
  refine a_sld C hX (q := 218) dL_law_217 hf rfl (fun hf => ?_)
  refine a_callVI C (q := 221) (As := [.int (xs (v3 + (1 : Int32)).toNatClampNeg), .int (xs (v3 + (2 : Int32)).toNatClampNeg)]) (st := [.int y_4]) dL_law_218 hR (by decide) hf (fun b => b) (fun _ => (t, u)) (by decide) rfl rfl cw_X8_told (fun b hb => c_X8_told _ G t u (xs (v3 + (1 : Int32)).toNatClampNeg) (xs (v3 + (2 : Int32)).toNatClampNeg) b hb) rfl rfl (Nat.le_of_ble_eq_true rfl) k_888 rfl (fun y_5 hf => ?_)
  refine a_icmp_eq C (tgt := 1004) (q := 224) dL_law_221 hf (by decide) rfl (fun hf => ?_) (fun hf => ?_)
  · refine a_iincN C (i := 3) (k := 3) (q := 1007) (lv' := fun z => [(3, .int z), (0, .ref b), (1, .ref (G.2.1 0)), (2, .ref (G.2.1 39))]) dL_law_1004 hf rfl rfl (by decide) (fun _ => rfl) rfl (fun v3_6 hf => ?_)
    refine a_goto C (q := 18) dL_law_1007 (by decide) ?_
    have hf := Option.some.inj hf; subst hf
    exact a_sub [1, 2, 3, 0] rfl (show At F G Q 4 18 [(0, .ref b), (1, .ref (G.2.1 0)), (2, .ref (G.2.1 39)), (3, .int v3_6)] [] (t, u) from hK)
  · refine a_iconst C (v := (0 : Int32)) (q := 225) dL_law_224 rfl (by decide) ?_
    cases hf
def f_L_law_226 (n L : Nat) (xs : Nat → Int32) (v3 : Int32) (t : MM) (u : SR) : Option (Unit ⊕ (Int32 × MM × SR)) :=
  ix (v3 + (1 : Int32)) L (ix (v3 + (2 : Int32)) L (b1 (f_X7_car n t (xs (v3 + (1 : Int32)).toNatClampNeg) (xs (v3 + (2 : Int32)).toNatClampNeg)) (fun y_7 => ix (v3 + (1 : Int32)) L (ix (v3 + (2 : Int32)) L (b1 (f_X8_car n u (xs (v3 + (1 : Int32)).toNatClampNeg) (xs (v3 + (2 : Int32)).toNatClampNeg)) (fun y_8 => (if y_7 = y_8 then nm (v3 + 6) (fun v3_9 => some (.inr (v3_9, t, u))) else (none : Option (Unit ⊕ (Int32 × MM × SR))))))))))
set_option maxHeartbeats 4000000 in
theorem w_L_law_226 {F : FX} {G : GX} {Q : State → Prop} {b L : Nat} {xs : Nat → Int32} (C : Cx F G cL_law 4 RL) (hR : Rm F 34) (hX : ScrOk F G b L xs) (hE : ∀ S : SX, At F G Q 4 1010 [] [] S) (n : Nat) (v3 : Int32) (t : MM) (u : SR) (res : Unit ⊕ (Int32 × MM × SR)) (hf : f_L_law_226 n L xs v3 t u = some res) (hK : K_law F G Q b res) : At F G Q 4 226 [(0, .ref b), (1, .ref (G.2.1 0)), (2, .ref (G.2.1 39)), (3, .int v3)] [] (t, u) := by
  unfold f_L_law_226 at hf
  refine a_aload_n C (i := 1) (q := 227) dL_law_226 rfl 1 rfl rfl ?_
  refine a_aload_n C (i := 0) (q := 228) dL_law_227 rfl 0 rfl rfl ?_
  refine a_iload_n C (i := 3) (q := 229) dL_law_228 rfl 3 rfl rfl ?_
  refine a_iconst C (v := (1 : Int32)) (q := 230) dL_law_229 rfl (by decide) ?_
  refine a_iadd C (q := 231) dL_law_230 rfl ?_
  refine a_sld C hX (q := 232) dL_law_231 hf rfl (fun hf => ?_)
  refine a_aload_n C (i := 0) (q := 233) dL_law_232 rfl 0 rfl rfl ?_
  refine a_iload_n C (i := 3) (q := 234) dL_law_233 rfl 3 rfl rfl ?_
  refine a_iconst C (v := (2 : Int32)) (q := 235) dL_law_234 rfl (by decide) ?_
  refine a_iadd C (q := 236) dL_law_235 rfl ?_
  refine a_sld C hX (q := 237) dL_law_236 hf rfl (fun hf => ?_)
  refine a_callVI C (q := 240) (As := [.int (xs (v3 + (1 : Int32)).toNatClampNeg), .int (xs (v3 + (2 : Int32)).toNatClampNeg)]) (st := []) dL_law_237 hR (by decide) hf (fun b => b) (fun _ => (t, u)) (by decide) rfl rfl cw_X7_car (fun b hb => c_X7_car _ G n t u (xs (v3 + (1 : Int32)).toNatClampNeg) (xs (v3 + (2 : Int32)).toNatClampNeg) b hb) rfl rfl (Nat.le_of_ble_eq_true rfl) k_260 rfl (fun y_7 hf => ?_)
  refine a_aload_n C (i := 2) (q := 241) dL_law_240 rfl 2 rfl rfl ?_
  refine a_aload_n C (i := 0) (q := 242) dL_law_241 rfl 0 rfl rfl ?_
  refine a_iload_n C (i := 3) (q := 243) dL_law_242 rfl 3 rfl rfl ?_
  refine a_iconst C (v := (1 : Int32)) (q := 244) dL_law_243 rfl (by decide) ?_
  refine a_iadd C (q := 245) dL_law_244 rfl ?_
  refine a_sld C hX (q := 246) dL_law_245 hf rfl (fun hf => ?_)
  refine a_aload_n C (i := 0) (q := 247) dL_law_246 rfl 0 rfl rfl ?_
  refine a_iload_n C (i := 3) (q := 248) dL_law_247 rfl 3 rfl rfl ?_
  refine a_iconst C (v := (2 : Int32)) (q := 249) dL_law_248 rfl (by decide) ?_
  refine a_iadd C (q := 250) dL_law_249 rfl ?_
  refine a_sld C hX (q := 251) dL_law_250 hf rfl (fun hf => ?_)
  refine a_callVI C (q := 254) (As := [.int (xs (v3 + (1 : Int32)).toNatClampNeg), .int (xs (v3 + (2 : Int32)).toNatClampNeg)]) (st := [.int y_7]) dL_law_251 hR (by decide) hf (fun b => b) (fun _ => (t, u)) (by decide) rfl rfl cw_X8_car (fun b hb => c_X8_car _ G n t u (xs (v3 + (1 : Int32)).toNatClampNeg) (xs (v3 + (2 : Int32)).toNatClampNeg) b hb) rfl rfl (Nat.le_of_ble_eq_true rfl) k_896 rfl (fun y_8 hf => ?_)
  refine a_icmp_eq C (tgt := 1004) (q := 257) dL_law_254 hf (by decide) rfl (fun hf => ?_) (fun hf => ?_)
  · refine a_iincN C (i := 3) (k := 3) (q := 1007) (lv' := fun z => [(3, .int z), (0, .ref b), (1, .ref (G.2.1 0)), (2, .ref (G.2.1 39))]) dL_law_1004 hf rfl rfl (by decide) (fun _ => rfl) rfl (fun v3_9 hf => ?_)
    refine a_goto C (q := 18) dL_law_1007 (by decide) ?_
    have hf := Option.some.inj hf; subst hf
    exact a_sub [1, 2, 3, 0] rfl (show At F G Q 4 18 [(0, .ref b), (1, .ref (G.2.1 0)), (2, .ref (G.2.1 39)), (3, .int v3_9)] [] (t, u) from hK)
  · refine a_iconst C (v := (0 : Int32)) (q := 258) dL_law_257 rfl (by decide) ?_
    cases hf
def f_L_law_259 (n L : Nat) (xs : Nat → Int32) (v3 : Int32) (t : MM) (u : SR) : Option (Unit ⊕ (Int32 × MM × SR)) :=
  ix (v3 + (1 : Int32)) L (b1 (f_X7_limit n t (xs (v3 + (1 : Int32)).toNatClampNeg)) (fun y_10 => ix (v3 + (1 : Int32)) L (b1 (f_X8_limit n u (xs (v3 + (1 : Int32)).toNatClampNeg)) (fun y_11 => (if y_10.1 = y_11.1 then nm (v3 + 6) (fun v3_12 => some (.inr (v3_12, y_10.2, y_11.2))) else (none : Option (Unit ⊕ (Int32 × MM × SR))))))))
set_option maxHeartbeats 4000000 in
theorem w_L_law_259 {F : FX} {G : GX} {Q : State → Prop} {b L : Nat} {xs : Nat → Int32} (C : Cx F G cL_law 4 RL) (hR : Rm F 34) (hX : ScrOk F G b L xs) (hE : ∀ S : SX, At F G Q 4 1010 [] [] S) (n : Nat) (v3 : Int32) (t : MM) (u : SR) (res : Unit ⊕ (Int32 × MM × SR)) (hf : f_L_law_259 n L xs v3 t u = some res) (hK : K_law F G Q b res) : At F G Q 4 259 [(0, .ref b), (1, .ref (G.2.1 0)), (2, .ref (G.2.1 39)), (3, .int v3)] [] (t, u) := by
  unfold f_L_law_259 at hf
  refine a_aload_n C (i := 1) (q := 260) dL_law_259 rfl 1 rfl rfl ?_
  refine a_aload_n C (i := 0) (q := 261) dL_law_260 rfl 0 rfl rfl ?_
  refine a_iload_n C (i := 3) (q := 262) dL_law_261 rfl 3 rfl rfl ?_
  refine a_iconst C (v := (1 : Int32)) (q := 263) dL_law_262 rfl (by decide) ?_
  refine a_iadd C (q := 264) dL_law_263 rfl ?_
  refine a_sld C hX (q := 265) dL_law_264 hf rfl (fun hf => ?_)
  refine a_callVI C (q := 268) (As := [.int (xs (v3 + (1 : Int32)).toNatClampNeg)]) (st := []) dL_law_265 hR (by decide) hf (fun b => b.1) (fun b => (b.2, u)) (by decide) rfl rfl cw_X7_limit (fun b hb => c_X7_limit _ G n t u (xs (v3 + (1 : Int32)).toNatClampNeg) b hb) rfl rfl (Nat.le_of_ble_eq_true rfl) k_283 rfl (fun y_10 hf => ?_)
  refine a_aload_n C (i := 2) (q := 269) dL_law_268 rfl 2 rfl rfl ?_
  refine a_aload_n C (i := 0) (q := 270) dL_law_269 rfl 0 rfl rfl ?_
  refine a_iload_n C (i := 3) (q := 271) dL_law_270 rfl 3 rfl rfl ?_
  refine a_iconst C (v := (1 : Int32)) (q := 272) dL_law_271 rfl (by decide) ?_
  refine a_iadd C (q := 273) dL_law_272 rfl ?_
  refine a_sld C hX (q := 274) dL_law_273 hf rfl (fun hf => ?_)
  refine a_callVI C (q := 277) (As := [.int (xs (v3 + (1 : Int32)).toNatClampNeg)]) (st := [.int y_10.1]) dL_law_274 hR (by decide) hf (fun b => b.1) (fun b => (y_10.2, b.2)) (by decide) rfl rfl cw_X8_limit (fun b hb => c_X8_limit _ G n y_10.2 u (xs (v3 + (1 : Int32)).toNatClampNeg) b hb) rfl rfl (Nat.le_of_ble_eq_true rfl) k_919 rfl (fun y_11 hf => ?_)
  refine a_icmp_eq C (tgt := 1004) (q := 280) dL_law_277 hf (by decide) rfl (fun hf => ?_) (fun hf => ?_)
  · refine a_iincN C (i := 3) (k := 3) (q := 1007) (lv' := fun z => [(3, .int z), (0, .ref b), (1, .ref (G.2.1 0)), (2, .ref (G.2.1 39))]) dL_law_1004 hf rfl rfl (by decide) (fun _ => rfl) rfl (fun v3_12 hf => ?_)
    refine a_goto C (q := 18) dL_law_1007 (by decide) ?_
    have hf := Option.some.inj hf; subst hf
    exact a_sub [1, 2, 3, 0] rfl (show At F G Q 4 18 [(0, .ref b), (1, .ref (G.2.1 0)), (2, .ref (G.2.1 39)), (3, .int v3_12)] [] (y_10.2, y_11.2) from hK)
  · refine a_iconst C (v := (0 : Int32)) (q := 281) dL_law_280 rfl (by decide) ?_
    cases hf
def f_L_law_282 (n L : Nat) (xs : Nat → Int32) (v3 : Int32) (t : MM) (u : SR) : Option (Unit ⊕ (Int32 × MM × SR)) :=
  ix (v3 + (1 : Int32)) L (b1 (f_X7_out n t (xs (v3 + (1 : Int32)).toNatClampNeg)) (fun y_13 => ix (v3 + (1 : Int32)) L (b1 (f_X8_out n u (xs (v3 + (1 : Int32)).toNatClampNeg)) (fun y_14 => (if y_13.1 = y_14.1 then nm (v3 + 6) (fun v3_15 => some (.inr (v3_15, y_13.2, y_14.2))) else (none : Option (Unit ⊕ (Int32 × MM × SR))))))))
set_option maxHeartbeats 4000000 in
theorem w_L_law_282 {F : FX} {G : GX} {Q : State → Prop} {b L : Nat} {xs : Nat → Int32} (C : Cx F G cL_law 4 RL) (hR : Rm F 34) (hX : ScrOk F G b L xs) (hE : ∀ S : SX, At F G Q 4 1010 [] [] S) (n : Nat) (v3 : Int32) (t : MM) (u : SR) (res : Unit ⊕ (Int32 × MM × SR)) (hf : f_L_law_282 n L xs v3 t u = some res) (hK : K_law F G Q b res) : At F G Q 4 282 [(0, .ref b), (1, .ref (G.2.1 0)), (2, .ref (G.2.1 39)), (3, .int v3)] [] (t, u) := by
  unfold f_L_law_282 at hf
  refine a_aload_n C (i := 1) (q := 283) dL_law_282 rfl 1 rfl rfl ?_
  refine a_aload_n C (i := 0) (q := 284) dL_law_283 rfl 0 rfl rfl ?_
  refine a_iload_n C (i := 3) (q := 285) dL_law_284 rfl 3 rfl rfl ?_
  refine a_iconst C (v := (1 : Int32)) (q := 286) dL_law_285 rfl (by decide) ?_
  refine a_iadd C (q := 287) dL_law_286 rfl ?_
  refine a_sld C hX (q := 288) dL_law_287 hf rfl (fun hf => ?_)
  refine a_callVI C (q := 291) (As := [.int (xs (v3 + (1 : Int32)).toNatClampNeg)]) (st := []) dL_law_288 hR (by decide) hf (fun b => b.1) (fun b => (b.2, u)) (by decide) rfl rfl cw_X7_out (fun b hb => c_X7_out _ G n t u (xs (v3 + (1 : Int32)).toNatClampNeg) b hb) rfl rfl (Nat.le_of_ble_eq_true rfl) k_337 rfl (fun y_13 hf => ?_)
  refine a_aload_n C (i := 2) (q := 292) dL_law_291 rfl 2 rfl rfl ?_
  refine a_aload_n C (i := 0) (q := 293) dL_law_292 rfl 0 rfl rfl ?_
  refine a_iload_n C (i := 3) (q := 294) dL_law_293 rfl 3 rfl rfl ?_
  refine a_iconst C (v := (1 : Int32)) (q := 295) dL_law_294 rfl (by decide) ?_
  refine a_iadd C (q := 296) dL_law_295 rfl ?_
  refine a_sld C hX (q := 297) dL_law_296 hf rfl (fun hf => ?_)
  refine a_callVI C (q := 300) (As := [.int (xs (v3 + (1 : Int32)).toNatClampNeg)]) (st := [.int y_13.1]) dL_law_297 hR (by decide) hf (fun b => b.1) (fun b => (y_13.2, b.2)) (by decide) rfl rfl cw_X8_out (fun b hb => c_X8_out _ G n y_13.2 u (xs (v3 + (1 : Int32)).toNatClampNeg) b hb) rfl rfl (Nat.le_of_ble_eq_true rfl) k_948 rfl (fun y_14 hf => ?_)
  refine a_icmp_eq C (tgt := 1004) (q := 303) dL_law_300 hf (by decide) rfl (fun hf => ?_) (fun hf => ?_)
  · refine a_iincN C (i := 3) (k := 3) (q := 1007) (lv' := fun z => [(3, .int z), (0, .ref b), (1, .ref (G.2.1 0)), (2, .ref (G.2.1 39))]) dL_law_1004 hf rfl rfl (by decide) (fun _ => rfl) rfl (fun v3_15 hf => ?_)
    refine a_goto C (q := 18) dL_law_1007 (by decide) ?_
    have hf := Option.some.inj hf; subst hf
    exact a_sub [1, 2, 3, 0] rfl (show At F G Q 4 18 [(0, .ref b), (1, .ref (G.2.1 0)), (2, .ref (G.2.1 39)), (3, .int v3_15)] [] (y_13.2, y_14.2) from hK)
  · refine a_iconst C (v := (0 : Int32)) (q := 304) dL_law_303 rfl (by decide) ?_
    cases hf
def f_L_law_305 (n L : Nat) (xs : Nat → Int32) (v3 : Int32) (t : MM) (u : SR) : Option (Unit ⊕ (Int32 × MM × SR)) :=
  ix (v3 + (1 : Int32)) L (ix (v3 + (2 : Int32)) L (ix (v3 + (3 : Int32)) L (b1 (f_X7_type n t ((((xs (v3 + (1 : Int32)).toNatClampNeg).toInt64) <<< ((32 : Int32).toInt64 &&& 63)) ||| (((xs (v3 + (2 : Int32)).toNatClampNeg).toInt64) &&& (4294967295 : Int64))) (xs (v3 + (3 : Int32)).toNatClampNeg)) (fun y_16 => ix (v3 + (1 : Int32)) L (ix (v3 + (2 : Int32)) L (ix (v3 + (3 : Int32)) L (b1 (f_X8_type n u ((((xs (v3 + (1 : Int32)).toNatClampNeg).toInt64) <<< ((32 : Int32).toInt64 &&& 63)) ||| (((xs (v3 + (2 : Int32)).toNatClampNeg).toInt64) &&& (4294967295 : Int64))) (xs (v3 + (3 : Int32)).toNatClampNeg)) (fun y_17 => (if y_16.1 = y_17.1 then nm (v3 + 6) (fun v3_18 => some (.inr (v3_18, y_16.2, y_17.2))) else (none : Option (Unit ⊕ (Int32 × MM × SR))))))))))))
set_option maxHeartbeats 4000000 in
theorem w_L_law_305 {F : FX} {G : GX} {Q : State → Prop} {b L : Nat} {xs : Nat → Int32} (C : Cx F G cL_law 4 RL) (hR : Rm F 34) (hX : ScrOk F G b L xs) (hE : ∀ S : SX, At F G Q 4 1010 [] [] S) (n : Nat) (v3 : Int32) (t : MM) (u : SR) (res : Unit ⊕ (Int32 × MM × SR)) (hf : f_L_law_305 n L xs v3 t u = some res) (hK : K_law F G Q b res) : At F G Q 4 305 [(0, .ref b), (1, .ref (G.2.1 0)), (2, .ref (G.2.1 39)), (3, .int v3)] [] (t, u) := by
  unfold f_L_law_305 at hf
  refine a_aload_n C (i := 1) (q := 306) dL_law_305 rfl 1 rfl rfl ?_
  refine a_aload_n C (i := 0) (q := 307) dL_law_306 rfl 0 rfl rfl ?_
  refine a_iload_n C (i := 3) (q := 308) dL_law_307 rfl 3 rfl rfl ?_
  refine a_iconst C (v := (1 : Int32)) (q := 309) dL_law_308 rfl (by decide) ?_
  refine a_iadd C (q := 310) dL_law_309 rfl ?_
  refine a_sld C hX (q := 311) dL_law_310 hf rfl (fun hf => ?_)
  refine a_i2l C (q := 312) dL_law_311 rfl ?_
  refine a_bipush C (v := (32 : Int32)) (q := 314) dL_law_312 rfl (by decide) ?_
  refine a_lshl C (q := 315) dL_law_314 rfl ?_
  refine a_aload_n C (i := 0) (q := 316) dL_law_315 rfl 0 rfl rfl ?_
  refine a_iload_n C (i := 3) (q := 317) dL_law_316 rfl 3 rfl rfl ?_
  refine a_iconst C (v := (2 : Int32)) (q := 318) dL_law_317 rfl (by decide) ?_
  refine a_iadd C (q := 319) dL_law_318 rfl ?_
  refine a_sld C hX (q := 320) dL_law_319 hf rfl (fun hf => ?_)
  refine a_i2l C (q := 321) dL_law_320 rfl ?_
  refine a_ldc2 C (v := (4294967295 : Int64)) (q := 324) dL_law_321 rfl k_1150 ?_
  refine a_land C (q := 325) dL_law_324 rfl ?_
  refine a_lor C (q := 326) dL_law_325 rfl ?_
  refine a_aload_n C (i := 0) (q := 327) dL_law_326 rfl 0 rfl rfl ?_
  refine a_iload_n C (i := 3) (q := 328) dL_law_327 rfl 3 rfl rfl ?_
  refine a_iconst C (v := (3 : Int32)) (q := 329) dL_law_328 rfl (by decide) ?_
  refine a_iadd C (q := 330) dL_law_329 rfl ?_
  refine a_sld C hX (q := 331) dL_law_330 hf rfl (fun hf => ?_)
  refine a_callVI C (q := 334) (As := [.long ((((xs (v3 + (1 : Int32)).toNatClampNeg).toInt64) <<< ((32 : Int32).toInt64 &&& 63)) ||| (((xs (v3 + (2 : Int32)).toNatClampNeg).toInt64) &&& (4294967295 : Int64))), .int (xs (v3 + (3 : Int32)).toNatClampNeg)]) (st := []) dL_law_331 hR (by decide) hf (fun b => b.1) (fun b => (b.2, u)) (by decide) rfl rfl cw_X7_type (fun b hb => c_X7_type _ G n t u ((((xs (v3 + (1 : Int32)).toNatClampNeg).toInt64) <<< ((32 : Int32).toInt64 &&& 63)) ||| (((xs (v3 + (2 : Int32)).toNatClampNeg).toInt64) &&& (4294967295 : Int64))) (xs (v3 + (3 : Int32)).toNatClampNeg) b hb) rfl rfl (Nat.le_of_ble_eq_true rfl) k_344 rfl (fun y_16 hf => ?_)
  refine a_aload_n C (i := 2) (q := 335) dL_law_334 rfl 2 rfl rfl ?_
  refine a_aload_n C (i := 0) (q := 336) dL_law_335 rfl 0 rfl rfl ?_
  refine a_iload_n C (i := 3) (q := 337) dL_law_336 rfl 3 rfl rfl ?_
  refine a_iconst C (v := (1 : Int32)) (q := 338) dL_law_337 rfl (by decide) ?_
  refine a_iadd C (q := 339) dL_law_338 rfl ?_
  refine a_sld C hX (q := 340) dL_law_339 hf rfl (fun hf => ?_)
  refine a_i2l C (q := 341) dL_law_340 rfl ?_
  refine a_bipush C (v := (32 : Int32)) (q := 343) dL_law_341 rfl (by decide) ?_
  refine a_lshl C (q := 344) dL_law_343 rfl ?_
  refine a_aload_n C (i := 0) (q := 345) dL_law_344 rfl 0 rfl rfl ?_
  refine a_iload_n C (i := 3) (q := 346) dL_law_345 rfl 3 rfl rfl ?_
  refine a_iconst C (v := (2 : Int32)) (q := 347) dL_law_346 rfl (by decide) ?_
  refine a_iadd C (q := 348) dL_law_347 rfl ?_
  refine a_sld C hX (q := 349) dL_law_348 hf rfl (fun hf => ?_)
  refine a_i2l C (q := 350) dL_law_349 rfl ?_
  refine a_ldc2 C (v := (4294967295 : Int64)) (q := 353) dL_law_350 rfl k_1150 ?_
  refine a_land C (q := 354) dL_law_353 rfl ?_
  refine a_lor C (q := 355) dL_law_354 rfl ?_
  refine a_aload_n C (i := 0) (q := 356) dL_law_355 rfl 0 rfl rfl ?_
  refine a_iload_n C (i := 3) (q := 357) dL_law_356 rfl 3 rfl rfl ?_
  refine a_iconst C (v := (3 : Int32)) (q := 358) dL_law_357 rfl (by decide) ?_
  refine a_iadd C (q := 359) dL_law_358 rfl ?_
  refine a_sld C hX (q := 360) dL_law_359 hf rfl (fun hf => ?_)
  refine a_callVI C (q := 363) (As := [.long ((((xs (v3 + (1 : Int32)).toNatClampNeg).toInt64) <<< ((32 : Int32).toInt64 &&& 63)) ||| (((xs (v3 + (2 : Int32)).toNatClampNeg).toInt64) &&& (4294967295 : Int64))), .int (xs (v3 + (3 : Int32)).toNatClampNeg)]) (st := [.int y_16.1]) dL_law_360 hR (by decide) hf (fun b => b.1) (fun b => (y_16.2, b.2)) (by decide) rfl rfl cw_X8_type (fun b hb => c_X8_type _ G n y_16.2 u ((((xs (v3 + (1 : Int32)).toNatClampNeg).toInt64) <<< ((32 : Int32).toInt64 &&& 63)) ||| (((xs (v3 + (2 : Int32)).toNatClampNeg).toInt64) &&& (4294967295 : Int64))) (xs (v3 + (3 : Int32)).toNatClampNeg) b hb) rfl rfl (Nat.le_of_ble_eq_true rfl) k_958 rfl (fun y_17 hf => ?_)
  refine a_icmp_eq C (tgt := 1004) (q := 366) dL_law_363 hf (by decide) rfl (fun hf => ?_) (fun hf => ?_)
  · refine a_iincN C (i := 3) (k := 3) (q := 1007) (lv' := fun z => [(3, .int z), (0, .ref b), (1, .ref (G.2.1 0)), (2, .ref (G.2.1 39))]) dL_law_1004 hf rfl rfl (by decide) (fun _ => rfl) rfl (fun v3_18 hf => ?_)
    refine a_goto C (q := 18) dL_law_1007 (by decide) ?_
    have hf := Option.some.inj hf; subst hf
    exact a_sub [1, 2, 3, 0] rfl (show At F G Q 4 18 [(0, .ref b), (1, .ref (G.2.1 0)), (2, .ref (G.2.1 39)), (3, .int v3_18)] [] (y_16.2, y_17.2) from hK)
  · refine a_iconst C (v := (0 : Int32)) (q := 367) dL_law_366 rfl (by decide) ?_
    cases hf
def f_L_law_368 (n L : Nat) (xs : Nat → Int32) (v3 : Int32) (t : MM) (u : SR) : Option (Unit ⊕ (Int32 × MM × SR)) :=
  b1 (f_X7_people n t) (fun y_19 => b1 (f_X8_people n u) (fun y_20 => (if y_19.1 = y_20.1 then nm (v3 + 6) (fun v3_21 => some (.inr (v3_21, y_19.2, y_20.2))) else (none : Option (Unit ⊕ (Int32 × MM × SR))))))
set_option maxHeartbeats 4000000 in
theorem w_L_law_368 {F : FX} {G : GX} {Q : State → Prop} {b L : Nat} {xs : Nat → Int32} (C : Cx F G cL_law 4 RL) (hR : Rm F 34) (hX : ScrOk F G b L xs) (hE : ∀ S : SX, At F G Q 4 1010 [] [] S) (n : Nat) (v3 : Int32) (t : MM) (u : SR) (res : Unit ⊕ (Int32 × MM × SR)) (hf : f_L_law_368 n L xs v3 t u = some res) (hK : K_law F G Q b res) : At F G Q 4 368 [(0, .ref b), (1, .ref (G.2.1 0)), (2, .ref (G.2.1 39)), (3, .int v3)] [] (t, u) := by
  unfold f_L_law_368 at hf
  refine a_aload_n C (i := 1) (q := 369) dL_law_368 rfl 1 rfl rfl ?_
  refine a_callVI C (q := 372) (As := []) (st := []) dL_law_369 hR (by decide) hf (fun b => b.1) (fun b => (b.2, u)) (by decide) rfl rfl cw_X7_people (fun b hb => c_X7_people _ G n t u b hb) rfl rfl (Nat.le_of_ble_eq_true rfl) k_358 rfl (fun y_19 hf => ?_)
  refine a_aload_n C (i := 2) (q := 373) dL_law_372 rfl 2 rfl rfl ?_
  refine a_callVI C (q := 376) (As := []) (st := [.int y_19.1]) dL_law_373 hR (by decide) hf (fun b => b.1) (fun b => (y_19.2, b.2)) (by decide) rfl rfl cw_X8_people (fun b hb => c_X8_people _ G n y_19.2 u b hb) rfl rfl (Nat.le_of_ble_eq_true rfl) k_966 rfl (fun y_20 hf => ?_)
  refine a_icmp_eq C (tgt := 1004) (q := 379) dL_law_376 hf (by decide) rfl (fun hf => ?_) (fun hf => ?_)
  · refine a_iincN C (i := 3) (k := 3) (q := 1007) (lv' := fun z => [(3, .int z), (0, .ref b), (1, .ref (G.2.1 0)), (2, .ref (G.2.1 39))]) dL_law_1004 hf rfl rfl (by decide) (fun _ => rfl) rfl (fun v3_21 hf => ?_)
    refine a_goto C (q := 18) dL_law_1007 (by decide) ?_
    have hf := Option.some.inj hf; subst hf
    exact a_sub [1, 2, 3, 0] rfl (show At F G Q 4 18 [(0, .ref b), (1, .ref (G.2.1 0)), (2, .ref (G.2.1 39)), (3, .int v3_21)] [] (y_19.2, y_20.2) from hK)
  · refine a_iconst C (v := (0 : Int32)) (q := 380) dL_law_379 rfl (by decide) ?_
    cases hf
def f_L_law_381 (n L : Nat) (xs : Nat → Int32) (v3 : Int32) (t : MM) (u : SR) : Option (Unit ⊕ (Int32 × MM × SR)) :=
  b1 (f_X7_evening n t) (fun y_22 => b1 (f_X8_evening n u) (fun y_23 => (if y_22.1 = y_23.1 then nm (v3 + 6) (fun v3_24 => some (.inr (v3_24, y_22.2, y_23.2))) else (none : Option (Unit ⊕ (Int32 × MM × SR))))))
set_option maxHeartbeats 4000000 in
theorem w_L_law_381 {F : FX} {G : GX} {Q : State → Prop} {b L : Nat} {xs : Nat → Int32} (C : Cx F G cL_law 4 RL) (hR : Rm F 34) (hX : ScrOk F G b L xs) (hE : ∀ S : SX, At F G Q 4 1010 [] [] S) (n : Nat) (v3 : Int32) (t : MM) (u : SR) (res : Unit ⊕ (Int32 × MM × SR)) (hf : f_L_law_381 n L xs v3 t u = some res) (hK : K_law F G Q b res) : At F G Q 4 381 [(0, .ref b), (1, .ref (G.2.1 0)), (2, .ref (G.2.1 39)), (3, .int v3)] [] (t, u) := by
  unfold f_L_law_381 at hf
  refine a_aload_n C (i := 1) (q := 382) dL_law_381 rfl 1 rfl rfl ?_
  refine a_callVI C (q := 385) (As := []) (st := []) dL_law_382 hR (by decide) hf (fun b => b.1) (fun b => (b.2, u)) (by decide) rfl rfl cw_X7_evening (fun b hb => c_X7_evening _ G n t u b hb) rfl rfl (Nat.le_of_ble_eq_true rfl) k_485 rfl (fun y_22 hf => ?_)
  refine a_aload_n C (i := 2) (q := 386) dL_law_385 rfl 2 rfl rfl ?_
  refine a_callVI C (q := 389) (As := []) (st := [.int y_22.1]) dL_law_386 hR (by decide) hf (fun b => b.1) (fun b => (y_22.2, b.2)) (by decide) rfl rfl cw_X8_evening (fun b hb => c_X8_evening _ G n y_22.2 u b hb) rfl rfl (Nat.le_of_ble_eq_true rfl) k_988 rfl (fun y_23 hf => ?_)
  refine a_icmp_eq C (tgt := 1004) (q := 392) dL_law_389 hf (by decide) rfl (fun hf => ?_) (fun hf => ?_)
  · refine a_iincN C (i := 3) (k := 3) (q := 1007) (lv' := fun z => [(3, .int z), (0, .ref b), (1, .ref (G.2.1 0)), (2, .ref (G.2.1 39))]) dL_law_1004 hf rfl rfl (by decide) (fun _ => rfl) rfl (fun v3_24 hf => ?_)
    refine a_goto C (q := 18) dL_law_1007 (by decide) ?_
    have hf := Option.some.inj hf; subst hf
    exact a_sub [1, 2, 3, 0] rfl (show At F G Q 4 18 [(0, .ref b), (1, .ref (G.2.1 0)), (2, .ref (G.2.1 39)), (3, .int v3_24)] [] (y_22.2, y_23.2) from hK)
  · refine a_iconst C (v := (0 : Int32)) (q := 393) dL_law_392 rfl (by decide) ?_
    cases hf
def f_L_law_394 (n L : Nat) (xs : Nat → Int32) (v3 : Int32) (t : MM) (u : SR) : Option (Unit ⊕ (Int32 × MM × SR)) :=
  ix (v3 + (1 : Int32)) L (b1 (f_X7_count n t (xs (v3 + (1 : Int32)).toNatClampNeg)) (fun y_25 => ix (v3 + (1 : Int32)) L (b1 (f_X8_count n u (xs (v3 + (1 : Int32)).toNatClampNeg)) (fun y_26 => (if y_25 = y_26 then nm (v3 + 6) (fun v3_27 => some (.inr (v3_27, t, u))) else (none : Option (Unit ⊕ (Int32 × MM × SR))))))))
set_option maxHeartbeats 4000000 in
theorem w_L_law_394 {F : FX} {G : GX} {Q : State → Prop} {b L : Nat} {xs : Nat → Int32} (C : Cx F G cL_law 4 RL) (hR : Rm F 34) (hX : ScrOk F G b L xs) (hE : ∀ S : SX, At F G Q 4 1010 [] [] S) (n : Nat) (v3 : Int32) (t : MM) (u : SR) (res : Unit ⊕ (Int32 × MM × SR)) (hf : f_L_law_394 n L xs v3 t u = some res) (hK : K_law F G Q b res) : At F G Q 4 394 [(0, .ref b), (1, .ref (G.2.1 0)), (2, .ref (G.2.1 39)), (3, .int v3)] [] (t, u) := by
  unfold f_L_law_394 at hf
  refine a_aload_n C (i := 1) (q := 395) dL_law_394 rfl 1 rfl rfl ?_
  refine a_aload_n C (i := 0) (q := 396) dL_law_395 rfl 0 rfl rfl ?_
  refine a_iload_n C (i := 3) (q := 397) dL_law_396 rfl 3 rfl rfl ?_
  refine a_iconst C (v := (1 : Int32)) (q := 398) dL_law_397 rfl (by decide) ?_
  refine a_iadd C (q := 399) dL_law_398 rfl ?_
  refine a_sld C hX (q := 400) dL_law_399 hf rfl (fun hf => ?_)
  refine a_callVI C (q := 403) (As := [.int (xs (v3 + (1 : Int32)).toNatClampNeg)]) (st := []) dL_law_400 hR (by decide) hf (fun b => b) (fun _ => (t, u)) (by decide) rfl rfl cw_X7_count (fun b hb => c_X7_count _ G n t u (xs (v3 + (1 : Int32)).toNatClampNeg) b hb) rfl rfl (Nat.le_of_ble_eq_true rfl) k_554 rfl (fun y_25 hf => ?_)
  refine a_aload_n C (i := 2) (q := 404) dL_law_403 rfl 2 rfl rfl ?_
  refine a_aload_n C (i := 0) (q := 405) dL_law_404 rfl 0 rfl rfl ?_
  refine a_iload_n C (i := 3) (q := 406) dL_law_405 rfl 3 rfl rfl ?_
  refine a_iconst C (v := (1 : Int32)) (q := 407) dL_law_406 rfl (by decide) ?_
  refine a_iadd C (q := 408) dL_law_407 rfl ?_
  refine a_sld C hX (q := 409) dL_law_408 hf rfl (fun hf => ?_)
  refine a_callVI C (q := 412) (As := [.int (xs (v3 + (1 : Int32)).toNatClampNeg)]) (st := [.int y_25]) dL_law_409 hR (by decide) hf (fun b => b) (fun _ => (t, u)) (by decide) rfl rfl cw_X8_count (fun b hb => c_X8_count _ G n t u (xs (v3 + (1 : Int32)).toNatClampNeg) b hb) rfl rfl (Nat.le_of_ble_eq_true rfl) k_954 rfl (fun y_26 hf => ?_)
  refine a_icmp_eq C (tgt := 1004) (q := 415) dL_law_412 hf (by decide) rfl (fun hf => ?_) (fun hf => ?_)
  · refine a_iincN C (i := 3) (k := 3) (q := 1007) (lv' := fun z => [(3, .int z), (0, .ref b), (1, .ref (G.2.1 0)), (2, .ref (G.2.1 39))]) dL_law_1004 hf rfl rfl (by decide) (fun _ => rfl) rfl (fun v3_27 hf => ?_)
    refine a_goto C (q := 18) dL_law_1007 (by decide) ?_
    have hf := Option.some.inj hf; subst hf
    exact a_sub [1, 2, 3, 0] rfl (show At F G Q 4 18 [(0, .ref b), (1, .ref (G.2.1 0)), (2, .ref (G.2.1 39)), (3, .int v3_27)] [] (t, u) from hK)
  · refine a_iconst C (v := (0 : Int32)) (q := 416) dL_law_415 rfl (by decide) ?_
    cases hf
def f_L_law_417 (n L : Nat) (xs : Nat → Int32) (v3 : Int32) (t : MM) (u : SR) : Option (Unit ⊕ (Int32 × MM × SR)) :=
  ix (v3 + (1 : Int32)) L (b1 (f_X7_board n t (xs (v3 + (1 : Int32)).toNatClampNeg)) (fun y_28 => ix (v3 + (1 : Int32)) L (b1 (f_X8_board n u (xs (v3 + (1 : Int32)).toNatClampNeg)) (fun y_29 => (if y_28.1 = y_29.1 then nm (v3 + 6) (fun v3_30 => some (.inr (v3_30, y_28.2, y_29.2))) else (none : Option (Unit ⊕ (Int32 × MM × SR))))))))
set_option maxHeartbeats 4000000 in
theorem w_L_law_417 {F : FX} {G : GX} {Q : State → Prop} {b L : Nat} {xs : Nat → Int32} (C : Cx F G cL_law 4 RL) (hR : Rm F 34) (hX : ScrOk F G b L xs) (hE : ∀ S : SX, At F G Q 4 1010 [] [] S) (n : Nat) (v3 : Int32) (t : MM) (u : SR) (res : Unit ⊕ (Int32 × MM × SR)) (hf : f_L_law_417 n L xs v3 t u = some res) (hK : K_law F G Q b res) : At F G Q 4 417 [(0, .ref b), (1, .ref (G.2.1 0)), (2, .ref (G.2.1 39)), (3, .int v3)] [] (t, u) := by
  unfold f_L_law_417 at hf
  refine a_aload_n C (i := 1) (q := 418) dL_law_417 rfl 1 rfl rfl ?_
  refine a_aload_n C (i := 0) (q := 419) dL_law_418 rfl 0 rfl rfl ?_
  refine a_iload_n C (i := 3) (q := 420) dL_law_419 rfl 3 rfl rfl ?_
  refine a_iconst C (v := (1 : Int32)) (q := 421) dL_law_420 rfl (by decide) ?_
  refine a_iadd C (q := 422) dL_law_421 rfl ?_
  refine a_sld C hX (q := 423) dL_law_422 hf rfl (fun hf => ?_)
  refine a_callVI C (q := 426) (As := [.int (xs (v3 + (1 : Int32)).toNatClampNeg)]) (st := []) dL_law_423 hR (by decide) hf (fun b => b.1) (fun b => (b.2, u)) (by decide) rfl rfl cw_X7_board (fun b hb => c_X7_board _ G n t u (xs (v3 + (1 : Int32)).toNatClampNeg) b hb) rfl rfl (Nat.le_of_ble_eq_true rfl) k_563 rfl (fun y_28 hf => ?_)
  refine a_aload_n C (i := 2) (q := 427) dL_law_426 rfl 2 rfl rfl ?_
  refine a_aload_n C (i := 0) (q := 428) dL_law_427 rfl 0 rfl rfl ?_
  refine a_iload_n C (i := 3) (q := 429) dL_law_428 rfl 3 rfl rfl ?_
  refine a_iconst C (v := (1 : Int32)) (q := 430) dL_law_429 rfl (by decide) ?_
  refine a_iadd C (q := 431) dL_law_430 rfl ?_
  refine a_sld C hX (q := 432) dL_law_431 hf rfl (fun hf => ?_)
  refine a_callVI C (q := 435) (As := [.int (xs (v3 + (1 : Int32)).toNatClampNeg)]) (st := [.int y_28.1]) dL_law_432 hR (by decide) hf (fun b => b.1) (fun b => (y_28.2, b.2)) (by decide) rfl rfl cw_X8_board (fun b hb => c_X8_board _ G n y_28.2 u (xs (v3 + (1 : Int32)).toNatClampNeg) b hb) rfl rfl (Nat.le_of_ble_eq_true rfl) k_1034 rfl (fun y_29 hf => ?_)
  refine a_icmp_eq C (tgt := 1004) (q := 438) dL_law_435 hf (by decide) rfl (fun hf => ?_) (fun hf => ?_)
  · refine a_iincN C (i := 3) (k := 3) (q := 1007) (lv' := fun z => [(3, .int z), (0, .ref b), (1, .ref (G.2.1 0)), (2, .ref (G.2.1 39))]) dL_law_1004 hf rfl rfl (by decide) (fun _ => rfl) rfl (fun v3_30 hf => ?_)
    refine a_goto C (q := 18) dL_law_1007 (by decide) ?_
    have hf := Option.some.inj hf; subst hf
    exact a_sub [1, 2, 3, 0] rfl (show At F G Q 4 18 [(0, .ref b), (1, .ref (G.2.1 0)), (2, .ref (G.2.1 39)), (3, .int v3_30)] [] (y_28.2, y_29.2) from hK)
  · refine a_iconst C (v := (0 : Int32)) (q := 439) dL_law_438 rfl (by decide) ?_
    cases hf
def f_L_law_440 (n L : Nat) (xs : Nat → Int32) (v3 : Int32) (t : MM) (u : SR) : Option (Unit ⊕ (Int32 × MM × SR)) :=
  ix (v3 + (1 : Int32)) L (b1 (f_X7_leave n t (xs (v3 + (1 : Int32)).toNatClampNeg)) (fun y_31 => ix (v3 + (1 : Int32)) L (b1 (f_X8_leave n u (xs (v3 + (1 : Int32)).toNatClampNeg)) (fun y_32 => (if y_31.1 = y_32.1 then nm (v3 + 6) (fun v3_33 => some (.inr (v3_33, y_31.2, y_32.2))) else (none : Option (Unit ⊕ (Int32 × MM × SR))))))))
set_option maxHeartbeats 4000000 in
theorem w_L_law_440 {F : FX} {G : GX} {Q : State → Prop} {b L : Nat} {xs : Nat → Int32} (C : Cx F G cL_law 4 RL) (hR : Rm F 34) (hX : ScrOk F G b L xs) (hE : ∀ S : SX, At F G Q 4 1010 [] [] S) (n : Nat) (v3 : Int32) (t : MM) (u : SR) (res : Unit ⊕ (Int32 × MM × SR)) (hf : f_L_law_440 n L xs v3 t u = some res) (hK : K_law F G Q b res) : At F G Q 4 440 [(0, .ref b), (1, .ref (G.2.1 0)), (2, .ref (G.2.1 39)), (3, .int v3)] [] (t, u) := by
  unfold f_L_law_440 at hf
  refine a_aload_n C (i := 1) (q := 441) dL_law_440 rfl 1 rfl rfl ?_
  refine a_aload_n C (i := 0) (q := 442) dL_law_441 rfl 0 rfl rfl ?_
  refine a_iload_n C (i := 3) (q := 443) dL_law_442 rfl 3 rfl rfl ?_
  refine a_iconst C (v := (1 : Int32)) (q := 444) dL_law_443 rfl (by decide) ?_
  refine a_iadd C (q := 445) dL_law_444 rfl ?_
  refine a_sld C hX (q := 446) dL_law_445 hf rfl (fun hf => ?_)
  refine a_callVI C (q := 449) (As := [.int (xs (v3 + (1 : Int32)).toNatClampNeg)]) (st := []) dL_law_446 hR (by decide) hf (fun b => b.1) (fun b => (b.2, u)) (by decide) rfl rfl cw_X7_leave (fun b hb => c_X7_leave _ G n t u (xs (v3 + (1 : Int32)).toNatClampNeg) b hb) rfl rfl (Nat.le_of_ble_eq_true rfl) k_564 rfl (fun y_31 hf => ?_)
  refine a_aload_n C (i := 2) (q := 450) dL_law_449 rfl 2 rfl rfl ?_
  refine a_aload_n C (i := 0) (q := 451) dL_law_450 rfl 0 rfl rfl ?_
  refine a_iload_n C (i := 3) (q := 452) dL_law_451 rfl 3 rfl rfl ?_
  refine a_iconst C (v := (1 : Int32)) (q := 453) dL_law_452 rfl (by decide) ?_
  refine a_iadd C (q := 454) dL_law_453 rfl ?_
  refine a_sld C hX (q := 455) dL_law_454 hf rfl (fun hf => ?_)
  refine a_callVI C (q := 458) (As := [.int (xs (v3 + (1 : Int32)).toNatClampNeg)]) (st := [.int y_31.1]) dL_law_455 hR (by decide) hf (fun b => b.1) (fun b => (y_31.2, b.2)) (by decide) rfl rfl cw_X8_leave (fun b hb => c_X8_leave _ G n y_31.2 u (xs (v3 + (1 : Int32)).toNatClampNeg) b hb) rfl rfl (Nat.le_of_ble_eq_true rfl) k_1035 rfl (fun y_32 hf => ?_)
  refine a_icmp_eq C (tgt := 1004) (q := 461) dL_law_458 hf (by decide) rfl (fun hf => ?_) (fun hf => ?_)
  · refine a_iincN C (i := 3) (k := 3) (q := 1007) (lv' := fun z => [(3, .int z), (0, .ref b), (1, .ref (G.2.1 0)), (2, .ref (G.2.1 39))]) dL_law_1004 hf rfl rfl (by decide) (fun _ => rfl) rfl (fun v3_33 hf => ?_)
    refine a_goto C (q := 18) dL_law_1007 (by decide) ?_
    have hf := Option.some.inj hf; subst hf
    exact a_sub [1, 2, 3, 0] rfl (show At F G Q 4 18 [(0, .ref b), (1, .ref (G.2.1 0)), (2, .ref (G.2.1 39)), (3, .int v3_33)] [] (y_31.2, y_32.2) from hK)
  · refine a_iconst C (v := (0 : Int32)) (q := 462) dL_law_461 rfl (by decide) ?_
    cases hf
def f_L_law_463 (n L : Nat) (xs : Nat → Int32) (v3 : Int32) (t : MM) (u : SR) : Option (Unit ⊕ (Int32 × MM × SR)) :=
  ix (v3 + (1 : Int32)) L (b1 (f_X7_sand n t (xs (v3 + (1 : Int32)).toNatClampNeg)) (fun y_34 => ix (v3 + (1 : Int32)) L (b1 (f_X8_sand n u (xs (v3 + (1 : Int32)).toNatClampNeg)) (fun y_35 => (if y_34.1 = y_35.1 then nm (v3 + 6) (fun v3_36 => some (.inr (v3_36, y_34.2, y_35.2))) else (none : Option (Unit ⊕ (Int32 × MM × SR))))))))
set_option maxHeartbeats 4000000 in
theorem w_L_law_463 {F : FX} {G : GX} {Q : State → Prop} {b L : Nat} {xs : Nat → Int32} (C : Cx F G cL_law 4 RL) (hR : Rm F 34) (hX : ScrOk F G b L xs) (hE : ∀ S : SX, At F G Q 4 1010 [] [] S) (n : Nat) (v3 : Int32) (t : MM) (u : SR) (res : Unit ⊕ (Int32 × MM × SR)) (hf : f_L_law_463 n L xs v3 t u = some res) (hK : K_law F G Q b res) : At F G Q 4 463 [(0, .ref b), (1, .ref (G.2.1 0)), (2, .ref (G.2.1 39)), (3, .int v3)] [] (t, u) := by
  unfold f_L_law_463 at hf
  refine a_aload_n C (i := 1) (q := 464) dL_law_463 rfl 1 rfl rfl ?_
  refine a_aload_n C (i := 0) (q := 465) dL_law_464 rfl 0 rfl rfl ?_
  refine a_iload_n C (i := 3) (q := 466) dL_law_465 rfl 3 rfl rfl ?_
  refine a_iconst C (v := (1 : Int32)) (q := 467) dL_law_466 rfl (by decide) ?_
  refine a_iadd C (q := 468) dL_law_467 rfl ?_
  refine a_sld C hX (q := 469) dL_law_468 hf rfl (fun hf => ?_)
  refine a_callVI C (q := 472) (As := [.int (xs (v3 + (1 : Int32)).toNatClampNeg)]) (st := []) dL_law_469 hR (by decide) hf (fun b => b.1) (fun b => (b.2, u)) (by decide) rfl rfl cw_X7_sand (fun b hb => c_X7_sand _ G n t u (xs (v3 + (1 : Int32)).toNatClampNeg) b hb) rfl rfl (Nat.le_of_ble_eq_true rfl) k_565 rfl (fun y_34 hf => ?_)
  refine a_aload_n C (i := 2) (q := 473) dL_law_472 rfl 2 rfl rfl ?_
  refine a_aload_n C (i := 0) (q := 474) dL_law_473 rfl 0 rfl rfl ?_
  refine a_iload_n C (i := 3) (q := 475) dL_law_474 rfl 3 rfl rfl ?_
  refine a_iconst C (v := (1 : Int32)) (q := 476) dL_law_475 rfl (by decide) ?_
  refine a_iadd C (q := 477) dL_law_476 rfl ?_
  refine a_sld C hX (q := 478) dL_law_477 hf rfl (fun hf => ?_)
  refine a_callVI C (q := 481) (As := [.int (xs (v3 + (1 : Int32)).toNatClampNeg)]) (st := [.int y_34.1]) dL_law_478 hR (by decide) hf (fun b => b.1) (fun b => (y_34.2, b.2)) (by decide) rfl rfl cw_X8_sand (fun b hb => c_X8_sand _ G n y_34.2 u (xs (v3 + (1 : Int32)).toNatClampNeg) b hb) rfl rfl (Nat.le_of_ble_eq_true rfl) k_1036 rfl (fun y_35 hf => ?_)
  refine a_icmp_eq C (tgt := 1004) (q := 484) dL_law_481 hf (by decide) rfl (fun hf => ?_) (fun hf => ?_)
  · refine a_iincN C (i := 3) (k := 3) (q := 1007) (lv' := fun z => [(3, .int z), (0, .ref b), (1, .ref (G.2.1 0)), (2, .ref (G.2.1 39))]) dL_law_1004 hf rfl rfl (by decide) (fun _ => rfl) rfl (fun v3_36 hf => ?_)
    refine a_goto C (q := 18) dL_law_1007 (by decide) ?_
    have hf := Option.some.inj hf; subst hf
    exact a_sub [1, 2, 3, 0] rfl (show At F G Q 4 18 [(0, .ref b), (1, .ref (G.2.1 0)), (2, .ref (G.2.1 39)), (3, .int v3_36)] [] (y_34.2, y_35.2) from hK)
  · refine a_iconst C (v := (0 : Int32)) (q := 485) dL_law_484 rfl (by decide) ?_
    cases hf
def f_L_law_486 (n L : Nat) (xs : Nat → Int32) (v3 : Int32) (t : MM) (u : SR) : Option (Unit ⊕ (Int32 × MM × SR)) :=
  ix (v3 + (1 : Int32)) L (b1 (f_X7_turn t (xs (v3 + (1 : Int32)).toNatClampNeg)) (fun y_37 => ix (v3 + (1 : Int32)) L (b1 (f_X8_turn u (xs (v3 + (1 : Int32)).toNatClampNeg)) (fun y_38 => (if y_37.1 = y_38.1 then nm (v3 + 6) (fun v3_39 => some (.inr (v3_39, y_37.2, y_38.2))) else (none : Option (Unit ⊕ (Int32 × MM × SR))))))))
set_option maxHeartbeats 4000000 in
theorem w_L_law_486 {F : FX} {G : GX} {Q : State → Prop} {b L : Nat} {xs : Nat → Int32} (C : Cx F G cL_law 4 RL) (hR : Rm F 34) (hX : ScrOk F G b L xs) (hE : ∀ S : SX, At F G Q 4 1010 [] [] S) (n : Nat) (v3 : Int32) (t : MM) (u : SR) (res : Unit ⊕ (Int32 × MM × SR)) (hf : f_L_law_486 n L xs v3 t u = some res) (hK : K_law F G Q b res) : At F G Q 4 486 [(0, .ref b), (1, .ref (G.2.1 0)), (2, .ref (G.2.1 39)), (3, .int v3)] [] (t, u) := by
  unfold f_L_law_486 at hf
  refine a_aload_n C (i := 1) (q := 487) dL_law_486 rfl 1 rfl rfl ?_
  refine a_aload_n C (i := 0) (q := 488) dL_law_487 rfl 0 rfl rfl ?_
  refine a_iload_n C (i := 3) (q := 489) dL_law_488 rfl 3 rfl rfl ?_
  refine a_iconst C (v := (1 : Int32)) (q := 490) dL_law_489 rfl (by decide) ?_
  refine a_iadd C (q := 491) dL_law_490 rfl ?_
  refine a_sld C hX (q := 492) dL_law_491 hf rfl (fun hf => ?_)
  refine a_callVI C (q := 495) (As := [.int (xs (v3 + (1 : Int32)).toNatClampNeg)]) (st := []) dL_law_492 hR (by decide) hf (fun b => b.1) (fun b => (b.2, u)) (by decide) rfl rfl cw_X7_turn (fun b hb => c_X7_turn _ G t u (xs (v3 + (1 : Int32)).toNatClampNeg) b hb) rfl rfl (Nat.le_of_ble_eq_true rfl) k_566 rfl (fun y_37 hf => ?_)
  refine a_aload_n C (i := 2) (q := 496) dL_law_495 rfl 2 rfl rfl ?_
  refine a_aload_n C (i := 0) (q := 497) dL_law_496 rfl 0 rfl rfl ?_
  refine a_iload_n C (i := 3) (q := 498) dL_law_497 rfl 3 rfl rfl ?_
  refine a_iconst C (v := (1 : Int32)) (q := 499) dL_law_498 rfl (by decide) ?_
  refine a_iadd C (q := 500) dL_law_499 rfl ?_
  refine a_sld C hX (q := 501) dL_law_500 hf rfl (fun hf => ?_)
  refine a_callVI C (q := 504) (As := [.int (xs (v3 + (1 : Int32)).toNatClampNeg)]) (st := [.int y_37.1]) dL_law_501 hR (by decide) hf (fun b => b.1) (fun b => (y_37.2, b.2)) (by decide) rfl rfl cw_X8_turn (fun b hb => c_X8_turn _ G y_37.2 u (xs (v3 + (1 : Int32)).toNatClampNeg) b hb) rfl rfl (Nat.le_of_ble_eq_true rfl) k_1037 rfl (fun y_38 hf => ?_)
  refine a_icmp_eq C (tgt := 1004) (q := 507) dL_law_504 hf (by decide) rfl (fun hf => ?_) (fun hf => ?_)
  · refine a_iincN C (i := 3) (k := 3) (q := 1007) (lv' := fun z => [(3, .int z), (0, .ref b), (1, .ref (G.2.1 0)), (2, .ref (G.2.1 39))]) dL_law_1004 hf rfl rfl (by decide) (fun _ => rfl) rfl (fun v3_39 hf => ?_)
    refine a_goto C (q := 18) dL_law_1007 (by decide) ?_
    have hf := Option.some.inj hf; subst hf
    exact a_sub [1, 2, 3, 0] rfl (show At F G Q 4 18 [(0, .ref b), (1, .ref (G.2.1 0)), (2, .ref (G.2.1 39)), (3, .int v3_39)] [] (y_37.2, y_38.2) from hK)
  · refine a_iconst C (v := (0 : Int32)) (q := 508) dL_law_507 rfl (by decide) ?_
    cases hf
def f_L_law_509 (n L : Nat) (xs : Nat → Int32) (v3 : Int32) (t : MM) (u : SR) : Option (Unit ⊕ (Int32 × MM × SR)) :=
  ix (v3 + (1 : Int32)) L (b1 (f_X7_may n t (xs (v3 + (1 : Int32)).toNatClampNeg)) (fun y_40 => ix (v3 + (1 : Int32)) L (b1 (f_X8_may n u (xs (v3 + (1 : Int32)).toNatClampNeg)) (fun y_41 => (if y_40.1 = y_41.1 then nm (v3 + 6) (fun v3_42 => some (.inr (v3_42, y_40.2, y_41.2))) else (none : Option (Unit ⊕ (Int32 × MM × SR))))))))
set_option maxHeartbeats 4000000 in
theorem w_L_law_509 {F : FX} {G : GX} {Q : State → Prop} {b L : Nat} {xs : Nat → Int32} (C : Cx F G cL_law 4 RL) (hR : Rm F 34) (hX : ScrOk F G b L xs) (hE : ∀ S : SX, At F G Q 4 1010 [] [] S) (n : Nat) (v3 : Int32) (t : MM) (u : SR) (res : Unit ⊕ (Int32 × MM × SR)) (hf : f_L_law_509 n L xs v3 t u = some res) (hK : K_law F G Q b res) : At F G Q 4 509 [(0, .ref b), (1, .ref (G.2.1 0)), (2, .ref (G.2.1 39)), (3, .int v3)] [] (t, u) := by
  unfold f_L_law_509 at hf
  refine a_aload_n C (i := 1) (q := 510) dL_law_509 rfl 1 rfl rfl ?_
  refine a_aload_n C (i := 0) (q := 511) dL_law_510 rfl 0 rfl rfl ?_
  refine a_iload_n C (i := 3) (q := 512) dL_law_511 rfl 3 rfl rfl ?_
  refine a_iconst C (v := (1 : Int32)) (q := 513) dL_law_512 rfl (by decide) ?_
  refine a_iadd C (q := 514) dL_law_513 rfl ?_
  refine a_sld C hX (q := 515) dL_law_514 hf rfl (fun hf => ?_)
  refine a_callVI C (q := 518) (As := [.int (xs (v3 + (1 : Int32)).toNatClampNeg)]) (st := []) dL_law_515 hR (by decide) hf (fun b => b.1) (fun b => (b.2, u)) (by decide) rfl rfl cw_X7_may (fun b hb => c_X7_may _ G n t u (xs (v3 + (1 : Int32)).toNatClampNeg) b hb) rfl rfl (Nat.le_of_ble_eq_true rfl) k_567 rfl (fun y_40 hf => ?_)
  refine a_aload_n C (i := 2) (q := 519) dL_law_518 rfl 2 rfl rfl ?_
  refine a_aload_n C (i := 0) (q := 520) dL_law_519 rfl 0 rfl rfl ?_
  refine a_iload_n C (i := 3) (q := 521) dL_law_520 rfl 3 rfl rfl ?_
  refine a_iconst C (v := (1 : Int32)) (q := 522) dL_law_521 rfl (by decide) ?_
  refine a_iadd C (q := 523) dL_law_522 rfl ?_
  refine a_sld C hX (q := 524) dL_law_523 hf rfl (fun hf => ?_)
  refine a_callVI C (q := 527) (As := [.int (xs (v3 + (1 : Int32)).toNatClampNeg)]) (st := [.int y_40.1]) dL_law_524 hR (by decide) hf (fun b => b.1) (fun b => (y_40.2, b.2)) (by decide) rfl rfl cw_X8_may (fun b hb => c_X8_may _ G n y_40.2 u (xs (v3 + (1 : Int32)).toNatClampNeg) b hb) rfl rfl (Nat.le_of_ble_eq_true rfl) k_1038 rfl (fun y_41 hf => ?_)
  refine a_icmp_eq C (tgt := 1004) (q := 530) dL_law_527 hf (by decide) rfl (fun hf => ?_) (fun hf => ?_)
  · refine a_iincN C (i := 3) (k := 3) (q := 1007) (lv' := fun z => [(3, .int z), (0, .ref b), (1, .ref (G.2.1 0)), (2, .ref (G.2.1 39))]) dL_law_1004 hf rfl rfl (by decide) (fun _ => rfl) rfl (fun v3_42 hf => ?_)
    refine a_goto C (q := 18) dL_law_1007 (by decide) ?_
    have hf := Option.some.inj hf; subst hf
    exact a_sub [1, 2, 3, 0] rfl (show At F G Q 4 18 [(0, .ref b), (1, .ref (G.2.1 0)), (2, .ref (G.2.1 39)), (3, .int v3_42)] [] (y_40.2, y_41.2) from hK)
  · refine a_iconst C (v := (0 : Int32)) (q := 531) dL_law_530 rfl (by decide) ?_
    cases hf
def f_L_law_532 (n L : Nat) (xs : Nat → Int32) (v3 : Int32) (t : MM) (u : SR) : Option (Unit ⊕ (Int32 × MM × SR)) :=
  ix (v3 + (1 : Int32)) L (ix (v3 + (2 : Int32)) L (b1 (f_X7_soonest n t (xs (v3 + (1 : Int32)).toNatClampNeg) (xs (v3 + (2 : Int32)).toNatClampNeg)) (fun y_43 => ix (v3 + (1 : Int32)) L (ix (v3 + (2 : Int32)) L (b1 (f_X8_soonest n u (xs (v3 + (1 : Int32)).toNatClampNeg) (xs (v3 + (2 : Int32)).toNatClampNeg)) (fun y_44 => (if y_43.1 = y_44.1 then nm (v3 + 6) (fun v3_45 => some (.inr (v3_45, y_43.2, y_44.2))) else (none : Option (Unit ⊕ (Int32 × MM × SR))))))))))
set_option maxHeartbeats 4000000 in
theorem w_L_law_532 {F : FX} {G : GX} {Q : State → Prop} {b L : Nat} {xs : Nat → Int32} (C : Cx F G cL_law 4 RL) (hR : Rm F 34) (hX : ScrOk F G b L xs) (hE : ∀ S : SX, At F G Q 4 1010 [] [] S) (n : Nat) (v3 : Int32) (t : MM) (u : SR) (res : Unit ⊕ (Int32 × MM × SR)) (hf : f_L_law_532 n L xs v3 t u = some res) (hK : K_law F G Q b res) : At F G Q 4 532 [(0, .ref b), (1, .ref (G.2.1 0)), (2, .ref (G.2.1 39)), (3, .int v3)] [] (t, u) := by
  unfold f_L_law_532 at hf
  refine a_aload_n C (i := 1) (q := 533) dL_law_532 rfl 1 rfl rfl ?_
  refine a_aload_n C (i := 0) (q := 534) dL_law_533 rfl 0 rfl rfl ?_
  refine a_iload_n C (i := 3) (q := 535) dL_law_534 rfl 3 rfl rfl ?_
  refine a_iconst C (v := (1 : Int32)) (q := 536) dL_law_535 rfl (by decide) ?_
  refine a_iadd C (q := 537) dL_law_536 rfl ?_
  refine a_sld C hX (q := 538) dL_law_537 hf rfl (fun hf => ?_)
  refine a_aload_n C (i := 0) (q := 539) dL_law_538 rfl 0 rfl rfl ?_
  refine a_iload_n C (i := 3) (q := 540) dL_law_539 rfl 3 rfl rfl ?_
  refine a_iconst C (v := (2 : Int32)) (q := 541) dL_law_540 rfl (by decide) ?_
  refine a_iadd C (q := 542) dL_law_541 rfl ?_
  refine a_sld C hX (q := 543) dL_law_542 hf rfl (fun hf => ?_)
  refine a_callVI C (q := 546) (As := [.int (xs (v3 + (1 : Int32)).toNatClampNeg), .int (xs (v3 + (2 : Int32)).toNatClampNeg)]) (st := []) dL_law_543 hR (by decide) hf (fun b => b.1) (fun b => (b.2, u)) (by decide) rfl rfl cw_X7_soonest (fun b hb => c_X7_soonest _ G n t u (xs (v3 + (1 : Int32)).toNatClampNeg) (xs (v3 + (2 : Int32)).toNatClampNeg) b hb) rfl rfl (Nat.le_of_ble_eq_true rfl) k_571 rfl (fun y_43 hf => ?_)
  refine a_aload_n C (i := 2) (q := 547) dL_law_546 rfl 2 rfl rfl ?_
  refine a_aload_n C (i := 0) (q := 548) dL_law_547 rfl 0 rfl rfl ?_
  refine a_iload_n C (i := 3) (q := 549) dL_law_548 rfl 3 rfl rfl ?_
  refine a_iconst C (v := (1 : Int32)) (q := 550) dL_law_549 rfl (by decide) ?_
  refine a_iadd C (q := 551) dL_law_550 rfl ?_
  refine a_sld C hX (q := 552) dL_law_551 hf rfl (fun hf => ?_)
  refine a_aload_n C (i := 0) (q := 553) dL_law_552 rfl 0 rfl rfl ?_
  refine a_iload_n C (i := 3) (q := 554) dL_law_553 rfl 3 rfl rfl ?_
  refine a_iconst C (v := (2 : Int32)) (q := 555) dL_law_554 rfl (by decide) ?_
  refine a_iadd C (q := 556) dL_law_555 rfl ?_
  refine a_sld C hX (q := 557) dL_law_556 hf rfl (fun hf => ?_)
  refine a_callVI C (q := 560) (As := [.int (xs (v3 + (1 : Int32)).toNatClampNeg), .int (xs (v3 + (2 : Int32)).toNatClampNeg)]) (st := [.int y_43.1]) dL_law_557 hR (by decide) hf (fun b => b.1) (fun b => (y_43.2, b.2)) (by decide) rfl rfl cw_X8_soonest (fun b hb => c_X8_soonest _ G n y_43.2 u (xs (v3 + (1 : Int32)).toNatClampNeg) (xs (v3 + (2 : Int32)).toNatClampNeg) b hb) rfl rfl (Nat.le_of_ble_eq_true rfl) k_1042 rfl (fun y_44 hf => ?_)
  refine a_icmp_eq C (tgt := 1004) (q := 563) dL_law_560 hf (by decide) rfl (fun hf => ?_) (fun hf => ?_)
  · refine a_iincN C (i := 3) (k := 3) (q := 1007) (lv' := fun z => [(3, .int z), (0, .ref b), (1, .ref (G.2.1 0)), (2, .ref (G.2.1 39))]) dL_law_1004 hf rfl rfl (by decide) (fun _ => rfl) rfl (fun v3_45 hf => ?_)
    refine a_goto C (q := 18) dL_law_1007 (by decide) ?_
    have hf := Option.some.inj hf; subst hf
    exact a_sub [1, 2, 3, 0] rfl (show At F G Q 4 18 [(0, .ref b), (1, .ref (G.2.1 0)), (2, .ref (G.2.1 39)), (3, .int v3_45)] [] (y_43.2, y_44.2) from hK)
  · refine a_iconst C (v := (0 : Int32)) (q := 564) dL_law_563 rfl (by decide) ?_
    cases hf
def f_L_law_565 (n L : Nat) (xs : Nat → Int32) (v3 : Int32) (t : MM) (u : SR) : Option (Unit ⊕ (Int32 × MM × SR)) :=
  ix (v3 + (1 : Int32)) L (ix (v3 + (2 : Int32)) L (ix (v3 + (3 : Int32)) L (b1 (f_X7_when n t (xs (v3 + (1 : Int32)).toNatClampNeg) (xs (v3 + (2 : Int32)).toNatClampNeg) (xs (v3 + (3 : Int32)).toNatClampNeg)) (fun y_46 => ix (v3 + (1 : Int32)) L (ix (v3 + (2 : Int32)) L (ix (v3 + (3 : Int32)) L (b1 (f_X8_when n u (xs (v3 + (1 : Int32)).toNatClampNeg) (xs (v3 + (2 : Int32)).toNatClampNeg) (xs (v3 + (3 : Int32)).toNatClampNeg)) (fun y_47 => (if y_46.1 = y_47.1 then nm (v3 + 6) (fun v3_48 => some (.inr (v3_48, y_46.2, y_47.2))) else (none : Option (Unit ⊕ (Int32 × MM × SR))))))))))))
set_option maxHeartbeats 4000000 in
theorem w_L_law_565 {F : FX} {G : GX} {Q : State → Prop} {b L : Nat} {xs : Nat → Int32} (C : Cx F G cL_law 4 RL) (hR : Rm F 34) (hX : ScrOk F G b L xs) (hE : ∀ S : SX, At F G Q 4 1010 [] [] S) (n : Nat) (v3 : Int32) (t : MM) (u : SR) (res : Unit ⊕ (Int32 × MM × SR)) (hf : f_L_law_565 n L xs v3 t u = some res) (hK : K_law F G Q b res) : At F G Q 4 565 [(0, .ref b), (1, .ref (G.2.1 0)), (2, .ref (G.2.1 39)), (3, .int v3)] [] (t, u) := by
  unfold f_L_law_565 at hf
  refine a_aload_n C (i := 1) (q := 566) dL_law_565 rfl 1 rfl rfl ?_
  refine a_aload_n C (i := 0) (q := 567) dL_law_566 rfl 0 rfl rfl ?_
  refine a_iload_n C (i := 3) (q := 568) dL_law_567 rfl 3 rfl rfl ?_
  refine a_iconst C (v := (1 : Int32)) (q := 569) dL_law_568 rfl (by decide) ?_
  refine a_iadd C (q := 570) dL_law_569 rfl ?_
  refine a_sld C hX (q := 571) dL_law_570 hf rfl (fun hf => ?_)
  refine a_aload_n C (i := 0) (q := 572) dL_law_571 rfl 0 rfl rfl ?_
  refine a_iload_n C (i := 3) (q := 573) dL_law_572 rfl 3 rfl rfl ?_
  refine a_iconst C (v := (2 : Int32)) (q := 574) dL_law_573 rfl (by decide) ?_
  refine a_iadd C (q := 575) dL_law_574 rfl ?_
  refine a_sld C hX (q := 576) dL_law_575 hf rfl (fun hf => ?_)
  refine a_aload_n C (i := 0) (q := 577) dL_law_576 rfl 0 rfl rfl ?_
  refine a_iload_n C (i := 3) (q := 578) dL_law_577 rfl 3 rfl rfl ?_
  refine a_iconst C (v := (3 : Int32)) (q := 579) dL_law_578 rfl (by decide) ?_
  refine a_iadd C (q := 580) dL_law_579 rfl ?_
  refine a_sld C hX (q := 581) dL_law_580 hf rfl (fun hf => ?_)
  refine a_callVI C (q := 584) (As := [.int (xs (v3 + (1 : Int32)).toNatClampNeg), .int (xs (v3 + (2 : Int32)).toNatClampNeg), .int (xs (v3 + (3 : Int32)).toNatClampNeg)]) (st := []) dL_law_581 hR (by decide) hf (fun b => b.1) (fun b => (b.2, u)) (by decide) rfl rfl cw_X7_when (fun b hb => c_X7_when _ G n t u (xs (v3 + (1 : Int32)).toNatClampNeg) (xs (v3 + (2 : Int32)).toNatClampNeg) (xs (v3 + (3 : Int32)).toNatClampNeg) b hb) rfl rfl (Nat.le_of_ble_eq_true rfl) k_623 rfl (fun y_46 hf => ?_)
  refine a_aload_n C (i := 2) (q := 585) dL_law_584 rfl 2 rfl rfl ?_
  refine a_aload_n C (i := 0) (q := 586) dL_law_585 rfl 0 rfl rfl ?_
  refine a_iload_n C (i := 3) (q := 587) dL_law_586 rfl 3 rfl rfl ?_
  refine a_iconst C (v := (1 : Int32)) (q := 588) dL_law_587 rfl (by decide) ?_
  refine a_iadd C (q := 589) dL_law_588 rfl ?_
  refine a_sld C hX (q := 590) dL_law_589 hf rfl (fun hf => ?_)
  refine a_aload_n C (i := 0) (q := 591) dL_law_590 rfl 0 rfl rfl ?_
  refine a_iload_n C (i := 3) (q := 592) dL_law_591 rfl 3 rfl rfl ?_
  refine a_iconst C (v := (2 : Int32)) (q := 593) dL_law_592 rfl (by decide) ?_
  refine a_iadd C (q := 594) dL_law_593 rfl ?_
  refine a_sld C hX (q := 595) dL_law_594 hf rfl (fun hf => ?_)
  refine a_aload_n C (i := 0) (q := 596) dL_law_595 rfl 0 rfl rfl ?_
  refine a_iload_n C (i := 3) (q := 597) dL_law_596 rfl 3 rfl rfl ?_
  refine a_iconst C (v := (3 : Int32)) (q := 598) dL_law_597 rfl (by decide) ?_
  refine a_iadd C (q := 599) dL_law_598 rfl ?_
  refine a_sld C hX (q := 600) dL_law_599 hf rfl (fun hf => ?_)
  refine a_callVI C (q := 603) (As := [.int (xs (v3 + (1 : Int32)).toNatClampNeg), .int (xs (v3 + (2 : Int32)).toNatClampNeg), .int (xs (v3 + (3 : Int32)).toNatClampNeg)]) (st := [.int y_46.1]) dL_law_600 hR (by decide) hf (fun b => b.1) (fun b => (y_46.2, b.2)) (by decide) rfl rfl cw_X8_when (fun b hb => c_X8_when _ G n y_46.2 u (xs (v3 + (1 : Int32)).toNatClampNeg) (xs (v3 + (2 : Int32)).toNatClampNeg) (xs (v3 + (3 : Int32)).toNatClampNeg) b hb) rfl rfl (Nat.le_of_ble_eq_true rfl) k_1069 rfl (fun y_47 hf => ?_)
  refine a_icmp_eq C (tgt := 1004) (q := 606) dL_law_603 hf (by decide) rfl (fun hf => ?_) (fun hf => ?_)
  · refine a_iincN C (i := 3) (k := 3) (q := 1007) (lv' := fun z => [(3, .int z), (0, .ref b), (1, .ref (G.2.1 0)), (2, .ref (G.2.1 39))]) dL_law_1004 hf rfl rfl (by decide) (fun _ => rfl) rfl (fun v3_48 hf => ?_)
    refine a_goto C (q := 18) dL_law_1007 (by decide) ?_
    have hf := Option.some.inj hf; subst hf
    exact a_sub [1, 2, 3, 0] rfl (show At F G Q 4 18 [(0, .ref b), (1, .ref (G.2.1 0)), (2, .ref (G.2.1 39)), (3, .int v3_48)] [] (y_46.2, y_47.2) from hK)
  · refine a_iconst C (v := (0 : Int32)) (q := 607) dL_law_606 rfl (by decide) ?_
    cases hf
def f_L_law_608 (n L : Nat) (xs : Nat → Int32) (v3 : Int32) (t : MM) (u : SR) : Option (Unit ⊕ (Int32 × MM × SR)) :=
  b1 (f_X7_empty n t) (fun y_49 => b1 (f_X8_empty n u) (fun y_50 => (if y_49.1 = y_50.1 then nm (v3 + 6) (fun v3_51 => some (.inr (v3_51, y_49.2, y_50.2))) else (none : Option (Unit ⊕ (Int32 × MM × SR))))))
set_option maxHeartbeats 4000000 in
theorem w_L_law_608 {F : FX} {G : GX} {Q : State → Prop} {b L : Nat} {xs : Nat → Int32} (C : Cx F G cL_law 4 RL) (hR : Rm F 34) (hX : ScrOk F G b L xs) (hE : ∀ S : SX, At F G Q 4 1010 [] [] S) (n : Nat) (v3 : Int32) (t : MM) (u : SR) (res : Unit ⊕ (Int32 × MM × SR)) (hf : f_L_law_608 n L xs v3 t u = some res) (hK : K_law F G Q b res) : At F G Q 4 608 [(0, .ref b), (1, .ref (G.2.1 0)), (2, .ref (G.2.1 39)), (3, .int v3)] [] (t, u) := by
  unfold f_L_law_608 at hf
  refine a_aload_n C (i := 1) (q := 609) dL_law_608 rfl 1 rfl rfl ?_
  refine a_callVI C (q := 612) (As := []) (st := []) dL_law_609 hR (by decide) hf (fun b => b.1) (fun b => (b.2, u)) (by decide) rfl rfl cw_X7_empty (fun b hb => c_X7_empty _ G n t u b hb) rfl rfl (Nat.le_of_ble_eq_true rfl) k_631 rfl (fun y_49 hf => ?_)
  refine a_aload_n C (i := 2) (q := 613) dL_law_612 rfl 2 rfl rfl ?_
  refine a_callVI C (q := 616) (As := []) (st := [.int y_49.1]) dL_law_613 hR (by decide) hf (fun b => b.1) (fun b => (y_49.2, b.2)) (by decide) rfl rfl cw_X8_empty (fun b hb => c_X8_empty _ G n y_49.2 u b hb) rfl rfl (Nat.le_of_ble_eq_true rfl) k_1073 rfl (fun y_50 hf => ?_)
  refine a_icmp_eq C (tgt := 1004) (q := 619) dL_law_616 hf (by decide) rfl (fun hf => ?_) (fun hf => ?_)
  · refine a_iincN C (i := 3) (k := 3) (q := 1007) (lv' := fun z => [(3, .int z), (0, .ref b), (1, .ref (G.2.1 0)), (2, .ref (G.2.1 39))]) dL_law_1004 hf rfl rfl (by decide) (fun _ => rfl) rfl (fun v3_51 hf => ?_)
    refine a_goto C (q := 18) dL_law_1007 (by decide) ?_
    have hf := Option.some.inj hf; subst hf
    exact a_sub [1, 2, 3, 0] rfl (show At F G Q 4 18 [(0, .ref b), (1, .ref (G.2.1 0)), (2, .ref (G.2.1 39)), (3, .int v3_51)] [] (y_49.2, y_50.2) from hK)
  · refine a_iconst C (v := (0 : Int32)) (q := 620) dL_law_619 rfl (by decide) ?_
    cases hf
def f_L_law_621 (n L : Nat) (xs : Nat → Int32) (v3 : Int32) (t : MM) (u : SR) : Option (Unit ⊕ (Int32 × MM × SR)) :=
  ix (v3 + (1 : Int32)) L (ix (v3 + (2 : Int32)) L (b1 (f_X7_least n t (xs (v3 + (1 : Int32)).toNatClampNeg) (xs (v3 + (2 : Int32)).toNatClampNeg)) (fun y_52 => ix (v3 + (1 : Int32)) L (ix (v3 + (2 : Int32)) L (b1 (f_X8_least n u (xs (v3 + (1 : Int32)).toNatClampNeg) (xs (v3 + (2 : Int32)).toNatClampNeg)) (fun y_53 => (if y_52.1 = y_53.1 then nm (v3 + 6) (fun v3_54 => some (.inr (v3_54, y_52.2, y_53.2))) else (none : Option (Unit ⊕ (Int32 × MM × SR))))))))))
set_option maxHeartbeats 4000000 in
theorem w_L_law_621 {F : FX} {G : GX} {Q : State → Prop} {b L : Nat} {xs : Nat → Int32} (C : Cx F G cL_law 4 RL) (hR : Rm F 34) (hX : ScrOk F G b L xs) (hE : ∀ S : SX, At F G Q 4 1010 [] [] S) (n : Nat) (v3 : Int32) (t : MM) (u : SR) (res : Unit ⊕ (Int32 × MM × SR)) (hf : f_L_law_621 n L xs v3 t u = some res) (hK : K_law F G Q b res) : At F G Q 4 621 [(0, .ref b), (1, .ref (G.2.1 0)), (2, .ref (G.2.1 39)), (3, .int v3)] [] (t, u) := by
  unfold f_L_law_621 at hf
  refine a_aload_n C (i := 1) (q := 622) dL_law_621 rfl 1 rfl rfl ?_
  refine a_aload_n C (i := 0) (q := 623) dL_law_622 rfl 0 rfl rfl ?_
  refine a_iload_n C (i := 3) (q := 624) dL_law_623 rfl 3 rfl rfl ?_
  refine a_iconst C (v := (1 : Int32)) (q := 625) dL_law_624 rfl (by decide) ?_
  refine a_iadd C (q := 626) dL_law_625 rfl ?_
  refine a_sld C hX (q := 627) dL_law_626 hf rfl (fun hf => ?_)
  refine a_aload_n C (i := 0) (q := 628) dL_law_627 rfl 0 rfl rfl ?_
  refine a_iload_n C (i := 3) (q := 629) dL_law_628 rfl 3 rfl rfl ?_
  refine a_iconst C (v := (2 : Int32)) (q := 630) dL_law_629 rfl (by decide) ?_
  refine a_iadd C (q := 631) dL_law_630 rfl ?_
  refine a_sld C hX (q := 632) dL_law_631 hf rfl (fun hf => ?_)
  refine a_callVI C (q := 635) (As := [.int (xs (v3 + (1 : Int32)).toNatClampNeg), .int (xs (v3 + (2 : Int32)).toNatClampNeg)]) (st := []) dL_law_632 hR (by decide) hf (fun b => b.1) (fun b => (b.2, u)) (by decide) rfl rfl cw_X7_least (fun b hb => c_X7_least _ G n t u (xs (v3 + (1 : Int32)).toNatClampNeg) (xs (v3 + (2 : Int32)).toNatClampNeg) b hb) rfl rfl (Nat.le_of_ble_eq_true rfl) k_662 rfl (fun y_52 hf => ?_)
  refine a_aload_n C (i := 2) (q := 636) dL_law_635 rfl 2 rfl rfl ?_
  refine a_aload_n C (i := 0) (q := 637) dL_law_636 rfl 0 rfl rfl ?_
  refine a_iload_n C (i := 3) (q := 638) dL_law_637 rfl 3 rfl rfl ?_
  refine a_iconst C (v := (1 : Int32)) (q := 639) dL_law_638 rfl (by decide) ?_
  refine a_iadd C (q := 640) dL_law_639 rfl ?_
  refine a_sld C hX (q := 641) dL_law_640 hf rfl (fun hf => ?_)
  refine a_aload_n C (i := 0) (q := 642) dL_law_641 rfl 0 rfl rfl ?_
  refine a_iload_n C (i := 3) (q := 643) dL_law_642 rfl 3 rfl rfl ?_
  refine a_iconst C (v := (2 : Int32)) (q := 644) dL_law_643 rfl (by decide) ?_
  refine a_iadd C (q := 645) dL_law_644 rfl ?_
  refine a_sld C hX (q := 646) dL_law_645 hf rfl (fun hf => ?_)
  refine a_callVI C (q := 649) (As := [.int (xs (v3 + (1 : Int32)).toNatClampNeg), .int (xs (v3 + (2 : Int32)).toNatClampNeg)]) (st := [.int y_52.1]) dL_law_646 hR (by decide) hf (fun b => b.1) (fun b => (y_52.2, b.2)) (by decide) rfl rfl cw_X8_least (fun b hb => c_X8_least _ G n y_52.2 u (xs (v3 + (1 : Int32)).toNatClampNeg) (xs (v3 + (2 : Int32)).toNatClampNeg) b hb) rfl rfl (Nat.le_of_ble_eq_true rfl) k_1086 rfl (fun y_53 hf => ?_)
  refine a_icmp_eq C (tgt := 1004) (q := 652) dL_law_649 hf (by decide) rfl (fun hf => ?_) (fun hf => ?_)
  · refine a_iincN C (i := 3) (k := 3) (q := 1007) (lv' := fun z => [(3, .int z), (0, .ref b), (1, .ref (G.2.1 0)), (2, .ref (G.2.1 39))]) dL_law_1004 hf rfl rfl (by decide) (fun _ => rfl) rfl (fun v3_54 hf => ?_)
    refine a_goto C (q := 18) dL_law_1007 (by decide) ?_
    have hf := Option.some.inj hf; subst hf
    exact a_sub [1, 2, 3, 0] rfl (show At F G Q 4 18 [(0, .ref b), (1, .ref (G.2.1 0)), (2, .ref (G.2.1 39)), (3, .int v3_54)] [] (y_52.2, y_53.2) from hK)
  · refine a_iconst C (v := (0 : Int32)) (q := 653) dL_law_652 rfl (by decide) ?_
    cases hf
def f_L_law_654 (n L : Nat) (xs : Nat → Int32) (v3 : Int32) (t : MM) (u : SR) : Option (Unit ⊕ (Int32 × MM × SR)) :=
  ix (v3 + (1 : Int32)) L (b1 (f_X7_sure n t (xs (v3 + (1 : Int32)).toNatClampNeg)) (fun y_55 => ix (v3 + (1 : Int32)) L (b1 (f_X8_sure n u (xs (v3 + (1 : Int32)).toNatClampNeg)) (fun y_56 => (if y_55.1 = y_56.1 then nm (v3 + 6) (fun v3_57 => some (.inr (v3_57, y_55.2, y_56.2))) else (none : Option (Unit ⊕ (Int32 × MM × SR))))))))
set_option maxHeartbeats 4000000 in
theorem w_L_law_654 {F : FX} {G : GX} {Q : State → Prop} {b L : Nat} {xs : Nat → Int32} (C : Cx F G cL_law 4 RL) (hR : Rm F 34) (hX : ScrOk F G b L xs) (hE : ∀ S : SX, At F G Q 4 1010 [] [] S) (n : Nat) (v3 : Int32) (t : MM) (u : SR) (res : Unit ⊕ (Int32 × MM × SR)) (hf : f_L_law_654 n L xs v3 t u = some res) (hK : K_law F G Q b res) : At F G Q 4 654 [(0, .ref b), (1, .ref (G.2.1 0)), (2, .ref (G.2.1 39)), (3, .int v3)] [] (t, u) := by
  unfold f_L_law_654 at hf
  refine a_aload_n C (i := 1) (q := 655) dL_law_654 rfl 1 rfl rfl ?_
  refine a_aload_n C (i := 0) (q := 656) dL_law_655 rfl 0 rfl rfl ?_
  refine a_iload_n C (i := 3) (q := 657) dL_law_656 rfl 3 rfl rfl ?_
  refine a_iconst C (v := (1 : Int32)) (q := 658) dL_law_657 rfl (by decide) ?_
  refine a_iadd C (q := 659) dL_law_658 rfl ?_
  refine a_sld C hX (q := 660) dL_law_659 hf rfl (fun hf => ?_)
  refine a_callVI C (q := 663) (As := [.int (xs (v3 + (1 : Int32)).toNatClampNeg)]) (st := []) dL_law_660 hR (by decide) hf (fun b => b.1) (fun b => (b.2, u)) (by decide) rfl rfl cw_X7_sure (fun b hb => c_X7_sure _ G n t u (xs (v3 + (1 : Int32)).toNatClampNeg) b hb) rfl rfl (Nat.le_of_ble_eq_true rfl) k_672 rfl (fun y_55 hf => ?_)
  refine a_aload_n C (i := 2) (q := 664) dL_law_663 rfl 2 rfl rfl ?_
  refine a_aload_n C (i := 0) (q := 665) dL_law_664 rfl 0 rfl rfl ?_
  refine a_iload_n C (i := 3) (q := 666) dL_law_665 rfl 3 rfl rfl ?_
  refine a_iconst C (v := (1 : Int32)) (q := 667) dL_law_666 rfl (by decide) ?_
  refine a_iadd C (q := 668) dL_law_667 rfl ?_
  refine a_sld C hX (q := 669) dL_law_668 hf rfl (fun hf => ?_)
  refine a_callVI C (q := 672) (As := [.int (xs (v3 + (1 : Int32)).toNatClampNeg)]) (st := [.int y_55.1]) dL_law_669 hR (by decide) hf (fun b => b.1) (fun b => (y_55.2, b.2)) (by decide) rfl rfl cw_X8_sure (fun b hb => c_X8_sure _ G n y_55.2 u (xs (v3 + (1 : Int32)).toNatClampNeg) b hb) rfl rfl (Nat.le_of_ble_eq_true rfl) k_1090 rfl (fun y_56 hf => ?_)
  refine a_icmp_eq C (tgt := 1004) (q := 675) dL_law_672 hf (by decide) rfl (fun hf => ?_) (fun hf => ?_)
  · refine a_iincN C (i := 3) (k := 3) (q := 1007) (lv' := fun z => [(3, .int z), (0, .ref b), (1, .ref (G.2.1 0)), (2, .ref (G.2.1 39))]) dL_law_1004 hf rfl rfl (by decide) (fun _ => rfl) rfl (fun v3_57 hf => ?_)
    refine a_goto C (q := 18) dL_law_1007 (by decide) ?_
    have hf := Option.some.inj hf; subst hf
    exact a_sub [1, 2, 3, 0] rfl (show At F G Q 4 18 [(0, .ref b), (1, .ref (G.2.1 0)), (2, .ref (G.2.1 39)), (3, .int v3_57)] [] (y_55.2, y_56.2) from hK)
  · refine a_iconst C (v := (0 : Int32)) (q := 676) dL_law_675 rfl (by decide) ?_
    cases hf
def f_L_law_677 (n L : Nat) (xs : Nat → Int32) (v3 : Int32) (t : MM) (u : SR) : Option (Unit ⊕ (Int32 × MM × SR)) :=
  ix (v3 + (1 : Int32)) L (ix (v3 + (2 : Int32)) L (b1 (f_X7_worst n t (xs (v3 + (1 : Int32)).toNatClampNeg) (xs (v3 + (2 : Int32)).toNatClampNeg)) (fun y_58 => ix (v3 + (1 : Int32)) L (ix (v3 + (2 : Int32)) L (b1 (f_X8_worst n u (xs (v3 + (1 : Int32)).toNatClampNeg) (xs (v3 + (2 : Int32)).toNatClampNeg)) (fun y_59 => (if y_58.1 = y_59.1 then nm (v3 + 6) (fun v3_60 => some (.inr (v3_60, y_58.2, y_59.2))) else (none : Option (Unit ⊕ (Int32 × MM × SR))))))))))
set_option maxHeartbeats 4000000 in
theorem w_L_law_677 {F : FX} {G : GX} {Q : State → Prop} {b L : Nat} {xs : Nat → Int32} (C : Cx F G cL_law 4 RL) (hR : Rm F 34) (hX : ScrOk F G b L xs) (hE : ∀ S : SX, At F G Q 4 1010 [] [] S) (n : Nat) (v3 : Int32) (t : MM) (u : SR) (res : Unit ⊕ (Int32 × MM × SR)) (hf : f_L_law_677 n L xs v3 t u = some res) (hK : K_law F G Q b res) : At F G Q 4 677 [(0, .ref b), (1, .ref (G.2.1 0)), (2, .ref (G.2.1 39)), (3, .int v3)] [] (t, u) := by
  unfold f_L_law_677 at hf
  refine a_aload_n C (i := 1) (q := 678) dL_law_677 rfl 1 rfl rfl ?_
  refine a_aload_n C (i := 0) (q := 679) dL_law_678 rfl 0 rfl rfl ?_
  refine a_iload_n C (i := 3) (q := 680) dL_law_679 rfl 3 rfl rfl ?_
  refine a_iconst C (v := (1 : Int32)) (q := 681) dL_law_680 rfl (by decide) ?_
  refine a_iadd C (q := 682) dL_law_681 rfl ?_
  refine a_sld C hX (q := 683) dL_law_682 hf rfl (fun hf => ?_)
  refine a_aload_n C (i := 0) (q := 684) dL_law_683 rfl 0 rfl rfl ?_
  refine a_iload_n C (i := 3) (q := 685) dL_law_684 rfl 3 rfl rfl ?_
  refine a_iconst C (v := (2 : Int32)) (q := 686) dL_law_685 rfl (by decide) ?_
  refine a_iadd C (q := 687) dL_law_686 rfl ?_
  refine a_sld C hX (q := 688) dL_law_687 hf rfl (fun hf => ?_)
  refine a_callVI C (q := 691) (As := [.int (xs (v3 + (1 : Int32)).toNatClampNeg), .int (xs (v3 + (2 : Int32)).toNatClampNeg)]) (st := []) dL_law_688 hR (by decide) hf (fun b => b.1) (fun b => (b.2, u)) (by decide) rfl rfl cw_X7_worst (fun b hb => c_X7_worst _ G n t u (xs (v3 + (1 : Int32)).toNatClampNeg) (xs (v3 + (2 : Int32)).toNatClampNeg) b hb) rfl rfl (Nat.le_of_ble_eq_true rfl) k_694 rfl (fun y_58 hf => ?_)
  refine a_aload_n C (i := 2) (q := 692) dL_law_691 rfl 2 rfl rfl ?_
  refine a_aload_n C (i := 0) (q := 693) dL_law_692 rfl 0 rfl rfl ?_
  refine a_iload_n C (i := 3) (q := 694) dL_law_693 rfl 3 rfl rfl ?_
  refine a_iconst C (v := (1 : Int32)) (q := 695) dL_law_694 rfl (by decide) ?_
  refine a_iadd C (q := 696) dL_law_695 rfl ?_
  refine a_sld C hX (q := 697) dL_law_696 hf rfl (fun hf => ?_)
  refine a_aload_n C (i := 0) (q := 698) dL_law_697 rfl 0 rfl rfl ?_
  refine a_iload_n C (i := 3) (q := 699) dL_law_698 rfl 3 rfl rfl ?_
  refine a_iconst C (v := (2 : Int32)) (q := 700) dL_law_699 rfl (by decide) ?_
  refine a_iadd C (q := 701) dL_law_700 rfl ?_
  refine a_sld C hX (q := 702) dL_law_701 hf rfl (fun hf => ?_)
  refine a_callVI C (q := 705) (As := [.int (xs (v3 + (1 : Int32)).toNatClampNeg), .int (xs (v3 + (2 : Int32)).toNatClampNeg)]) (st := [.int y_58.1]) dL_law_702 hR (by decide) hf (fun b => b.1) (fun b => (y_58.2, b.2)) (by decide) rfl rfl cw_X8_worst (fun b hb => c_X8_worst _ G n y_58.2 u (xs (v3 + (1 : Int32)).toNatClampNeg) (xs (v3 + (2 : Int32)).toNatClampNeg) b hb) rfl rfl (Nat.le_of_ble_eq_true rfl) k_1099 rfl (fun y_59 hf => ?_)
  refine a_icmp_eq C (tgt := 1004) (q := 708) dL_law_705 hf (by decide) rfl (fun hf => ?_) (fun hf => ?_)
  · refine a_iincN C (i := 3) (k := 3) (q := 1007) (lv' := fun z => [(3, .int z), (0, .ref b), (1, .ref (G.2.1 0)), (2, .ref (G.2.1 39))]) dL_law_1004 hf rfl rfl (by decide) (fun _ => rfl) rfl (fun v3_60 hf => ?_)
    refine a_goto C (q := 18) dL_law_1007 (by decide) ?_
    have hf := Option.some.inj hf; subst hf
    exact a_sub [1, 2, 3, 0] rfl (show At F G Q 4 18 [(0, .ref b), (1, .ref (G.2.1 0)), (2, .ref (G.2.1 39)), (3, .int v3_60)] [] (y_58.2, y_59.2) from hK)
  · refine a_iconst C (v := (0 : Int32)) (q := 709) dL_law_708 rfl (by decide) ?_
    cases hf
def f_L_law_710 (n L : Nat) (xs : Nat → Int32) (v3 : Int32) (t : MM) (u : SR) : Option (Unit ⊕ (Int32 × MM × SR)) :=
  b1 (f_X7_image t) (fun y_61 => b1 (f_X8_image n u) (fun y_62 => (if y_61.1 = y_62.1 then nm (v3 + 6) (fun v3_63 => some (.inr (v3_63, y_61.2, y_62.2))) else (none : Option (Unit ⊕ (Int32 × MM × SR))))))
set_option maxHeartbeats 4000000 in
theorem w_L_law_710 {F : FX} {G : GX} {Q : State → Prop} {b L : Nat} {xs : Nat → Int32} (C : Cx F G cL_law 4 RL) (hR : Rm F 34) (hX : ScrOk F G b L xs) (hE : ∀ S : SX, At F G Q 4 1010 [] [] S) (n : Nat) (v3 : Int32) (t : MM) (u : SR) (res : Unit ⊕ (Int32 × MM × SR)) (hf : f_L_law_710 n L xs v3 t u = some res) (hK : K_law F G Q b res) : At F G Q 4 710 [(0, .ref b), (1, .ref (G.2.1 0)), (2, .ref (G.2.1 39)), (3, .int v3)] [] (t, u) := by
  unfold f_L_law_710 at hf
  refine a_aload_n C (i := 1) (q := 711) dL_law_710 rfl 1 rfl rfl ?_
  refine a_callVI C (q := 714) (As := []) (st := []) dL_law_711 hR (by decide) hf (fun b => b.1) (fun b => (b.2, u)) (by decide) rfl rfl cw_X7_image (fun b hb => c_X7_image _ G t u b hb) rfl rfl (Nat.le_of_ble_eq_true rfl) k_699 rfl (fun y_61 hf => ?_)
  refine a_aload_n C (i := 2) (q := 715) dL_law_714 rfl 2 rfl rfl ?_
  refine a_callVI C (q := 718) (As := []) (st := [.int y_61.1]) dL_law_715 hR (by decide) hf (fun b => b.1) (fun b => (y_61.2, b.2)) (by decide) rfl rfl cw_X8_image (fun b hb => c_X8_image _ G n y_61.2 u b hb) rfl rfl (Nat.le_of_ble_eq_true rfl) k_1104 rfl (fun y_62 hf => ?_)
  refine a_icmp_eq C (tgt := 1004) (q := 721) dL_law_718 hf (by decide) rfl (fun hf => ?_) (fun hf => ?_)
  · refine a_iincN C (i := 3) (k := 3) (q := 1007) (lv' := fun z => [(3, .int z), (0, .ref b), (1, .ref (G.2.1 0)), (2, .ref (G.2.1 39))]) dL_law_1004 hf rfl rfl (by decide) (fun _ => rfl) rfl (fun v3_63 hf => ?_)
    refine a_goto C (q := 18) dL_law_1007 (by decide) ?_
    have hf := Option.some.inj hf; subst hf
    exact a_sub [1, 2, 3, 0] rfl (show At F G Q 4 18 [(0, .ref b), (1, .ref (G.2.1 0)), (2, .ref (G.2.1 39)), (3, .int v3_63)] [] (y_61.2, y_62.2) from hK)
  · refine a_iconst C (v := (0 : Int32)) (q := 722) dL_law_721 rfl (by decide) ?_
    cases hf
def f_L_law_723 (n L : Nat) (xs : Nat → Int32) (v3 : Int32) (t : MM) (u : SR) : Option (Unit ⊕ (Int32 × MM × SR)) :=
  b1 (f_X7_restore t) (fun y_64 => b1 (f_X8_restore n u) (fun y_65 => (if y_64.1 = y_65.1 then nm (v3 + 6) (fun v3_66 => some (.inr (v3_66, y_64.2, y_65.2))) else (none : Option (Unit ⊕ (Int32 × MM × SR))))))
set_option maxHeartbeats 4000000 in
theorem w_L_law_723 {F : FX} {G : GX} {Q : State → Prop} {b L : Nat} {xs : Nat → Int32} (C : Cx F G cL_law 4 RL) (hR : Rm F 34) (hX : ScrOk F G b L xs) (hE : ∀ S : SX, At F G Q 4 1010 [] [] S) (n : Nat) (v3 : Int32) (t : MM) (u : SR) (res : Unit ⊕ (Int32 × MM × SR)) (hf : f_L_law_723 n L xs v3 t u = some res) (hK : K_law F G Q b res) : At F G Q 4 723 [(0, .ref b), (1, .ref (G.2.1 0)), (2, .ref (G.2.1 39)), (3, .int v3)] [] (t, u) := by
  unfold f_L_law_723 at hf
  refine a_aload_n C (i := 1) (q := 724) dL_law_723 rfl 1 rfl rfl ?_
  refine a_callVI C (q := 727) (As := []) (st := []) dL_law_724 hR (by decide) hf (fun b => b.1) (fun b => (b.2, u)) (by decide) rfl rfl cw_X7_restore (fun b hb => c_X7_restore _ G t u b hb) rfl rfl (Nat.le_of_ble_eq_true rfl) k_710 rfl (fun y_64 hf => ?_)
  refine a_aload_n C (i := 2) (q := 728) dL_law_727 rfl 2 rfl rfl ?_
  refine a_callVI C (q := 731) (As := []) (st := [.int y_64.1]) dL_law_728 hR (by decide) hf (fun b => b.1) (fun b => (y_64.2, b.2)) (by decide) rfl rfl cw_X8_restore (fun b hb => c_X8_restore _ G n y_64.2 u b hb) rfl rfl (Nat.le_of_ble_eq_true rfl) k_1112 rfl (fun y_65 hf => ?_)
  refine a_icmp_eq C (tgt := 1004) (q := 734) dL_law_731 hf (by decide) rfl (fun hf => ?_) (fun hf => ?_)
  · refine a_iincN C (i := 3) (k := 3) (q := 1007) (lv' := fun z => [(3, .int z), (0, .ref b), (1, .ref (G.2.1 0)), (2, .ref (G.2.1 39))]) dL_law_1004 hf rfl rfl (by decide) (fun _ => rfl) rfl (fun v3_66 hf => ?_)
    refine a_goto C (q := 18) dL_law_1007 (by decide) ?_
    have hf := Option.some.inj hf; subst hf
    exact a_sub [1, 2, 3, 0] rfl (show At F G Q 4 18 [(0, .ref b), (1, .ref (G.2.1 0)), (2, .ref (G.2.1 39)), (3, .int v3_66)] [] (y_64.2, y_65.2) from hK)
  · refine a_iconst C (v := (0 : Int32)) (q := 735) dL_law_734 rfl (by decide) ?_
    cases hf
def f_L_law_736 (n L : Nat) (xs : Nat → Int32) (v3 : Int32) (t : MM) (u : SR) : Option (Unit ⊕ (Int32 × MM × SR)) :=
  ix (v3 + (1 : Int32)) L (ix (v3 + (2 : Int32)) L (ix (v3 + (3 : Int32)) L (b1 (f_X7_pour n t (xs (v3 + (1 : Int32)).toNatClampNeg) (xs (v3 + (2 : Int32)).toNatClampNeg) (xs (v3 + (3 : Int32)).toNatClampNeg)) (fun y_67 => ix (v3 + (1 : Int32)) L (ix (v3 + (2 : Int32)) L (ix (v3 + (3 : Int32)) L (b1 (f_X8_pour n u (xs (v3 + (1 : Int32)).toNatClampNeg) (xs (v3 + (2 : Int32)).toNatClampNeg) (xs (v3 + (3 : Int32)).toNatClampNeg)) (fun y_68 => (if y_67.1 = y_68.1 then nm (v3 + 6) (fun v3_69 => some (.inr (v3_69, y_67.2, y_68.2))) else (none : Option (Unit ⊕ (Int32 × MM × SR))))))))))))
set_option maxHeartbeats 4000000 in
theorem w_L_law_736 {F : FX} {G : GX} {Q : State → Prop} {b L : Nat} {xs : Nat → Int32} (C : Cx F G cL_law 4 RL) (hR : Rm F 34) (hX : ScrOk F G b L xs) (hE : ∀ S : SX, At F G Q 4 1010 [] [] S) (n : Nat) (v3 : Int32) (t : MM) (u : SR) (res : Unit ⊕ (Int32 × MM × SR)) (hf : f_L_law_736 n L xs v3 t u = some res) (hK : K_law F G Q b res) : At F G Q 4 736 [(0, .ref b), (1, .ref (G.2.1 0)), (2, .ref (G.2.1 39)), (3, .int v3)] [] (t, u) := by
  unfold f_L_law_736 at hf
  refine a_aload_n C (i := 1) (q := 737) dL_law_736 rfl 1 rfl rfl ?_
  refine a_aload_n C (i := 0) (q := 738) dL_law_737 rfl 0 rfl rfl ?_
  refine a_iload_n C (i := 3) (q := 739) dL_law_738 rfl 3 rfl rfl ?_
  refine a_iconst C (v := (1 : Int32)) (q := 740) dL_law_739 rfl (by decide) ?_
  refine a_iadd C (q := 741) dL_law_740 rfl ?_
  refine a_sld C hX (q := 742) dL_law_741 hf rfl (fun hf => ?_)
  refine a_aload_n C (i := 0) (q := 743) dL_law_742 rfl 0 rfl rfl ?_
  refine a_iload_n C (i := 3) (q := 744) dL_law_743 rfl 3 rfl rfl ?_
  refine a_iconst C (v := (2 : Int32)) (q := 745) dL_law_744 rfl (by decide) ?_
  refine a_iadd C (q := 746) dL_law_745 rfl ?_
  refine a_sld C hX (q := 747) dL_law_746 hf rfl (fun hf => ?_)
  refine a_aload_n C (i := 0) (q := 748) dL_law_747 rfl 0 rfl rfl ?_
  refine a_iload_n C (i := 3) (q := 749) dL_law_748 rfl 3 rfl rfl ?_
  refine a_iconst C (v := (3 : Int32)) (q := 750) dL_law_749 rfl (by decide) ?_
  refine a_iadd C (q := 751) dL_law_750 rfl ?_
  refine a_sld C hX (q := 752) dL_law_751 hf rfl (fun hf => ?_)
  refine a_callVI C (q := 755) (As := [.int (xs (v3 + (1 : Int32)).toNatClampNeg), .int (xs (v3 + (2 : Int32)).toNatClampNeg), .int (xs (v3 + (3 : Int32)).toNatClampNeg)]) (st := []) dL_law_752 hR (by decide) hf (fun b => b.1) (fun b => (b.2, u)) (by decide) rfl rfl cw_X7_pour (fun b hb => c_X7_pour _ G n t u (xs (v3 + (1 : Int32)).toNatClampNeg) (xs (v3 + (2 : Int32)).toNatClampNeg) (xs (v3 + (3 : Int32)).toNatClampNeg) b hb) rfl rfl (Nat.le_of_ble_eq_true rfl) k_714 rfl (fun y_67 hf => ?_)
  refine a_aload_n C (i := 2) (q := 756) dL_law_755 rfl 2 rfl rfl ?_
  refine a_aload_n C (i := 0) (q := 757) dL_law_756 rfl 0 rfl rfl ?_
  refine a_iload_n C (i := 3) (q := 758) dL_law_757 rfl 3 rfl rfl ?_
  refine a_iconst C (v := (1 : Int32)) (q := 759) dL_law_758 rfl (by decide) ?_
  refine a_iadd C (q := 760) dL_law_759 rfl ?_
  refine a_sld C hX (q := 761) dL_law_760 hf rfl (fun hf => ?_)
  refine a_aload_n C (i := 0) (q := 762) dL_law_761 rfl 0 rfl rfl ?_
  refine a_iload_n C (i := 3) (q := 763) dL_law_762 rfl 3 rfl rfl ?_
  refine a_iconst C (v := (2 : Int32)) (q := 764) dL_law_763 rfl (by decide) ?_
  refine a_iadd C (q := 765) dL_law_764 rfl ?_
  refine a_sld C hX (q := 766) dL_law_765 hf rfl (fun hf => ?_)
  refine a_aload_n C (i := 0) (q := 767) dL_law_766 rfl 0 rfl rfl ?_
  refine a_iload_n C (i := 3) (q := 768) dL_law_767 rfl 3 rfl rfl ?_
  refine a_iconst C (v := (3 : Int32)) (q := 769) dL_law_768 rfl (by decide) ?_
  refine a_iadd C (q := 770) dL_law_769 rfl ?_
  refine a_sld C hX (q := 771) dL_law_770 hf rfl (fun hf => ?_)
  refine a_callVI C (q := 774) (As := [.int (xs (v3 + (1 : Int32)).toNatClampNeg), .int (xs (v3 + (2 : Int32)).toNatClampNeg), .int (xs (v3 + (3 : Int32)).toNatClampNeg)]) (st := [.int y_67.1]) dL_law_771 hR (by decide) hf (fun b => b.1) (fun b => (y_67.2, b.2)) (by decide) rfl rfl cw_X8_pour (fun b hb => c_X8_pour _ G n y_67.2 u (xs (v3 + (1 : Int32)).toNatClampNeg) (xs (v3 + (2 : Int32)).toNatClampNeg) (xs (v3 + (3 : Int32)).toNatClampNeg) b hb) rfl rfl (Nat.le_of_ble_eq_true rfl) k_1138 rfl (fun y_68 hf => ?_)
  refine a_icmp_eq C (tgt := 1004) (q := 777) dL_law_774 hf (by decide) rfl (fun hf => ?_) (fun hf => ?_)
  · refine a_iincN C (i := 3) (k := 3) (q := 1007) (lv' := fun z => [(3, .int z), (0, .ref b), (1, .ref (G.2.1 0)), (2, .ref (G.2.1 39))]) dL_law_1004 hf rfl rfl (by decide) (fun _ => rfl) rfl (fun v3_69 hf => ?_)
    refine a_goto C (q := 18) dL_law_1007 (by decide) ?_
    have hf := Option.some.inj hf; subst hf
    exact a_sub [1, 2, 3, 0] rfl (show At F G Q 4 18 [(0, .ref b), (1, .ref (G.2.1 0)), (2, .ref (G.2.1 39)), (3, .int v3_69)] [] (y_67.2, y_68.2) from hK)
  · refine a_iconst C (v := (0 : Int32)) (q := 778) dL_law_777 rfl (by decide) ?_
    cases hf
def f_L_law_779 (n L : Nat) (xs : Nat → Int32) (v3 : Int32) (t : MM) (u : SR) : Option (Unit ⊕ (Int32 × MM × SR)) :=
  ix (v3 + (1 : Int32)) L (ix (v3 + (2 : Int32)) L (ix (v3 + (3 : Int32)) L (b1 (f_X7_film n t (xs (v3 + (1 : Int32)).toNatClampNeg) (xs (v3 + (2 : Int32)).toNatClampNeg) (xs (v3 + (3 : Int32)).toNatClampNeg)) (fun y_70 => ix (v3 + (1 : Int32)) L (ix (v3 + (2 : Int32)) L (ix (v3 + (3 : Int32)) L (b1 (f_X8_film n u (xs (v3 + (1 : Int32)).toNatClampNeg) (xs (v3 + (2 : Int32)).toNatClampNeg) (xs (v3 + (3 : Int32)).toNatClampNeg)) (fun y_71 => (if y_70.1 = y_71.1 then nm (v3 + 6) (fun v3_72 => some (.inr (v3_72, y_70.2, y_71.2))) else (none : Option (Unit ⊕ (Int32 × MM × SR))))))))))))
set_option maxHeartbeats 4000000 in
theorem w_L_law_779 {F : FX} {G : GX} {Q : State → Prop} {b L : Nat} {xs : Nat → Int32} (C : Cx F G cL_law 4 RL) (hR : Rm F 34) (hX : ScrOk F G b L xs) (hE : ∀ S : SX, At F G Q 4 1010 [] [] S) (n : Nat) (v3 : Int32) (t : MM) (u : SR) (res : Unit ⊕ (Int32 × MM × SR)) (hf : f_L_law_779 n L xs v3 t u = some res) (hK : K_law F G Q b res) : At F G Q 4 779 [(0, .ref b), (1, .ref (G.2.1 0)), (2, .ref (G.2.1 39)), (3, .int v3)] [] (t, u) := by
  unfold f_L_law_779 at hf
  refine a_aload_n C (i := 1) (q := 780) dL_law_779 rfl 1 rfl rfl ?_
  refine a_aload_n C (i := 0) (q := 781) dL_law_780 rfl 0 rfl rfl ?_
  refine a_iload_n C (i := 3) (q := 782) dL_law_781 rfl 3 rfl rfl ?_
  refine a_iconst C (v := (1 : Int32)) (q := 783) dL_law_782 rfl (by decide) ?_
  refine a_iadd C (q := 784) dL_law_783 rfl ?_
  refine a_sld C hX (q := 785) dL_law_784 hf rfl (fun hf => ?_)
  refine a_aload_n C (i := 0) (q := 786) dL_law_785 rfl 0 rfl rfl ?_
  refine a_iload_n C (i := 3) (q := 787) dL_law_786 rfl 3 rfl rfl ?_
  refine a_iconst C (v := (2 : Int32)) (q := 788) dL_law_787 rfl (by decide) ?_
  refine a_iadd C (q := 789) dL_law_788 rfl ?_
  refine a_sld C hX (q := 790) dL_law_789 hf rfl (fun hf => ?_)
  refine a_aload_n C (i := 0) (q := 791) dL_law_790 rfl 0 rfl rfl ?_
  refine a_iload_n C (i := 3) (q := 792) dL_law_791 rfl 3 rfl rfl ?_
  refine a_iconst C (v := (3 : Int32)) (q := 793) dL_law_792 rfl (by decide) ?_
  refine a_iadd C (q := 794) dL_law_793 rfl ?_
  refine a_sld C hX (q := 795) dL_law_794 hf rfl (fun hf => ?_)
  refine a_callVI C (q := 798) (As := [.int (xs (v3 + (1 : Int32)).toNatClampNeg), .int (xs (v3 + (2 : Int32)).toNatClampNeg), .int (xs (v3 + (3 : Int32)).toNatClampNeg)]) (st := []) dL_law_795 hR (by decide) hf (fun b => b.1) (fun b => (b.2, u)) (by decide) rfl rfl cw_X7_film (fun b hb => c_X7_film _ G n t u (xs (v3 + (1 : Int32)).toNatClampNeg) (xs (v3 + (2 : Int32)).toNatClampNeg) (xs (v3 + (3 : Int32)).toNatClampNeg) b hb) rfl rfl (Nat.le_of_ble_eq_true rfl) k_734 rfl (fun y_70 hf => ?_)
  refine a_aload_n C (i := 2) (q := 799) dL_law_798 rfl 2 rfl rfl ?_
  refine a_aload_n C (i := 0) (q := 800) dL_law_799 rfl 0 rfl rfl ?_
  refine a_iload_n C (i := 3) (q := 801) dL_law_800 rfl 3 rfl rfl ?_
  refine a_iconst C (v := (1 : Int32)) (q := 802) dL_law_801 rfl (by decide) ?_
  refine a_iadd C (q := 803) dL_law_802 rfl ?_
  refine a_sld C hX (q := 804) dL_law_803 hf rfl (fun hf => ?_)
  refine a_aload_n C (i := 0) (q := 805) dL_law_804 rfl 0 rfl rfl ?_
  refine a_iload_n C (i := 3) (q := 806) dL_law_805 rfl 3 rfl rfl ?_
  refine a_iconst C (v := (2 : Int32)) (q := 807) dL_law_806 rfl (by decide) ?_
  refine a_iadd C (q := 808) dL_law_807 rfl ?_
  refine a_sld C hX (q := 809) dL_law_808 hf rfl (fun hf => ?_)
  refine a_aload_n C (i := 0) (q := 810) dL_law_809 rfl 0 rfl rfl ?_
  refine a_iload_n C (i := 3) (q := 811) dL_law_810 rfl 3 rfl rfl ?_
  refine a_iconst C (v := (3 : Int32)) (q := 812) dL_law_811 rfl (by decide) ?_
  refine a_iadd C (q := 813) dL_law_812 rfl ?_
  refine a_sld C hX (q := 814) dL_law_813 hf rfl (fun hf => ?_)
  refine a_callVI C (q := 817) (As := [.int (xs (v3 + (1 : Int32)).toNatClampNeg), .int (xs (v3 + (2 : Int32)).toNatClampNeg), .int (xs (v3 + (3 : Int32)).toNatClampNeg)]) (st := [.int y_70.1]) dL_law_814 hR (by decide) hf (fun b => b.1) (fun b => (y_70.2, b.2)) (by decide) rfl rfl cw_X8_film (fun b hb => c_X8_film _ G n y_70.2 u (xs (v3 + (1 : Int32)).toNatClampNeg) (xs (v3 + (2 : Int32)).toNatClampNeg) (xs (v3 + (3 : Int32)).toNatClampNeg) b hb) rfl rfl (Nat.le_of_ble_eq_true rfl) k_1142 rfl (fun y_71 hf => ?_)
  refine a_icmp_eq C (tgt := 1004) (q := 820) dL_law_817 hf (by decide) rfl (fun hf => ?_) (fun hf => ?_)
  · refine a_iincN C (i := 3) (k := 3) (q := 1007) (lv' := fun z => [(3, .int z), (0, .ref b), (1, .ref (G.2.1 0)), (2, .ref (G.2.1 39))]) dL_law_1004 hf rfl rfl (by decide) (fun _ => rfl) rfl (fun v3_72 hf => ?_)
    refine a_goto C (q := 18) dL_law_1007 (by decide) ?_
    have hf := Option.some.inj hf; subst hf
    exact a_sub [1, 2, 3, 0] rfl (show At F G Q 4 18 [(0, .ref b), (1, .ref (G.2.1 0)), (2, .ref (G.2.1 39)), (3, .int v3_72)] [] (y_70.2, y_71.2) from hK)
  · refine a_iconst C (v := (0 : Int32)) (q := 821) dL_law_820 rfl (by decide) ?_
    cases hf
def f_L_law_822 (n L : Nat) (xs : Nat → Int32) (v3 : Int32) (t : MM) (u : SR) : Option (Unit ⊕ (Int32 × MM × SR)) :=
  ix (v3 + (1 : Int32)) L (ix (v3 + (2 : Int32)) L (ix (v3 + (3 : Int32)) L (b1 (f_X7_sheet n t (xs (v3 + (1 : Int32)).toNatClampNeg) (xs (v3 + (2 : Int32)).toNatClampNeg) (xs (v3 + (3 : Int32)).toNatClampNeg)) (fun y_73 => ix (v3 + (1 : Int32)) L (ix (v3 + (2 : Int32)) L (ix (v3 + (3 : Int32)) L (b1 (f_X8_sheet n u (xs (v3 + (1 : Int32)).toNatClampNeg) (xs (v3 + (2 : Int32)).toNatClampNeg) (xs (v3 + (3 : Int32)).toNatClampNeg)) (fun y_74 => (if y_73.1 = y_74.1 then nm (v3 + 6) (fun v3_75 => some (.inr (v3_75, y_73.2, y_74.2))) else (none : Option (Unit ⊕ (Int32 × MM × SR))))))))))))
set_option maxHeartbeats 4000000 in
theorem w_L_law_822 {F : FX} {G : GX} {Q : State → Prop} {b L : Nat} {xs : Nat → Int32} (C : Cx F G cL_law 4 RL) (hR : Rm F 34) (hX : ScrOk F G b L xs) (hE : ∀ S : SX, At F G Q 4 1010 [] [] S) (n : Nat) (v3 : Int32) (t : MM) (u : SR) (res : Unit ⊕ (Int32 × MM × SR)) (hf : f_L_law_822 n L xs v3 t u = some res) (hK : K_law F G Q b res) : At F G Q 4 822 [(0, .ref b), (1, .ref (G.2.1 0)), (2, .ref (G.2.1 39)), (3, .int v3)] [] (t, u) := by
  unfold f_L_law_822 at hf
  refine a_aload_n C (i := 1) (q := 823) dL_law_822 rfl 1 rfl rfl ?_
  refine a_aload_n C (i := 0) (q := 824) dL_law_823 rfl 0 rfl rfl ?_
  refine a_iload_n C (i := 3) (q := 825) dL_law_824 rfl 3 rfl rfl ?_
  refine a_iconst C (v := (1 : Int32)) (q := 826) dL_law_825 rfl (by decide) ?_
  refine a_iadd C (q := 827) dL_law_826 rfl ?_
  refine a_sld C hX (q := 828) dL_law_827 hf rfl (fun hf => ?_)
  refine a_aload_n C (i := 0) (q := 829) dL_law_828 rfl 0 rfl rfl ?_
  refine a_iload_n C (i := 3) (q := 830) dL_law_829 rfl 3 rfl rfl ?_
  refine a_iconst C (v := (2 : Int32)) (q := 831) dL_law_830 rfl (by decide) ?_
  refine a_iadd C (q := 832) dL_law_831 rfl ?_
  refine a_sld C hX (q := 833) dL_law_832 hf rfl (fun hf => ?_)
  refine a_aload_n C (i := 0) (q := 834) dL_law_833 rfl 0 rfl rfl ?_
  refine a_iload_n C (i := 3) (q := 835) dL_law_834 rfl 3 rfl rfl ?_
  refine a_iconst C (v := (3 : Int32)) (q := 836) dL_law_835 rfl (by decide) ?_
  refine a_iadd C (q := 837) dL_law_836 rfl ?_
  refine a_sld C hX (q := 838) dL_law_837 hf rfl (fun hf => ?_)
  refine a_callVI C (q := 841) (As := [.int (xs (v3 + (1 : Int32)).toNatClampNeg), .int (xs (v3 + (2 : Int32)).toNatClampNeg), .int (xs (v3 + (3 : Int32)).toNatClampNeg)]) (st := []) dL_law_838 hR (by decide) hf (fun b => b.1) (fun b => (b.2, u)) (by decide) rfl rfl cw_X7_sheet (fun b hb => c_X7_sheet _ G n t u (xs (v3 + (1 : Int32)).toNatClampNeg) (xs (v3 + (2 : Int32)).toNatClampNeg) (xs (v3 + (3 : Int32)).toNatClampNeg) b hb) rfl rfl (Nat.le_of_ble_eq_true rfl) k_742 rfl (fun y_73 hf => ?_)
  refine a_aload_n C (i := 2) (q := 842) dL_law_841 rfl 2 rfl rfl ?_
  refine a_aload_n C (i := 0) (q := 843) dL_law_842 rfl 0 rfl rfl ?_
  refine a_iload_n C (i := 3) (q := 844) dL_law_843 rfl 3 rfl rfl ?_
  refine a_iconst C (v := (1 : Int32)) (q := 845) dL_law_844 rfl (by decide) ?_
  refine a_iadd C (q := 846) dL_law_845 rfl ?_
  refine a_sld C hX (q := 847) dL_law_846 hf rfl (fun hf => ?_)
  refine a_aload_n C (i := 0) (q := 848) dL_law_847 rfl 0 rfl rfl ?_
  refine a_iload_n C (i := 3) (q := 849) dL_law_848 rfl 3 rfl rfl ?_
  refine a_iconst C (v := (2 : Int32)) (q := 850) dL_law_849 rfl (by decide) ?_
  refine a_iadd C (q := 851) dL_law_850 rfl ?_
  refine a_sld C hX (q := 852) dL_law_851 hf rfl (fun hf => ?_)
  refine a_aload_n C (i := 0) (q := 853) dL_law_852 rfl 0 rfl rfl ?_
  refine a_iload_n C (i := 3) (q := 854) dL_law_853 rfl 3 rfl rfl ?_
  refine a_iconst C (v := (3 : Int32)) (q := 855) dL_law_854 rfl (by decide) ?_
  refine a_iadd C (q := 856) dL_law_855 rfl ?_
  refine a_sld C hX (q := 857) dL_law_856 hf rfl (fun hf => ?_)
  refine a_callVI C (q := 860) (As := [.int (xs (v3 + (1 : Int32)).toNatClampNeg), .int (xs (v3 + (2 : Int32)).toNatClampNeg), .int (xs (v3 + (3 : Int32)).toNatClampNeg)]) (st := [.int y_73.1]) dL_law_857 hR (by decide) hf (fun b => b.1) (fun b => (y_73.2, b.2)) (by decide) rfl rfl cw_X8_sheet (fun b hb => c_X8_sheet _ G n y_73.2 u (xs (v3 + (1 : Int32)).toNatClampNeg) (xs (v3 + (2 : Int32)).toNatClampNeg) (xs (v3 + (3 : Int32)).toNatClampNeg) b hb) rfl rfl (Nat.le_of_ble_eq_true rfl) k_1116 rfl (fun y_74 hf => ?_)
  refine a_icmp_eq C (tgt := 1004) (q := 863) dL_law_860 hf (by decide) rfl (fun hf => ?_) (fun hf => ?_)
  · refine a_iincN C (i := 3) (k := 3) (q := 1007) (lv' := fun z => [(3, .int z), (0, .ref b), (1, .ref (G.2.1 0)), (2, .ref (G.2.1 39))]) dL_law_1004 hf rfl rfl (by decide) (fun _ => rfl) rfl (fun v3_75 hf => ?_)
    refine a_goto C (q := 18) dL_law_1007 (by decide) ?_
    have hf := Option.some.inj hf; subst hf
    exact a_sub [1, 2, 3, 0] rfl (show At F G Q 4 18 [(0, .ref b), (1, .ref (G.2.1 0)), (2, .ref (G.2.1 39)), (3, .int v3_75)] [] (y_73.2, y_74.2) from hK)
  · refine a_iconst C (v := (0 : Int32)) (q := 864) dL_law_863 rfl (by decide) ?_
    cases hf
def f_L_law_865 (n L : Nat) (xs : Nat → Int32) (v3 : Int32) (t : MM) (u : SR) : Option (Unit ⊕ (Int32 × MM × SR)) :=
  ix (v3 + (1 : Int32)) L (b1 (f_X7_drop t (xs (v3 + (1 : Int32)).toNatClampNeg)) (fun y_76 => ix (v3 + (1 : Int32)) L (b1 (f_X8_drop u (xs (v3 + (1 : Int32)).toNatClampNeg)) (fun y_77 => (if y_76.1 = y_77.1 then nm (v3 + 6) (fun v3_78 => some (.inr (v3_78, y_76.2, y_77.2))) else (none : Option (Unit ⊕ (Int32 × MM × SR))))))))
set_option maxHeartbeats 4000000 in
theorem w_L_law_865 {F : FX} {G : GX} {Q : State → Prop} {b L : Nat} {xs : Nat → Int32} (C : Cx F G cL_law 4 RL) (hR : Rm F 34) (hX : ScrOk F G b L xs) (hE : ∀ S : SX, At F G Q 4 1010 [] [] S) (n : Nat) (v3 : Int32) (t : MM) (u : SR) (res : Unit ⊕ (Int32 × MM × SR)) (hf : f_L_law_865 n L xs v3 t u = some res) (hK : K_law F G Q b res) : At F G Q 4 865 [(0, .ref b), (1, .ref (G.2.1 0)), (2, .ref (G.2.1 39)), (3, .int v3)] [] (t, u) := by
  unfold f_L_law_865 at hf
  refine a_aload_n C (i := 1) (q := 866) dL_law_865 rfl 1 rfl rfl ?_
  refine a_aload_n C (i := 0) (q := 867) dL_law_866 rfl 0 rfl rfl ?_
  refine a_iload_n C (i := 3) (q := 868) dL_law_867 rfl 3 rfl rfl ?_
  refine a_iconst C (v := (1 : Int32)) (q := 869) dL_law_868 rfl (by decide) ?_
  refine a_iadd C (q := 870) dL_law_869 rfl ?_
  refine a_sld C hX (q := 871) dL_law_870 hf rfl (fun hf => ?_)
  refine a_callVI C (q := 874) (As := [.int (xs (v3 + (1 : Int32)).toNatClampNeg)]) (st := []) dL_law_871 hR (by decide) hf (fun b => b.1) (fun b => (b.2, u)) (by decide) rfl rfl cw_X7_drop (fun b hb => c_X7_drop _ G t u (xs (v3 + (1 : Int32)).toNatClampNeg) b hb) rfl rfl (Nat.le_of_ble_eq_true rfl) k_750 rfl (fun y_76 hf => ?_)
  refine a_aload_n C (i := 2) (q := 875) dL_law_874 rfl 2 rfl rfl ?_
  refine a_aload_n C (i := 0) (q := 876) dL_law_875 rfl 0 rfl rfl ?_
  refine a_iload_n C (i := 3) (q := 877) dL_law_876 rfl 3 rfl rfl ?_
  refine a_iconst C (v := (1 : Int32)) (q := 878) dL_law_877 rfl (by decide) ?_
  refine a_iadd C (q := 879) dL_law_878 rfl ?_
  refine a_sld C hX (q := 880) dL_law_879 hf rfl (fun hf => ?_)
  refine a_callVI C (q := 883) (As := [.int (xs (v3 + (1 : Int32)).toNatClampNeg)]) (st := [.int y_76.1]) dL_law_880 hR (by decide) hf (fun b => b.1) (fun b => (y_76.2, b.2)) (by decide) rfl rfl cw_X8_drop (fun b hb => c_X8_drop _ G y_76.2 u (xs (v3 + (1 : Int32)).toNatClampNeg) b hb) rfl rfl (Nat.le_of_ble_eq_true rfl) k_1123 rfl (fun y_77 hf => ?_)
  refine a_icmp_eq C (tgt := 1004) (q := 886) dL_law_883 hf (by decide) rfl (fun hf => ?_) (fun hf => ?_)
  · refine a_iincN C (i := 3) (k := 3) (q := 1007) (lv' := fun z => [(3, .int z), (0, .ref b), (1, .ref (G.2.1 0)), (2, .ref (G.2.1 39))]) dL_law_1004 hf rfl rfl (by decide) (fun _ => rfl) rfl (fun v3_78 hf => ?_)
    refine a_goto C (q := 18) dL_law_1007 (by decide) ?_
    have hf := Option.some.inj hf; subst hf
    exact a_sub [1, 2, 3, 0] rfl (show At F G Q 4 18 [(0, .ref b), (1, .ref (G.2.1 0)), (2, .ref (G.2.1 39)), (3, .int v3_78)] [] (y_76.2, y_77.2) from hK)
  · refine a_iconst C (v := (0 : Int32)) (q := 887) dL_law_886 rfl (by decide) ?_
    cases hf
def f_L_law_888 (n L : Nat) (xs : Nat → Int32) (v3 : Int32) (t : MM) (u : SR) : Option (Unit ⊕ (Int32 × MM × SR)) :=
  ix (v3 + (1 : Int32)) L (ix (v3 + (2 : Int32)) L (ix (v3 + (3 : Int32)) L (ix (v3 + (4 : Int32)) L (b1 (f_X7_item t (xs (v3 + (1 : Int32)).toNatClampNeg) (xs (v3 + (2 : Int32)).toNatClampNeg) (xs (v3 + (3 : Int32)).toNatClampNeg) (xs (v3 + (4 : Int32)).toNatClampNeg)) (fun y_79 => ix (v3 + (1 : Int32)) L (ix (v3 + (2 : Int32)) L (ix (v3 + (3 : Int32)) L (ix (v3 + (4 : Int32)) L (b1 (f_X8_item u (xs (v3 + (1 : Int32)).toNatClampNeg) (xs (v3 + (2 : Int32)).toNatClampNeg) (xs (v3 + (3 : Int32)).toNatClampNeg) (xs (v3 + (4 : Int32)).toNatClampNeg)) (fun y_80 => (if y_79.1 = y_80.1 then nm (v3 + 6) (fun v3_81 => some (.inr (v3_81, y_79.2, y_80.2))) else (none : Option (Unit ⊕ (Int32 × MM × SR))))))))))))))
set_option maxHeartbeats 4000000 in
theorem w_L_law_888 {F : FX} {G : GX} {Q : State → Prop} {b L : Nat} {xs : Nat → Int32} (C : Cx F G cL_law 4 RL) (hR : Rm F 34) (hX : ScrOk F G b L xs) (hE : ∀ S : SX, At F G Q 4 1010 [] [] S) (n : Nat) (v3 : Int32) (t : MM) (u : SR) (res : Unit ⊕ (Int32 × MM × SR)) (hf : f_L_law_888 n L xs v3 t u = some res) (hK : K_law F G Q b res) : At F G Q 4 888 [(0, .ref b), (1, .ref (G.2.1 0)), (2, .ref (G.2.1 39)), (3, .int v3)] [] (t, u) := by
  unfold f_L_law_888 at hf
  refine a_aload_n C (i := 1) (q := 889) dL_law_888 rfl 1 rfl rfl ?_
  refine a_aload_n C (i := 0) (q := 890) dL_law_889 rfl 0 rfl rfl ?_
  refine a_iload_n C (i := 3) (q := 891) dL_law_890 rfl 3 rfl rfl ?_
  refine a_iconst C (v := (1 : Int32)) (q := 892) dL_law_891 rfl (by decide) ?_
  refine a_iadd C (q := 893) dL_law_892 rfl ?_
  refine a_sld C hX (q := 894) dL_law_893 hf rfl (fun hf => ?_)
  refine a_aload_n C (i := 0) (q := 895) dL_law_894 rfl 0 rfl rfl ?_
  refine a_iload_n C (i := 3) (q := 896) dL_law_895 rfl 3 rfl rfl ?_
  refine a_iconst C (v := (2 : Int32)) (q := 897) dL_law_896 rfl (by decide) ?_
  refine a_iadd C (q := 898) dL_law_897 rfl ?_
  refine a_sld C hX (q := 899) dL_law_898 hf rfl (fun hf => ?_)
  refine a_aload_n C (i := 0) (q := 900) dL_law_899 rfl 0 rfl rfl ?_
  refine a_iload_n C (i := 3) (q := 901) dL_law_900 rfl 3 rfl rfl ?_
  refine a_iconst C (v := (3 : Int32)) (q := 902) dL_law_901 rfl (by decide) ?_
  refine a_iadd C (q := 903) dL_law_902 rfl ?_
  refine a_sld C hX (q := 904) dL_law_903 hf rfl (fun hf => ?_)
  refine a_aload_n C (i := 0) (q := 905) dL_law_904 rfl 0 rfl rfl ?_
  refine a_iload_n C (i := 3) (q := 906) dL_law_905 rfl 3 rfl rfl ?_
  refine a_iconst C (v := (4 : Int32)) (q := 907) dL_law_906 rfl (by decide) ?_
  refine a_iadd C (q := 908) dL_law_907 rfl ?_
  refine a_sld C hX (q := 909) dL_law_908 hf rfl (fun hf => ?_)
  refine a_callVI C (q := 912) (As := [.int (xs (v3 + (1 : Int32)).toNatClampNeg), .int (xs (v3 + (2 : Int32)).toNatClampNeg), .int (xs (v3 + (3 : Int32)).toNatClampNeg), .int (xs (v3 + (4 : Int32)).toNatClampNeg)]) (st := []) dL_law_909 hR (by decide) hf (fun b => b.1) (fun b => (b.2, u)) (by decide) rfl rfl cw_X7_item (fun b hb => c_X7_item _ G t u (xs (v3 + (1 : Int32)).toNatClampNeg) (xs (v3 + (2 : Int32)).toNatClampNeg) (xs (v3 + (3 : Int32)).toNatClampNeg) (xs (v3 + (4 : Int32)).toNatClampNeg) b hb) rfl rfl (Nat.le_of_ble_eq_true rfl) k_754 rfl (fun y_79 hf => ?_)
  refine a_aload_n C (i := 2) (q := 913) dL_law_912 rfl 2 rfl rfl ?_
  refine a_aload_n C (i := 0) (q := 914) dL_law_913 rfl 0 rfl rfl ?_
  refine a_iload_n C (i := 3) (q := 915) dL_law_914 rfl 3 rfl rfl ?_
  refine a_iconst C (v := (1 : Int32)) (q := 916) dL_law_915 rfl (by decide) ?_
  refine a_iadd C (q := 917) dL_law_916 rfl ?_
  refine a_sld C hX (q := 918) dL_law_917 hf rfl (fun hf => ?_)
  refine a_aload_n C (i := 0) (q := 919) dL_law_918 rfl 0 rfl rfl ?_
  refine a_iload_n C (i := 3) (q := 920) dL_law_919 rfl 3 rfl rfl ?_
  refine a_iconst C (v := (2 : Int32)) (q := 921) dL_law_920 rfl (by decide) ?_
  refine a_iadd C (q := 922) dL_law_921 rfl ?_
  refine a_sld C hX (q := 923) dL_law_922 hf rfl (fun hf => ?_)
  refine a_aload_n C (i := 0) (q := 924) dL_law_923 rfl 0 rfl rfl ?_
  refine a_iload_n C (i := 3) (q := 925) dL_law_924 rfl 3 rfl rfl ?_
  refine a_iconst C (v := (3 : Int32)) (q := 926) dL_law_925 rfl (by decide) ?_
  refine a_iadd C (q := 927) dL_law_926 rfl ?_
  refine a_sld C hX (q := 928) dL_law_927 hf rfl (fun hf => ?_)
  refine a_aload_n C (i := 0) (q := 929) dL_law_928 rfl 0 rfl rfl ?_
  refine a_iload_n C (i := 3) (q := 930) dL_law_929 rfl 3 rfl rfl ?_
  refine a_iconst C (v := (4 : Int32)) (q := 931) dL_law_930 rfl (by decide) ?_
  refine a_iadd C (q := 932) dL_law_931 rfl ?_
  refine a_sld C hX (q := 933) dL_law_932 hf rfl (fun hf => ?_)
  refine a_callVI C (q := 936) (As := [.int (xs (v3 + (1 : Int32)).toNatClampNeg), .int (xs (v3 + (2 : Int32)).toNatClampNeg), .int (xs (v3 + (3 : Int32)).toNatClampNeg), .int (xs (v3 + (4 : Int32)).toNatClampNeg)]) (st := [.int y_79.1]) dL_law_933 hR (by decide) hf (fun b => b.1) (fun b => (y_79.2, b.2)) (by decide) rfl rfl cw_X8_item (fun b hb => c_X8_item _ G y_79.2 u (xs (v3 + (1 : Int32)).toNatClampNeg) (xs (v3 + (2 : Int32)).toNatClampNeg) (xs (v3 + (3 : Int32)).toNatClampNeg) (xs (v3 + (4 : Int32)).toNatClampNeg) b hb) rfl rfl (Nat.le_of_ble_eq_true rfl) k_1127 rfl (fun y_80 hf => ?_)
  refine a_icmp_eq C (tgt := 1004) (q := 939) dL_law_936 hf (by decide) rfl (fun hf => ?_) (fun hf => ?_)
  · refine a_iincN C (i := 3) (k := 3) (q := 1007) (lv' := fun z => [(3, .int z), (0, .ref b), (1, .ref (G.2.1 0)), (2, .ref (G.2.1 39))]) dL_law_1004 hf rfl rfl (by decide) (fun _ => rfl) rfl (fun v3_81 hf => ?_)
    refine a_goto C (q := 18) dL_law_1007 (by decide) ?_
    have hf := Option.some.inj hf; subst hf
    exact a_sub [1, 2, 3, 0] rfl (show At F G Q 4 18 [(0, .ref b), (1, .ref (G.2.1 0)), (2, .ref (G.2.1 39)), (3, .int v3_81)] [] (y_79.2, y_80.2) from hK)
  · refine a_iconst C (v := (0 : Int32)) (q := 940) dL_law_939 rfl (by decide) ?_
    cases hf
def f_L_law_941 (n L : Nat) (xs : Nat → Int32) (v3 : Int32) (t : MM) (u : SR) : Option (Unit ⊕ (Int32 × MM × SR)) :=
  ix (v3 + (1 : Int32)) L (ix (v3 + (2 : Int32)) L (ix (v3 + (3 : Int32)) L (ix (v3 + (4 : Int32)) L (ix (v3 + (5 : Int32)) L (b1 (f_X7_copy t (xs (v3 + (1 : Int32)).toNatClampNeg) (xs (v3 + (2 : Int32)).toNatClampNeg) (xs (v3 + (3 : Int32)).toNatClampNeg) (xs (v3 + (4 : Int32)).toNatClampNeg) (xs (v3 + (5 : Int32)).toNatClampNeg)) (fun y_82 => ix (v3 + (1 : Int32)) L (ix (v3 + (2 : Int32)) L (ix (v3 + (3 : Int32)) L (ix (v3 + (4 : Int32)) L (ix (v3 + (5 : Int32)) L (b1 (f_X8_copy n u (xs (v3 + (1 : Int32)).toNatClampNeg) (xs (v3 + (2 : Int32)).toNatClampNeg) (xs (v3 + (3 : Int32)).toNatClampNeg) (xs (v3 + (4 : Int32)).toNatClampNeg) (xs (v3 + (5 : Int32)).toNatClampNeg)) (fun y_83 => (if y_82.1 = y_83.1 then nm (v3 + 6) (fun v3_84 => some (.inr (v3_84, y_82.2, y_83.2))) else (none : Option (Unit ⊕ (Int32 × MM × SR))))))))))))))))
set_option maxHeartbeats 4000000 in
theorem w_L_law_941 {F : FX} {G : GX} {Q : State → Prop} {b L : Nat} {xs : Nat → Int32} (C : Cx F G cL_law 4 RL) (hR : Rm F 34) (hX : ScrOk F G b L xs) (hE : ∀ S : SX, At F G Q 4 1010 [] [] S) (n : Nat) (v3 : Int32) (t : MM) (u : SR) (res : Unit ⊕ (Int32 × MM × SR)) (hf : f_L_law_941 n L xs v3 t u = some res) (hK : K_law F G Q b res) : At F G Q 4 941 [(0, .ref b), (1, .ref (G.2.1 0)), (2, .ref (G.2.1 39)), (3, .int v3)] [] (t, u) := by
  unfold f_L_law_941 at hf
  refine a_aload_n C (i := 1) (q := 942) dL_law_941 rfl 1 rfl rfl ?_
  refine a_aload_n C (i := 0) (q := 943) dL_law_942 rfl 0 rfl rfl ?_
  refine a_iload_n C (i := 3) (q := 944) dL_law_943 rfl 3 rfl rfl ?_
  refine a_iconst C (v := (1 : Int32)) (q := 945) dL_law_944 rfl (by decide) ?_
  refine a_iadd C (q := 946) dL_law_945 rfl ?_
  refine a_sld C hX (q := 947) dL_law_946 hf rfl (fun hf => ?_)
  refine a_aload_n C (i := 0) (q := 948) dL_law_947 rfl 0 rfl rfl ?_
  refine a_iload_n C (i := 3) (q := 949) dL_law_948 rfl 3 rfl rfl ?_
  refine a_iconst C (v := (2 : Int32)) (q := 950) dL_law_949 rfl (by decide) ?_
  refine a_iadd C (q := 951) dL_law_950 rfl ?_
  refine a_sld C hX (q := 952) dL_law_951 hf rfl (fun hf => ?_)
  refine a_aload_n C (i := 0) (q := 953) dL_law_952 rfl 0 rfl rfl ?_
  refine a_iload_n C (i := 3) (q := 954) dL_law_953 rfl 3 rfl rfl ?_
  refine a_iconst C (v := (3 : Int32)) (q := 955) dL_law_954 rfl (by decide) ?_
  refine a_iadd C (q := 956) dL_law_955 rfl ?_
  refine a_sld C hX (q := 957) dL_law_956 hf rfl (fun hf => ?_)
  refine a_aload_n C (i := 0) (q := 958) dL_law_957 rfl 0 rfl rfl ?_
  refine a_iload_n C (i := 3) (q := 959) dL_law_958 rfl 3 rfl rfl ?_
  refine a_iconst C (v := (4 : Int32)) (q := 960) dL_law_959 rfl (by decide) ?_
  refine a_iadd C (q := 961) dL_law_960 rfl ?_
  refine a_sld C hX (q := 962) dL_law_961 hf rfl (fun hf => ?_)
  refine a_aload_n C (i := 0) (q := 963) dL_law_962 rfl 0 rfl rfl ?_
  refine a_iload_n C (i := 3) (q := 964) dL_law_963 rfl 3 rfl rfl ?_
  refine a_iconst C (v := (5 : Int32)) (q := 965) dL_law_964 rfl (by decide) ?_
  refine a_iadd C (q := 966) dL_law_965 rfl ?_
  refine a_sld C hX (q := 967) dL_law_966 hf rfl (fun hf => ?_)
  refine a_callVI C (q := 970) (As := [.int (xs (v3 + (1 : Int32)).toNatClampNeg), .int (xs (v3 + (2 : Int32)).toNatClampNeg), .int (xs (v3 + (3 : Int32)).toNatClampNeg), .int (xs (v3 + (4 : Int32)).toNatClampNeg), .int (xs (v3 + (5 : Int32)).toNatClampNeg)]) (st := []) dL_law_967 hR (by decide) hf (fun b => b.1) (fun b => (b.2, u)) (by decide) rfl rfl cw_X7_copy (fun b hb => c_X7_copy _ G t u (xs (v3 + (1 : Int32)).toNatClampNeg) (xs (v3 + (2 : Int32)).toNatClampNeg) (xs (v3 + (3 : Int32)).toNatClampNeg) (xs (v3 + (4 : Int32)).toNatClampNeg) (xs (v3 + (5 : Int32)).toNatClampNeg) b hb) rfl rfl (Nat.le_of_ble_eq_true rfl) k_758 rfl (fun y_82 hf => ?_)
  refine a_aload_n C (i := 2) (q := 971) dL_law_970 rfl 2 rfl rfl ?_
  refine a_aload_n C (i := 0) (q := 972) dL_law_971 rfl 0 rfl rfl ?_
  refine a_iload_n C (i := 3) (q := 973) dL_law_972 rfl 3 rfl rfl ?_
  refine a_iconst C (v := (1 : Int32)) (q := 974) dL_law_973 rfl (by decide) ?_
  refine a_iadd C (q := 975) dL_law_974 rfl ?_
  refine a_sld C hX (q := 976) dL_law_975 hf rfl (fun hf => ?_)
  refine a_aload_n C (i := 0) (q := 977) dL_law_976 rfl 0 rfl rfl ?_
  refine a_iload_n C (i := 3) (q := 978) dL_law_977 rfl 3 rfl rfl ?_
  refine a_iconst C (v := (2 : Int32)) (q := 979) dL_law_978 rfl (by decide) ?_
  refine a_iadd C (q := 980) dL_law_979 rfl ?_
  refine a_sld C hX (q := 981) dL_law_980 hf rfl (fun hf => ?_)
  refine a_aload_n C (i := 0) (q := 982) dL_law_981 rfl 0 rfl rfl ?_
  refine a_iload_n C (i := 3) (q := 983) dL_law_982 rfl 3 rfl rfl ?_
  refine a_iconst C (v := (3 : Int32)) (q := 984) dL_law_983 rfl (by decide) ?_
  refine a_iadd C (q := 985) dL_law_984 rfl ?_
  refine a_sld C hX (q := 986) dL_law_985 hf rfl (fun hf => ?_)
  refine a_aload_n C (i := 0) (q := 987) dL_law_986 rfl 0 rfl rfl ?_
  refine a_iload_n C (i := 3) (q := 988) dL_law_987 rfl 3 rfl rfl ?_
  refine a_iconst C (v := (4 : Int32)) (q := 989) dL_law_988 rfl (by decide) ?_
  refine a_iadd C (q := 990) dL_law_989 rfl ?_
  refine a_sld C hX (q := 991) dL_law_990 hf rfl (fun hf => ?_)
  refine a_aload_n C (i := 0) (q := 992) dL_law_991 rfl 0 rfl rfl ?_
  refine a_iload_n C (i := 3) (q := 993) dL_law_992 rfl 3 rfl rfl ?_
  refine a_iconst C (v := (5 : Int32)) (q := 994) dL_law_993 rfl (by decide) ?_
  refine a_iadd C (q := 995) dL_law_994 rfl ?_
  refine a_sld C hX (q := 996) dL_law_995 hf rfl (fun hf => ?_)
  refine a_callVI C (q := 999) (As := [.int (xs (v3 + (1 : Int32)).toNatClampNeg), .int (xs (v3 + (2 : Int32)).toNatClampNeg), .int (xs (v3 + (3 : Int32)).toNatClampNeg), .int (xs (v3 + (4 : Int32)).toNatClampNeg), .int (xs (v3 + (5 : Int32)).toNatClampNeg)]) (st := [.int y_82.1]) dL_law_996 hR (by decide) hf (fun b => b.1) (fun b => (y_82.2, b.2)) (by decide) rfl rfl cw_X8_copy (fun b hb => c_X8_copy _ G n y_82.2 u (xs (v3 + (1 : Int32)).toNatClampNeg) (xs (v3 + (2 : Int32)).toNatClampNeg) (xs (v3 + (3 : Int32)).toNatClampNeg) (xs (v3 + (4 : Int32)).toNatClampNeg) (xs (v3 + (5 : Int32)).toNatClampNeg) b hb) rfl rfl (Nat.le_of_ble_eq_true rfl) k_1146 rfl (fun y_83 hf => ?_)
  refine a_icmp_eq C (tgt := 1004) (q := 1002) dL_law_999 hf (by decide) rfl (fun hf => ?_) (fun hf => ?_)
  · refine a_iincN C (i := 3) (k := 3) (q := 1007) (lv' := fun z => [(3, .int z), (0, .ref b), (1, .ref (G.2.1 0)), (2, .ref (G.2.1 39))]) dL_law_1004 hf rfl rfl (by decide) (fun _ => rfl) rfl (fun v3_84 hf => ?_)
    refine a_goto C (q := 18) dL_law_1007 (by decide) ?_
    have hf := Option.some.inj hf; subst hf
    exact a_sub [1, 2, 3, 0] rfl (show At F G Q 4 18 [(0, .ref b), (1, .ref (G.2.1 0)), (2, .ref (G.2.1 39)), (3, .int v3_84)] [] (y_82.2, y_83.2) from hK)
  · refine a_iconst C (v := (0 : Int32)) (q := 1003) dL_law_1002 rfl (by decide) ?_
    cases hf
def lb_law (n L : Nat) (xs : Nat → Int32) (v3 : Int32) (t : MM) (u : SR) : Option (Unit ⊕ (Int32 × MM × SR)) :=
  (if ((Int32.ofNat L) - (6 : Int32)) < v3 then some (.inl ()) else ix v3 L ((if ((xs v3.toNatClampNeg) &&& (31 : Int32)) = 0 then f_L_law_160 n L xs v3 t u else (if ((xs v3.toNatClampNeg) &&& (31 : Int32)) = 1 then f_L_law_193 n L xs v3 t u else (if ((xs v3.toNatClampNeg) &&& (31 : Int32)) = 2 then f_L_law_226 n L xs v3 t u else (if ((xs v3.toNatClampNeg) &&& (31 : Int32)) = 3 then f_L_law_259 n L xs v3 t u else (if ((xs v3.toNatClampNeg) &&& (31 : Int32)) = 4 then f_L_law_282 n L xs v3 t u else (if ((xs v3.toNatClampNeg) &&& (31 : Int32)) = 5 then f_L_law_305 n L xs v3 t u else (if ((xs v3.toNatClampNeg) &&& (31 : Int32)) = 6 then f_L_law_368 n L xs v3 t u else (if ((xs v3.toNatClampNeg) &&& (31 : Int32)) = 7 then f_L_law_381 n L xs v3 t u else (if ((xs v3.toNatClampNeg) &&& (31 : Int32)) = 8 then f_L_law_394 n L xs v3 t u else (if ((xs v3.toNatClampNeg) &&& (31 : Int32)) = 9 then f_L_law_417 n L xs v3 t u else (if ((xs v3.toNatClampNeg) &&& (31 : Int32)) = 10 then f_L_law_440 n L xs v3 t u else (if ((xs v3.toNatClampNeg) &&& (31 : Int32)) = 11 then f_L_law_463 n L xs v3 t u else (if ((xs v3.toNatClampNeg) &&& (31 : Int32)) = 12 then f_L_law_486 n L xs v3 t u else (if ((xs v3.toNatClampNeg) &&& (31 : Int32)) = 13 then f_L_law_509 n L xs v3 t u else (if ((xs v3.toNatClampNeg) &&& (31 : Int32)) = 14 then f_L_law_532 n L xs v3 t u else (if ((xs v3.toNatClampNeg) &&& (31 : Int32)) = 15 then f_L_law_565 n L xs v3 t u else (if ((xs v3.toNatClampNeg) &&& (31 : Int32)) = 16 then f_L_law_608 n L xs v3 t u else (if ((xs v3.toNatClampNeg) &&& (31 : Int32)) = 17 then f_L_law_621 n L xs v3 t u else (if ((xs v3.toNatClampNeg) &&& (31 : Int32)) = 18 then f_L_law_654 n L xs v3 t u else (if ((xs v3.toNatClampNeg) &&& (31 : Int32)) = 19 then f_L_law_677 n L xs v3 t u else (if ((xs v3.toNatClampNeg) &&& (31 : Int32)) = 20 then f_L_law_710 n L xs v3 t u else (if ((xs v3.toNatClampNeg) &&& (31 : Int32)) = 21 then f_L_law_723 n L xs v3 t u else (if ((xs v3.toNatClampNeg) &&& (31 : Int32)) = 22 then f_L_law_736 n L xs v3 t u else (if ((xs v3.toNatClampNeg) &&& (31 : Int32)) = 23 then f_L_law_779 n L xs v3 t u else (if ((xs v3.toNatClampNeg) &&& (31 : Int32)) = 24 then f_L_law_822 n L xs v3 t u else (if ((xs v3.toNatClampNeg) &&& (31 : Int32)) = 25 then f_L_law_865 n L xs v3 t u else (if ((xs v3.toNatClampNeg) &&& (31 : Int32)) = 26 then f_L_law_888 n L xs v3 t u else (if ((xs v3.toNatClampNeg) &&& (31 : Int32)) = 27 then f_L_law_941 n L xs v3 t u else nm (v3 + 6) (fun v3_85 => some (.inr (v3_85, t, u)))))))))))))))))))))))))))))))))
set_option maxHeartbeats 4000000 in
theorem w_law {F : FX} {G : GX} {Q : State → Prop} {b L : Nat} {xs : Nat → Int32} (C : Cx F G cL_law 4 RL) (hR : Rm F 34) (hX : ScrOk F G b L xs) (hE : ∀ S : SX, At F G Q 4 1010 [] [] S) (n : Nat) (v3 : Int32) (t : MM) (u : SR) (res : Unit ⊕ (Int32 × MM × SR)) (hf : lb_law n L xs v3 t u = some res) (hK : K_law F G Q b res) : P_law F G Q b v3 t u := by
  unfold lb_law at hf
  show At F G Q 4 18 [(0, .ref b), (1, .ref (G.2.1 0)), (2, .ref (G.2.1 39)), (3, .int v3)] [] (t, u)
  refine a_iload_n C (i := 3) (q := 19) dL_law_18 rfl 3 rfl rfl ?_
  refine a_aload_n C (i := 0) (q := 20) dL_law_19 rfl 0 rfl rfl ?_
  refine a_slen C hX (q := 21) dL_law_20 rfl ?_
  refine a_bipush C (v := (6 : Int32)) (q := 23) dL_law_21 rfl (by decide) ?_
  refine a_isub C (q := 24) dL_law_23 rfl ?_
  refine a_icmp_gt C (tgt := 1010) (q := 27) dL_law_24 hf (by decide) rfl (fun hf => ?_) (fun hf => ?_)
  · exact a_sub [] rfl (hE (t, u))
  · refine a_aload_n C (i := 0) (q := 28) dL_law_27 rfl 0 rfl rfl ?_
    refine a_iload_n C (i := 3) (q := 29) dL_law_28 rfl 3 rfl rfl ?_
    refine a_sld C hX (q := 30) dL_law_29 hf rfl (fun hf => ?_)
    refine a_bipush C (v := (31 : Int32)) (q := 32) dL_law_30 rfl (by decide) ?_
    refine a_iand C (q := 33) dL_law_32 rfl ?_
    rcases ite_cut hf with ⟨hc0, hf⟩ | ⟨hc0, hf⟩
    · refine a_tblIn C (tgt := 160) (q := 33) (v := 0) dL_law_33 hc0 (by decide) (by decide) rfl (by decide) rfl ?_
      exact a_sub [0, 1, 2, 3] rfl (w_L_law_160 C hR hX hE n v3 t u res hf hK)
    · rcases ite_cut hf with ⟨hc1, hf⟩ | ⟨hc1, hf⟩
      · refine a_tblIn C (tgt := 193) (q := 33) (v := 1) dL_law_33 hc1 (by decide) (by decide) rfl (by decide) rfl ?_
        exact a_sub [0, 1, 2, 3] rfl (w_L_law_193 C hR hX hE n v3 t u res hf hK)
      · rcases ite_cut hf with ⟨hc2, hf⟩ | ⟨hc2, hf⟩
        · refine a_tblIn C (tgt := 226) (q := 33) (v := 2) dL_law_33 hc2 (by decide) (by decide) rfl (by decide) rfl ?_
          exact a_sub [0, 1, 2, 3] rfl (w_L_law_226 C hR hX hE n v3 t u res hf hK)
        · rcases ite_cut hf with ⟨hc3, hf⟩ | ⟨hc3, hf⟩
          · refine a_tblIn C (tgt := 259) (q := 33) (v := 3) dL_law_33 hc3 (by decide) (by decide) rfl (by decide) rfl ?_
            exact a_sub [0, 1, 2, 3] rfl (w_L_law_259 C hR hX hE n v3 t u res hf hK)
          · rcases ite_cut hf with ⟨hc4, hf⟩ | ⟨hc4, hf⟩
            · refine a_tblIn C (tgt := 282) (q := 33) (v := 4) dL_law_33 hc4 (by decide) (by decide) rfl (by decide) rfl ?_
              exact a_sub [0, 1, 2, 3] rfl (w_L_law_282 C hR hX hE n v3 t u res hf hK)
            · rcases ite_cut hf with ⟨hc5, hf⟩ | ⟨hc5, hf⟩
              · refine a_tblIn C (tgt := 305) (q := 33) (v := 5) dL_law_33 hc5 (by decide) (by decide) rfl (by decide) rfl ?_
                exact a_sub [0, 1, 2, 3] rfl (w_L_law_305 C hR hX hE n v3 t u res hf hK)
              · rcases ite_cut hf with ⟨hc6, hf⟩ | ⟨hc6, hf⟩
                · refine a_tblIn C (tgt := 368) (q := 33) (v := 6) dL_law_33 hc6 (by decide) (by decide) rfl (by decide) rfl ?_
                  exact a_sub [0, 1, 2, 3] rfl (w_L_law_368 C hR hX hE n v3 t u res hf hK)
                · rcases ite_cut hf with ⟨hc7, hf⟩ | ⟨hc7, hf⟩
                  · refine a_tblIn C (tgt := 381) (q := 33) (v := 7) dL_law_33 hc7 (by decide) (by decide) rfl (by decide) rfl ?_
                    exact a_sub [0, 1, 2, 3] rfl (w_L_law_381 C hR hX hE n v3 t u res hf hK)
                  · rcases ite_cut hf with ⟨hc8, hf⟩ | ⟨hc8, hf⟩
                    · refine a_tblIn C (tgt := 394) (q := 33) (v := 8) dL_law_33 hc8 (by decide) (by decide) rfl (by decide) rfl ?_
                      exact a_sub [0, 1, 2, 3] rfl (w_L_law_394 C hR hX hE n v3 t u res hf hK)
                    · rcases ite_cut hf with ⟨hc9, hf⟩ | ⟨hc9, hf⟩
                      · refine a_tblIn C (tgt := 417) (q := 33) (v := 9) dL_law_33 hc9 (by decide) (by decide) rfl (by decide) rfl ?_
                        exact a_sub [0, 1, 2, 3] rfl (w_L_law_417 C hR hX hE n v3 t u res hf hK)
                      · rcases ite_cut hf with ⟨hc10, hf⟩ | ⟨hc10, hf⟩
                        · refine a_tblIn C (tgt := 440) (q := 33) (v := 10) dL_law_33 hc10 (by decide) (by decide) rfl (by decide) rfl ?_
                          exact a_sub [0, 1, 2, 3] rfl (w_L_law_440 C hR hX hE n v3 t u res hf hK)
                        · rcases ite_cut hf with ⟨hc11, hf⟩ | ⟨hc11, hf⟩
                          · refine a_tblIn C (tgt := 463) (q := 33) (v := 11) dL_law_33 hc11 (by decide) (by decide) rfl (by decide) rfl ?_
                            exact a_sub [0, 1, 2, 3] rfl (w_L_law_463 C hR hX hE n v3 t u res hf hK)
                          · rcases ite_cut hf with ⟨hc12, hf⟩ | ⟨hc12, hf⟩
                            · refine a_tblIn C (tgt := 486) (q := 33) (v := 12) dL_law_33 hc12 (by decide) (by decide) rfl (by decide) rfl ?_
                              exact a_sub [0, 1, 2, 3] rfl (w_L_law_486 C hR hX hE n v3 t u res hf hK)
                            · rcases ite_cut hf with ⟨hc13, hf⟩ | ⟨hc13, hf⟩
                              · refine a_tblIn C (tgt := 509) (q := 33) (v := 13) dL_law_33 hc13 (by decide) (by decide) rfl (by decide) rfl ?_
                                exact a_sub [0, 1, 2, 3] rfl (w_L_law_509 C hR hX hE n v3 t u res hf hK)
                              · rcases ite_cut hf with ⟨hc14, hf⟩ | ⟨hc14, hf⟩
                                · refine a_tblIn C (tgt := 532) (q := 33) (v := 14) dL_law_33 hc14 (by decide) (by decide) rfl (by decide) rfl ?_
                                  exact a_sub [0, 1, 2, 3] rfl (w_L_law_532 C hR hX hE n v3 t u res hf hK)
                                · rcases ite_cut hf with ⟨hc15, hf⟩ | ⟨hc15, hf⟩
                                  · refine a_tblIn C (tgt := 565) (q := 33) (v := 15) dL_law_33 hc15 (by decide) (by decide) rfl (by decide) rfl ?_
                                    exact a_sub [0, 1, 2, 3] rfl (w_L_law_565 C hR hX hE n v3 t u res hf hK)
                                  · rcases ite_cut hf with ⟨hc16, hf⟩ | ⟨hc16, hf⟩
                                    · refine a_tblIn C (tgt := 608) (q := 33) (v := 16) dL_law_33 hc16 (by decide) (by decide) rfl (by decide) rfl ?_
                                      exact a_sub [0, 1, 2, 3] rfl (w_L_law_608 C hR hX hE n v3 t u res hf hK)
                                    · rcases ite_cut hf with ⟨hc17, hf⟩ | ⟨hc17, hf⟩
                                      · refine a_tblIn C (tgt := 621) (q := 33) (v := 17) dL_law_33 hc17 (by decide) (by decide) rfl (by decide) rfl ?_
                                        exact a_sub [0, 1, 2, 3] rfl (w_L_law_621 C hR hX hE n v3 t u res hf hK)
                                      · rcases ite_cut hf with ⟨hc18, hf⟩ | ⟨hc18, hf⟩
                                        · refine a_tblIn C (tgt := 654) (q := 33) (v := 18) dL_law_33 hc18 (by decide) (by decide) rfl (by decide) rfl ?_
                                          exact a_sub [0, 1, 2, 3] rfl (w_L_law_654 C hR hX hE n v3 t u res hf hK)
                                        · rcases ite_cut hf with ⟨hc19, hf⟩ | ⟨hc19, hf⟩
                                          · refine a_tblIn C (tgt := 677) (q := 33) (v := 19) dL_law_33 hc19 (by decide) (by decide) rfl (by decide) rfl ?_
                                            exact a_sub [0, 1, 2, 3] rfl (w_L_law_677 C hR hX hE n v3 t u res hf hK)
                                          · rcases ite_cut hf with ⟨hc20, hf⟩ | ⟨hc20, hf⟩
                                            · refine a_tblIn C (tgt := 710) (q := 33) (v := 20) dL_law_33 hc20 (by decide) (by decide) rfl (by decide) rfl ?_
                                              exact a_sub [0, 1, 2, 3] rfl (w_L_law_710 C hR hX hE n v3 t u res hf hK)
                                            · rcases ite_cut hf with ⟨hc21, hf⟩ | ⟨hc21, hf⟩
                                              · refine a_tblIn C (tgt := 723) (q := 33) (v := 21) dL_law_33 hc21 (by decide) (by decide) rfl (by decide) rfl ?_
                                                exact a_sub [0, 1, 2, 3] rfl (w_L_law_723 C hR hX hE n v3 t u res hf hK)
                                              · rcases ite_cut hf with ⟨hc22, hf⟩ | ⟨hc22, hf⟩
                                                · refine a_tblIn C (tgt := 736) (q := 33) (v := 22) dL_law_33 hc22 (by decide) (by decide) rfl (by decide) rfl ?_
                                                  exact a_sub [0, 1, 2, 3] rfl (w_L_law_736 C hR hX hE n v3 t u res hf hK)
                                                · rcases ite_cut hf with ⟨hc23, hf⟩ | ⟨hc23, hf⟩
                                                  · refine a_tblIn C (tgt := 779) (q := 33) (v := 23) dL_law_33 hc23 (by decide) (by decide) rfl (by decide) rfl ?_
                                                    exact a_sub [0, 1, 2, 3] rfl (w_L_law_779 C hR hX hE n v3 t u res hf hK)
                                                  · rcases ite_cut hf with ⟨hc24, hf⟩ | ⟨hc24, hf⟩
                                                    · refine a_tblIn C (tgt := 822) (q := 33) (v := 24) dL_law_33 hc24 (by decide) (by decide) rfl (by decide) rfl ?_
                                                      exact a_sub [0, 1, 2, 3] rfl (w_L_law_822 C hR hX hE n v3 t u res hf hK)
                                                    · rcases ite_cut hf with ⟨hc25, hf⟩ | ⟨hc25, hf⟩
                                                      · refine a_tblIn C (tgt := 865) (q := 33) (v := 25) dL_law_33 hc25 (by decide) (by decide) rfl (by decide) rfl ?_
                                                        exact a_sub [0, 1, 2, 3] rfl (w_L_law_865 C hR hX hE n v3 t u res hf hK)
                                                      · rcases ite_cut hf with ⟨hc26, hf⟩ | ⟨hc26, hf⟩
                                                        · refine a_tblIn C (tgt := 888) (q := 33) (v := 26) dL_law_33 hc26 (by decide) (by decide) rfl (by decide) rfl ?_
                                                          exact a_sub [0, 1, 2, 3] rfl (w_L_law_888 C hR hX hE n v3 t u res hf hK)
                                                        · rcases ite_cut hf with ⟨hc27, hf⟩ | ⟨hc27, hf⟩
                                                          · refine a_tblIn C (tgt := 941) (q := 33) (v := 27) dL_law_33 hc27 (by decide) (by decide) rfl (by decide) rfl ?_
                                                            exact a_sub [0, 1, 2, 3] rfl (w_L_law_941 C hR hX hE n v3 t u res hf hK)
                                                          · refine a_tblOut C (tgt := 1004) (q := 33) dL_law_33 (tO28 hc0 hc1 hc2 hc3 hc4 hc5 hc6 hc7 hc8 hc9 hc10 hc11 hc12 hc13 hc14 hc15 hc16 hc17 hc18 hc19 hc20 hc21 hc22 hc23 hc24 hc25 hc26 hc27) (by decide) rfl ?_
                                                            refine a_iincN C (i := 3) (k := 3) (q := 1007) (lv' := fun z => [(3, .int z), (0, .ref b), (1, .ref (G.2.1 0)), (2, .ref (G.2.1 39))]) dL_law_1004 hf rfl rfl (by decide) (fun _ => rfl) rfl (fun v3_85 hf => ?_)
                                                            refine a_goto C (q := 18) dL_law_1007 (by decide) ?_
                                                            have hf := Option.some.inj hf; subst hf
                                                            exact a_sub [1, 2, 3, 0] rfl (show At F G Q 4 18 [(0, .ref b), (1, .ref (G.2.1 0)), (2, .ref (G.2.1 39)), (3, .int v3_85)] [] (t, u) from hK)
theorem lp_law {F : FX} {G : GX} {Q : State → Prop} {b L : Nat} {xs : Nat → Int32} (C : Cx F G cL_law 4 RL) (hR : Rm F 34) (hX : ScrOk F G b L xs) (hE : ∀ S : SX, At F G Q 4 1010 [] [] S) (n : Nat) (v3 : Int32) (t : MM) (u : SR) (x : Unit) (h : it3 (lb_law n L xs) n v3 t u = some x) : P_law F G Q b v3 t u :=
  it3_ind (b := lb_law n L xs) (E := fun _ => True) (P := fun v3 t u => P_law F G Q b v3 t u) (fun v3 t u res hf hK => w_law C hR hX hE n v3 t u res hf hK) n v3 t u x h trivial
