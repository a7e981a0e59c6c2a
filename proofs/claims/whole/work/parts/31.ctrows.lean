abbrev tysC (cy : Nat → ClassId) : List (ClassId × FieldType) := [(cy 0, .byte), (cy 1, .int), (cy 2, .boolean), (cy 3, .object "TwelveCars$Sheet")]
def Nst (U : State) : Prop := va_Nw (.methodLinkNest RX7 9 yX6_init "TwelveCars") U ∧ va_Nw (.methodLinkNest RX7 21 yX5_init "TwelveCars") U ∧ va_Nw (.methodLinkNest RX0 13 yX2_init "TwelveCars") U ∧ va_Nw (.methodLinkNest RX1 11 yX2_init "TwelveCars") U ∧ va_Nw (.methodLinkNest RX4 11 yX2_init "TwelveCars") U ∧ va_Nw (.methodLinkNest RX7 51 yX2_init "TwelveCars") U ∧ va_Nw (.methodLinkNest RX7 62 yX3_init "TwelveCars") U ∧ va_AO "TwelveCars$Sheet" U
theorem Nst.warm {s U : State} (h : Nst s) (hW : s.WarmedH U.vm) : Nst U := by
  obtain ⟨h0, h1, h2, h3, h4, h5, h6, h7⟩ := h
  exact ⟨va_Nw.warmM hW h0, va_Nw.warmM hW h1, va_Nw.warmM hW h2, va_Nw.warmM hW h3, va_Nw.warmM hW h4, va_Nw.warmM hW h5, va_Nw.warmM hW h6, va_AO.moved hW.alike h7⟩
theorem Nst.calling {U : State} {g : JFrame} {mk : MethodId} {a : Array Value} (h : Nst U) : Nst (U.calling g mk a) := by
  obtain ⟨h0, h1, h2, h3, h4, h5, h6, h7⟩ := h
  exact ⟨va_Nw.same (U := U.calling g mk a) rfl rfl h0, va_Nw.same (U := U.calling g mk a) rfl rfl h1, va_Nw.same (U := U.calling g mk a) rfl rfl h2, va_Nw.same (U := U.calling g mk a) rfl rfl h3, va_Nw.same (U := U.calling g mk a) rfl rfl h4, va_Nw.same (U := U.calling g mk a) rfl rfl h5, va_Nw.same (U := U.calling g mk a) rfl rfl h6, va_AO.moved (Vm.Alike.refl U.vm) h7⟩
def rmC (d mc ms : Nat) : Room := { frames := d, cells := mc, slots := ms, locals := 48 * d }
def Dx (F : FX) (D : va_G) (cy : Nat → ClassId) (A : Nat → Prop) (cc : ByteArray) (nL : Nat) (own : String) (d MC MS : Nat) : Prop := match F with
  | (p, _, _, R, s, m, args, _, meth, c, _, _) => p.tables.exec = Jvm.exec ∧ c.code = cc ∧ c.maxLocals = nL ∧ s.vm.findClass own = some m.cls ∧ (∀ w ∈ wsG, w.before args s = true) ∧ meth.locks = false ∧ va_K D vwCl (tysC cy) s ∧ (∀ q : Nat, s.heap.size ≤ q → A q) ∧ Nst s ∧ d ≤ R.frames ∧ 48 * d ≤ R.locals ∧ R.cells = MC ∧ R.slots = MS
def Bt (F : FX) (D : va_G) (A : Nat → Prop) (Q : State → Prop) (nL pc : Nat) (lv : List (Nat × Value)) (st : List Value) (ws : va_W) (ce sl : Nat) : Prop := match F with
  | (p, l, e, R, s, m, args, below, meth, c, _, _) => ∀ (H : Heap) (locs : List Loc) (ls : Array Slot), va_P D vwCl ws H → va_D A ws → va_S A s.heap H locs → lv_has ls nL lv → W p l e R s m args below meth c H locs ce sl Q (F0 m pc ls st)
def isInit (F : FX) : Prop := match F with
  | (_, _, _, _, _, _, _, _, meth, _, _, _) => meth.name = "<init>"
theorem e_iconst {F : FX} {D : va_G} {cy : Nat → ClassId} {A : Nat → Prop} {Q : State → Prop} {nL pc q d MC MS ce sl : Nat} {lv : List (Nat × Value)} {st : List Value} {ws : va_W} {cc : ByteArray} {own : String} (C : Dx F D cy A cc nL own d MC MS) {n : Int} {v : Int32} (hd : decode cc pc = .ok (.iconst n, 1)) (hq : pc + 1 = q) (hv : Int32.ofInt n = v) (kk : Bt F D A Q nL q lv (.int v :: st) ws ce sl) : Bt F D A Q nL pc lv (st) ws ce sl := by
  obtain ⟨p, l, e, R, s, m, args, below, meth, c, ce0, sl0⟩ := F
  obtain ⟨hx, hb, hml, hown, hts, hlk, hK, hA, hN, hR1, hR2, hR3, hR4⟩ := C
  subst hq
  intro H locs ls hP hD hS hl
  exact lv_iconst hx hb hd hv (kk H locs ls hP hD hS hl)
theorem e_bipush {F : FX} {D : va_G} {cy : Nat → ClassId} {A : Nat → Prop} {Q : State → Prop} {nL pc q d MC MS ce sl : Nat} {lv : List (Nat × Value)} {st : List Value} {ws : va_W} {cc : ByteArray} {own : String} (C : Dx F D cy A cc nL own d MC MS) {n : Int} {v : Int32} (hd : decode cc pc = .ok (.bipush n, 2)) (hq : pc + 2 = q) (hv : (Int8.ofInt n).toInt32 = v) (kk : Bt F D A Q nL q lv (.int v :: st) ws ce sl) : Bt F D A Q nL pc lv (st) ws ce sl := by
  obtain ⟨p, l, e, R, s, m, args, below, meth, c, ce0, sl0⟩ := F
  obtain ⟨hx, hb, hml, hown, hts, hlk, hK, hA, hN, hR1, hR2, hR3, hR4⟩ := C
  subst hq
  intro H locs ls hP hD hS hl
  exact lv_bipush hx hb hd hv (kk H locs ls hP hD hS hl)
theorem e_sipush {F : FX} {D : va_G} {cy : Nat → ClassId} {A : Nat → Prop} {Q : State → Prop} {nL pc q d MC MS ce sl : Nat} {lv : List (Nat × Value)} {st : List Value} {ws : va_W} {cc : ByteArray} {own : String} (C : Dx F D cy A cc nL own d MC MS) {n : Int} {v : Int32} (hd : decode cc pc = .ok (.sipush n, 3)) (hq : pc + 3 = q) (hv : (Int16.ofInt n).toInt32 = v) (kk : Bt F D A Q nL q lv (.int v :: st) ws ce sl) : Bt F D A Q nL pc lv (st) ws ce sl := by
  obtain ⟨p, l, e, R, s, m, args, below, meth, c, ce0, sl0⟩ := F
  obtain ⟨hx, hb, hml, hown, hts, hlk, hK, hA, hN, hR1, hR2, hR3, hR4⟩ := C
  subst hq
  intro H locs ls hP hD hS hl
  exact lv_sipush hx hb hd hv (kk H locs ls hP hD hS hl)
theorem e_iload_n {F : FX} {D : va_G} {cy : Nat → ClassId} {A : Nat → Prop} {Q : State → Prop} {nL pc q d MC MS ce sl : Nat} {lv : List (Nat × Value)} {st : List Value} {ws : va_W} {cc : ByteArray} {own : String} (C : Dx F D cy A cc nL own d MC MS) {k : Fin 4} {i : Nat} {x : Int32} (hd : decode cc pc = .ok (.iload_n k, 1)) (hq : pc + 1 = q) (j : Nat) (hi : (k : Nat) = i) (hj : lv[j]? = some (i, .int x)) (kk : Bt F D A Q nL q lv (.int x :: st) ws ce sl) : Bt F D A Q nL pc lv (st) ws ce sl := by
  obtain ⟨p, l, e, R, s, m, args, below, meth, c, ce0, sl0⟩ := F
  obtain ⟨hx, hb, hml, hown, hts, hlk, hK, hA, hN, hR1, hR2, hR3, hR4⟩ := C
  subst hq
  intro H locs ls hP hD hS hl
  exact lv_iload_n hx hb hd hi (lv_at hl j hj) (kk H locs ls hP hD hS hl)
theorem e_istore_n {F : FX} {D : va_G} {cy : Nat → ClassId} {A : Nat → Prop} {Q : State → Prop} {nL pc q d MC MS ce sl : Nat} {lv : List (Nat × Value)} {st : List Value} {ws : va_W} {cc : ByteArray} {own : String} (C : Dx F D cy A cc nL own d MC MS) {k : Fin 4} {i : Nat} {x : Int32} {lv' : List (Nat × Value)} (hd : decode cc pc = .ok (.istore_n k, 1)) (hq : pc + 1 = q) (hi : (k : Nat) = i) (hn : i < nL) (hl' : (i, Value.int x) :: lv.filter (fun q => !(q.1 == i) && !(q.1 + 1 == i && q.2.category == 2)) = lv') (kk : Bt F D A Q nL q lv' st ws ce sl) : Bt F D A Q nL pc lv (.int x :: st) ws ce sl := by
  obtain ⟨p, l, e, R, s, m, args, below, meth, c, ce0, sl0⟩ := F
  obtain ⟨hx, hb, hml, hown, hts, hlk, hK, hA, hN, hR1, hR2, hR3, hR4⟩ := C
  subst hq
  intro H locs ls hP hD hS hl
  exact lv_istore_n hx hb hd hi hl hn hl' (fun ls' hl => kk H locs ls' hP hD hS hl)
theorem e_aload_n {F : FX} {D : va_G} {cy : Nat → ClassId} {A : Nat → Prop} {Q : State → Prop} {nL pc q d MC MS ce sl : Nat} {lv : List (Nat × Value)} {st : List Value} {ws : va_W} {cc : ByteArray} {own : String} (C : Dx F D cy A cc nL own d MC MS) {k : Fin 4} {i : Nat} {x : Nat} (hd : decode cc pc = .ok (.aload_n k, 1)) (hq : pc + 1 = q) (j : Nat) (hi : (k : Nat) = i) (hj : lv[j]? = some (i, .ref x)) (kk : Bt F D A Q nL q lv (.ref x :: st) ws ce sl) : Bt F D A Q nL pc lv (st) ws ce sl := by
  obtain ⟨p, l, e, R, s, m, args, below, meth, c, ce0, sl0⟩ := F
  obtain ⟨hx, hb, hml, hown, hts, hlk, hK, hA, hN, hR1, hR2, hR3, hR4⟩ := C
  subst hq
  intro H locs ls hP hD hS hl
  exact lv_aload_n hx hb hd hi (lv_at hl j hj) (kk H locs ls hP hD hS hl)
theorem e_astore_n {F : FX} {D : va_G} {cy : Nat → ClassId} {A : Nat → Prop} {Q : State → Prop} {nL pc q d MC MS ce sl : Nat} {lv : List (Nat × Value)} {st : List Value} {ws : va_W} {cc : ByteArray} {own : String} (C : Dx F D cy A cc nL own d MC MS) {k : Fin 4} {i : Nat} {x : Nat} {lv' : List (Nat × Value)} (hd : decode cc pc = .ok (.astore_n k, 1)) (hq : pc + 1 = q) (hi : (k : Nat) = i) (hn : i < nL) (hl' : (i, Value.ref x) :: lv.filter (fun q => !(q.1 == i) && !(q.1 + 1 == i && q.2.category == 2)) = lv') (kk : Bt F D A Q nL q lv' st ws ce sl) : Bt F D A Q nL pc lv (.ref x :: st) ws ce sl := by
  obtain ⟨p, l, e, R, s, m, args, below, meth, c, ce0, sl0⟩ := F
  obtain ⟨hx, hb, hml, hown, hts, hlk, hK, hA, hN, hR1, hR2, hR3, hR4⟩ := C
  subst hq
  intro H locs ls hP hD hS hl
  exact lv_astore_n hx hb hd hi hl hn hl' (fun ls' hl => kk H locs ls' hP hD hS hl)
theorem e_iinc {F : FX} {D : va_G} {cy : Nat → ClassId} {A : Nat → Prop} {Q : State → Prop} {nL pc q d MC MS ce sl : Nat} {lv : List (Nat × Value)} {st : List Value} {ws : va_W} {cc : ByteArray} {own : String} (C : Dx F D cy A cc nL own d MC MS) {i k : Nat} {n : Int} {x v : Int32} {lv' : List (Nat × Value)} (hd : decode cc pc = .ok (.iinc i n, 3)) (hq : pc + 3 = q) (hk : lv[k]? = some (i, .int x)) (hv : x + Int32.ofInt n = v) (hn : i < nL) (hl' : (i, Value.int v) :: lv.filter (fun q => !(q.1 == i) && !(q.1 + 1 == i && q.2.category == 2)) = lv') (kk : Bt F D A Q nL q lv' st ws ce sl) : Bt F D A Q nL pc lv st ws ce sl := by
  obtain ⟨p, l, e, R, s, m, args, below, meth, c, ce0, sl0⟩ := F
  obtain ⟨hx, hb, hml, hown, hts, hlk, hK, hA, hN, hR1, hR2, hR3, hR4⟩ := C
  subst hq
  intro H locs ls hP hD hS hl
  exact lv_iinc hx hb hd hl hk hv hn hl' (fun ls' hl => kk H locs ls' hP hD hS hl)
theorem e_dup {F : FX} {D : va_G} {cy : Nat → ClassId} {A : Nat → Prop} {Q : State → Prop} {nL pc q d MC MS ce sl : Nat} {lv : List (Nat × Value)} {st : List Value} {ws : va_W} {cc : ByteArray} {own : String} (C : Dx F D cy A cc nL own d MC MS) {va : Value} (hd : decode cc pc = .ok (.dup, 1)) (hq : pc + 1 = q) (hva : va.category = 1) (kk : Bt F D A Q nL q lv (va :: va :: st) ws ce sl) : Bt F D A Q nL pc lv (va :: st) ws ce sl := by
  obtain ⟨p, l, e, R, s, m, args, below, meth, c, ce0, sl0⟩ := F
  obtain ⟨hx, hb, hml, hown, hts, hlk, hK, hA, hN, hR1, hR2, hR3, hR4⟩ := C
  subst hq
  intro H locs ls hP hD hS hl
  exact lv_dup hx hb hd hva (kk H locs ls hP hD hS hl)
theorem e_icmp_ge {F : FX} {D : va_G} {cy : Nat → ClassId} {A : Nat → Prop} {Q : State → Prop} {nL pc q d MC MS ce sl : Nat} {lv : List (Nat × Value)} {st : List Value} {ws : va_W} {cc : ByteArray} {own : String} (C : Dx F D cy A cc nL own d MC MS) {x y : Int32} {off : Int} {tgt : Nat} (hd : decode cc pc = .ok (.if_icmp .ge off, 3)) (ht : (pc : Int) + off = (tgt : Int)) (hq : pc + 3 = q) (kt : y ≤ x → Bt F D A Q nL tgt lv st ws ce sl) (kf : ¬ y ≤ x → Bt F D A Q nL q lv st ws ce sl) : Bt F D A Q nL pc lv (.int y :: .int x :: st) ws ce sl := by
  obtain ⟨p, l, e, R, s, m, args, below, meth, c, ce0, sl0⟩ := F
  obtain ⟨hx, hb, hml, hown, hts, hlk, hK, hA, hN, hR1, hR2, hR3, hR4⟩ := C
  subst hq
  intro H locs ls hP hD hS hl
  exact lv_icmp_ge hx hb hd ht (fun hc => kt hc H locs ls hP hD hS hl) (fun hc => kf hc H locs ls hP hD hS hl)
theorem e_goto {F : FX} {D : va_G} {cy : Nat → ClassId} {A : Nat → Prop} {Q : State → Prop} {nL pc q d MC MS ce sl : Nat} {lv : List (Nat × Value)} {st : List Value} {ws : va_W} {cc : ByteArray} {own : String} (C : Dx F D cy A cc nL own d MC MS) {off : Int} (hd : decode cc pc = .ok (.goto off, 3)) (ht : (pc : Int) + off = (q : Int)) (kk : Bt F D A Q nL q lv st ws ce sl) : Bt F D A Q nL pc lv st ws ce sl := by
  obtain ⟨p, l, e, R, s, m, args, below, meth, c, ce0, sl0⟩ := F
  obtain ⟨hx, hb, hml, hown, hts, hlk, hK, hA, hN, hR1, hR2, hR3, hR4⟩ := C
  intro H locs ls hP hD hS hl
  exact lv_goto hx hb hd ht (kk H locs ls hP hD hS hl)
theorem e_objInit {F : FX} {D : va_G} {cy : Nat → ClassId} {A : Nat → Prop} {Q : State → Prop} {nL pc q d MC MS ce sl : Nat} {lv : List (Nat × Value)} {st : List Value} {ws : va_W} {cc : ByteArray} {own : String} (C : Dx F D cy A cc nL own d MC MS) {idx a : Nat} (hd : decode cc pc = .ok (.invokespecial idx, 3)) (hq : pc + 3 = q) (hL : Cond.methodLink own idx objectInit ∈ wsG) (hd1 : 1 ≤ d) (hW : (st.map fun v => v.category).sum ≤ 8) (kk : Bt F D A Q nL q lv st ws ce sl) : Bt F D A Q nL pc lv (.ref a :: st) ws ce sl := by
  obtain ⟨p, l, e, R, s, m, args, below, meth, c, ce0, sl0⟩ := F
  obtain ⟨hx, hb, hml, hown, hts, hlk, hK, hA, hN, hR1, hR2, hR3, hR4⟩ := C
  subst hq
  intro H locs ls hP hD hS hl
  refine W.objInit hx hb hown (hts _ hL) (hts _ k_24) (hts _ k_25) rfl (by rw [hml]; exact hl.1) rfl hd (by omega) (by show 2 * 0 + _ + 12 ≤ _; omega) ?_
  exact W.eq rfl (kk H locs ls hP hD hS hl)
theorem e_new0 {F : FX} {D : va_G} {cy : Nat → ClassId} {A : Nat → Prop} {Q : State → Prop} {nL pc q d MC MS ce sl : Nat} {lv : List (Nat × Value)} {st : List Value} {ws : va_W} {cc : ByteArray} {own : String} (C : Dx F D cy A cc nL own d MC MS) {index : Nat} (hd : decode cc pc = .ok (.new index, 3)) (hq : pc + 3 = q) (hL : Cond.classLink own index RX0 ∈ wsG) {fs : List Value} (hfs : ∀ j, j < 5 → defaultValue (tyX0 j) = vp_V fs j) (hc1 : ce + 1 ≤ MC) (hc2 : sl + 5 ≤ MS) (kk : ∀ a, Bt F D A Q nL q lv (.ref a :: st) (ws ++ [(a, .inr (0, fs))]) (ce + 1) (sl + 5)) : Bt F D A Q nL pc lv st ws ce sl := by
  obtain ⟨p, l, e, R, s, m, args, below, meth, c, ce0, sl0⟩ := F
  obtain ⟨hx, hb, hml, hown, hts, hlk, hK, hA, hN, hR1, hR2, hR3, hR4⟩ := C
  subst hq
  intro H locs ls hP hD hS hl
  exact va_new (ci := 0) (fs := fs) (C := RX0) (T := TX0) (N := 5) hx hb hts inX0 tyX0 tyX0_ok hown (hts _ hL) (hts _ k_97) (hts _ k_4) hK hP hD hS hA rfl hfs (by omega) (by omega) hd (fun a H1 hP hD hS => kk a H1 locs ls hP hD hS hl)
theorem e_get0 {F : FX} {D : va_G} {cy : Nat → ClassId} {A : Nat → Prop} {Q : State → Prop} {nL pc q d MC MS ce sl : Nat} {lv : List (Nat × Value)} {st : List Value} {ws : va_W} {cc : ByteArray} {own : String} (C : Dx F D cy A cc nL own d MC MS) {index a : Nat} {fs : List Value} {v : Value} (hd : decode cc pc = .ok (.getfield index, 3)) (hq : pc + 3 = q) (q0 j : Nat) (hj : j < 5) (hL : Cond.fieldLink own index RX0 (TX0 j).2.1 (TX0 j).2.2.1 ∈ wsG) (he : ws[q0]? = some (a, .inr (0, fs))) (hv : fs[j]? = some v) (kk : Bt F D A Q nL q lv (v :: st) ws ce sl) : Bt F D A Q nL pc lv (.ref a :: st) ws ce sl := by
  obtain ⟨p, l, e, R, s, m, args, below, meth, c, ce0, sl0⟩ := F
  obtain ⟨hx, hb, hml, hown, hts, hlk, hK, hA, hN, hR1, hR2, hR3, hR4⟩ := C
  subst hq
  intro H locs ls hP hD hS hl
  exact va_get (D := D) (ci := 0) (C := RX0) (T := TX0) (N := 5) hx hb hts inX0 hown hK hP q0 he rfl j hj (hts _ hL) (fun _ h9 => by rcases (show j = 0 ∨ j = 1 ∨ j = 2 ∨ j = 3 ∨ j = 4 by omega) with rfl | rfl | rfl | rfl | rfl <;> exact h9) hv hd (kk H locs ls hP hD hS hl)
theorem e_put0 {F : FX} {D : va_G} {cy : Nat → ClassId} {A : Nat → Prop} {Q : State → Prop} {nL pc q d MC MS ce sl : Nat} {lv : List (Nat × Value)} {st : List Value} {ws : va_W} {cc : ByteArray} {own : String} (C : Dx F D cy A cc nL own d MC MS) {index a : Nat} {fs : List Value} {v : Value} {ws' : va_W} (hd : decode cc pc = .ok (.putfield index, 3)) (hq : pc + 3 = q) (hI : isInit F) (q0 j : Nat) (hj : j < 5) (hL : Cond.fieldLink own index RX0 (TX0 j).2.1 (TX0 j).2.2.1 ∈ wsG) (he : ws[q0]? = some (a, .inr (0, fs))) (ho : own = RX0) (hn : narrow (tyX0 j) v = v) (hfit : fits (tyX0 j) v = true) (hl2 : j < fs.length) (hw : ws.set q0 (a, .inr (0, fs.set j v)) = ws') (kk : Bt F D A Q nL q lv st ws' ce sl) : Bt F D A Q nL pc lv (v :: .ref a :: st) ws ce sl := by
  obtain ⟨p, l, e, R, s, m, args, below, meth, c, ce0, sl0⟩ := F
  obtain ⟨hx, hb, hml, hown, hts, hlk, hK, hA, hN, hR1, hR2, hR3, hR4⟩ := C
  subst hq
  intro H locs ls hP hD hS hl
  subst hw
  by_cases hfin : (TX0 j).2.2.2 = true
  · exact va_putF (D := D) (ci := 0) (v := v) (ty := tyX0 j) (C := RX0) (T := TX0) (N := 5) hx hb hts inX0 tyX0 tyX0_ok nmX0 hown hK hP hD hS q0 he rfl j hj (hts _ hL) (fun _ h9 => by rcases (show j = 0 ∨ j = 1 ∨ j = 2 ∨ j = 3 ∨ j = 4 by omega) with rfl | rfl | rfl | rfl | rfl <;> exact h9) hfin hI (by rw [ho]; rcases (show j = 0 ∨ j = 1 ∨ j = 2 ∨ j = 3 ∨ j = 4 by omega) with rfl | rfl | rfl | rfl | rfl <;> rfl) (tyX0_ok j hj) hn hfit hl2 hd (fun H1 locs1 hP1 hD1 hS1 => kk H1 locs1 ls hP1 hD1 hS1 hl)
  · exact va_put (D := D) (ci := 0) (v := v) (ty := tyX0 j) (C := RX0) (T := TX0) (N := 5) hx hb hts inX0 tyX0 tyX0_ok nmX0 hown hK hP hD hS q0 he rfl j hj (hts _ hL) (fun _ h9 => by rcases (show j = 0 ∨ j = 1 ∨ j = 2 ∨ j = 3 ∨ j = 4 by omega) with rfl | rfl | rfl | rfl | rfl <;> exact h9) (by simpa using hfin) (tyX0_ok j hj) hn hfit hl2 hd (fun H1 locs1 hP1 hD1 hS1 => kk H1 locs1 ls hP1 hD1 hS1 hl)
theorem e_new1 {F : FX} {D : va_G} {cy : Nat → ClassId} {A : Nat → Prop} {Q : State → Prop} {nL pc q d MC MS ce sl : Nat} {lv : List (Nat × Value)} {st : List Value} {ws : va_W} {cc : ByteArray} {own : String} (C : Dx F D cy A cc nL own d MC MS) {index : Nat} (hd : decode cc pc = .ok (.new index, 3)) (hq : pc + 3 = q) (hL : Cond.classLink own index RX1 ∈ wsG) {fs : List Value} (hfs : ∀ j, j < 4 → defaultValue (tyX1 j) = vp_V fs j) (hc1 : ce + 1 ≤ MC) (hc2 : sl + 4 ≤ MS) (kk : ∀ a, Bt F D A Q nL q lv (.ref a :: st) (ws ++ [(a, .inr (1, fs))]) (ce + 1) (sl + 4)) : Bt F D A Q nL pc lv st ws ce sl := by
  obtain ⟨p, l, e, R, s, m, args, below, meth, c, ce0, sl0⟩ := F
  obtain ⟨hx, hb, hml, hown, hts, hlk, hK, hA, hN, hR1, hR2, hR3, hR4⟩ := C
  subst hq
  intro H locs ls hP hD hS hl
  exact va_new (ci := 1) (fs := fs) (C := RX1) (T := TX1) (N := 4) hx hb hts inX1 tyX1 tyX1_ok hown (hts _ hL) (hts _ k_142) (hts _ k_6) hK hP hD hS hA rfl hfs (by omega) (by omega) hd (fun a H1 hP hD hS => kk a H1 locs ls hP hD hS hl)
theorem e_get1 {F : FX} {D : va_G} {cy : Nat → ClassId} {A : Nat → Prop} {Q : State → Prop} {nL pc q d MC MS ce sl : Nat} {lv : List (Nat × Value)} {st : List Value} {ws : va_W} {cc : ByteArray} {own : String} (C : Dx F D cy A cc nL own d MC MS) {index a : Nat} {fs : List Value} {v : Value} (hd : decode cc pc = .ok (.getfield index, 3)) (hq : pc + 3 = q) (q0 j : Nat) (hj : j < 4) (hL : Cond.fieldLink own index RX1 (TX1 j).2.1 (TX1 j).2.2.1 ∈ wsG) (he : ws[q0]? = some (a, .inr (1, fs))) (hv : fs[j]? = some v) (kk : Bt F D A Q nL q lv (v :: st) ws ce sl) : Bt F D A Q nL pc lv (.ref a :: st) ws ce sl := by
  obtain ⟨p, l, e, R, s, m, args, below, meth, c, ce0, sl0⟩ := F
  obtain ⟨hx, hb, hml, hown, hts, hlk, hK, hA, hN, hR1, hR2, hR3, hR4⟩ := C
  subst hq
  intro H locs ls hP hD hS hl
  exact va_get (D := D) (ci := 1) (C := RX1) (T := TX1) (N := 4) hx hb hts inX1 hown hK hP q0 he rfl j hj (hts _ hL) (fun _ h9 => by rcases (show j = 0 ∨ j = 1 ∨ j = 2 ∨ j = 3 by omega) with rfl | rfl | rfl | rfl <;> exact h9) hv hd (kk H locs ls hP hD hS hl)
theorem e_put1 {F : FX} {D : va_G} {cy : Nat → ClassId} {A : Nat → Prop} {Q : State → Prop} {nL pc q d MC MS ce sl : Nat} {lv : List (Nat × Value)} {st : List Value} {ws : va_W} {cc : ByteArray} {own : String} (C : Dx F D cy A cc nL own d MC MS) {index a : Nat} {fs : List Value} {v : Value} {ws' : va_W} (hd : decode cc pc = .ok (.putfield index, 3)) (hq : pc + 3 = q) (hI : isInit F) (q0 j : Nat) (hj : j < 4) (hL : Cond.fieldLink own index RX1 (TX1 j).2.1 (TX1 j).2.2.1 ∈ wsG) (he : ws[q0]? = some (a, .inr (1, fs))) (ho : own = RX1) (hn : narrow (tyX1 j) v = v) (hfit : fits (tyX1 j) v = true) (hl2 : j < fs.length) (hw : ws.set q0 (a, .inr (1, fs.set j v)) = ws') (kk : Bt F D A Q nL q lv st ws' ce sl) : Bt F D A Q nL pc lv (v :: .ref a :: st) ws ce sl := by
  obtain ⟨p, l, e, R, s, m, args, below, meth, c, ce0, sl0⟩ := F
  obtain ⟨hx, hb, hml, hown, hts, hlk, hK, hA, hN, hR1, hR2, hR3, hR4⟩ := C
  subst hq
  intro H locs ls hP hD hS hl
  subst hw
  by_cases hfin : (TX1 j).2.2.2 = true
  · exact va_putF (D := D) (ci := 1) (v := v) (ty := tyX1 j) (C := RX1) (T := TX1) (N := 4) hx hb hts inX1 tyX1 tyX1_ok nmX1 hown hK hP hD hS q0 he rfl j hj (hts _ hL) (fun _ h9 => by rcases (show j = 0 ∨ j = 1 ∨ j = 2 ∨ j = 3 by omega) with rfl | rfl | rfl | rfl <;> exact h9) hfin hI (by rw [ho]; rcases (show j = 0 ∨ j = 1 ∨ j = 2 ∨ j = 3 by omega) with rfl | rfl | rfl | rfl <;> rfl) (tyX1_ok j hj) hn hfit hl2 hd (fun H1 locs1 hP1 hD1 hS1 => kk H1 locs1 ls hP1 hD1 hS1 hl)
  · exact va_put (D := D) (ci := 1) (v := v) (ty := tyX1 j) (C := RX1) (T := TX1) (N := 4) hx hb hts inX1 tyX1 tyX1_ok nmX1 hown hK hP hD hS q0 he rfl j hj (hts _ hL) (fun _ h9 => by rcases (show j = 0 ∨ j = 1 ∨ j = 2 ∨ j = 3 by omega) with rfl | rfl | rfl | rfl <;> exact h9) (by simpa using hfin) (tyX1_ok j hj) hn hfit hl2 hd (fun H1 locs1 hP1 hD1 hS1 => kk H1 locs1 ls hP1 hD1 hS1 hl)
theorem e_new2 {F : FX} {D : va_G} {cy : Nat → ClassId} {A : Nat → Prop} {Q : State → Prop} {nL pc q d MC MS ce sl : Nat} {lv : List (Nat × Value)} {st : List Value} {ws : va_W} {cc : ByteArray} {own : String} (C : Dx F D cy A cc nL own d MC MS) {index : Nat} (hd : decode cc pc = .ok (.new index, 3)) (hq : pc + 3 = q) (hL : Cond.classLink own index RX2 ∈ wsG) {fs : List Value} (hfs : ∀ j, j < 4 → defaultValue (tyX2 j) = vp_V fs j) (hc1 : ce + 1 ≤ MC) (hc2 : sl + 4 ≤ MS) (kk : ∀ a, Bt F D A Q nL q lv (.ref a :: st) (ws ++ [(a, .inr (2, fs))]) (ce + 1) (sl + 4)) : Bt F D A Q nL pc lv st ws ce sl := by
  obtain ⟨p, l, e, R, s, m, args, below, meth, c, ce0, sl0⟩ := F
  obtain ⟨hx, hb, hml, hown, hts, hlk, hK, hA, hN, hR1, hR2, hR3, hR4⟩ := C
  subst hq
  intro H locs ls hP hD hS hl
  exact va_new (ci := 2) (fs := fs) (C := RX2) (T := TX2) (N := 4) hx hb hts inX2 tyX2 tyX2_ok hown (hts _ hL) (hts _ k_103) (hts _ k_5) hK hP hD hS hA rfl hfs (by omega) (by omega) hd (fun a H1 hP hD hS => kk a H1 locs ls hP hD hS hl)
theorem e_get2 {F : FX} {D : va_G} {cy : Nat → ClassId} {A : Nat → Prop} {Q : State → Prop} {nL pc q d MC MS ce sl : Nat} {lv : List (Nat × Value)} {st : List Value} {ws : va_W} {cc : ByteArray} {own : String} (C : Dx F D cy A cc nL own d MC MS) {index a : Nat} {fs : List Value} {v : Value} (hd : decode cc pc = .ok (.getfield index, 3)) (hq : pc + 3 = q) (q0 j : Nat) (hj : j < 4) (hL : Cond.fieldLink own index RX2 (TX2 j).2.1 (TX2 j).2.2.1 ∈ wsG) (he : ws[q0]? = some (a, .inr (2, fs))) (hv : fs[j]? = some v) (kk : Bt F D A Q nL q lv (v :: st) ws ce sl) : Bt F D A Q nL pc lv (.ref a :: st) ws ce sl := by
  obtain ⟨p, l, e, R, s, m, args, below, meth, c, ce0, sl0⟩ := F
  obtain ⟨hx, hb, hml, hown, hts, hlk, hK, hA, hN, hR1, hR2, hR3, hR4⟩ := C
  subst hq
  intro H locs ls hP hD hS hl
  exact va_get (D := D) (ci := 2) (C := RX2) (T := TX2) (N := 4) hx hb hts inX2 hown hK hP q0 he rfl j hj (hts _ hL) (fun _ h9 => by rcases (show j = 0 ∨ j = 1 ∨ j = 2 ∨ j = 3 by omega) with rfl | rfl | rfl | rfl <;> exact h9) hv hd (kk H locs ls hP hD hS hl)
theorem e_put2 {F : FX} {D : va_G} {cy : Nat → ClassId} {A : Nat → Prop} {Q : State → Prop} {nL pc q d MC MS ce sl : Nat} {lv : List (Nat × Value)} {st : List Value} {ws : va_W} {cc : ByteArray} {own : String} (C : Dx F D cy A cc nL own d MC MS) {index a : Nat} {fs : List Value} {v : Value} {ws' : va_W} (hd : decode cc pc = .ok (.putfield index, 3)) (hq : pc + 3 = q) (hI : isInit F) (q0 j : Nat) (hj : j < 4) (hL : Cond.fieldLink own index RX2 (TX2 j).2.1 (TX2 j).2.2.1 ∈ wsG) (he : ws[q0]? = some (a, .inr (2, fs))) (ho : own = RX2) (hn : narrow (tyX2 j) v = v) (hfit : fits (tyX2 j) v = true) (hl2 : j < fs.length) (hw : ws.set q0 (a, .inr (2, fs.set j v)) = ws') (kk : Bt F D A Q nL q lv st ws' ce sl) : Bt F D A Q nL pc lv (v :: .ref a :: st) ws ce sl := by
  obtain ⟨p, l, e, R, s, m, args, below, meth, c, ce0, sl0⟩ := F
  obtain ⟨hx, hb, hml, hown, hts, hlk, hK, hA, hN, hR1, hR2, hR3, hR4⟩ := C
  subst hq
  intro H locs ls hP hD hS hl
  subst hw
  by_cases hfin : (TX2 j).2.2.2 = true
  · exact va_putF (D := D) (ci := 2) (v := v) (ty := tyX2 j) (C := RX2) (T := TX2) (N := 4) hx hb hts inX2 tyX2 tyX2_ok nmX2 hown hK hP hD hS q0 he rfl j hj (hts _ hL) (fun _ h9 => by rcases (show j = 0 ∨ j = 1 ∨ j = 2 ∨ j = 3 by omega) with rfl | rfl | rfl | rfl <;> exact h9) hfin hI (by rw [ho]; rcases (show j = 0 ∨ j = 1 ∨ j = 2 ∨ j = 3 by omega) with rfl | rfl | rfl | rfl <;> rfl) (tyX2_ok j hj) hn hfit hl2 hd (fun H1 locs1 hP1 hD1 hS1 => kk H1 locs1 ls hP1 hD1 hS1 hl)
  · exact va_put (D := D) (ci := 2) (v := v) (ty := tyX2 j) (C := RX2) (T := TX2) (N := 4) hx hb hts inX2 tyX2 tyX2_ok nmX2 hown hK hP hD hS q0 he rfl j hj (hts _ hL) (fun _ h9 => by rcases (show j = 0 ∨ j = 1 ∨ j = 2 ∨ j = 3 by omega) with rfl | rfl | rfl | rfl <;> exact h9) (by simpa using hfin) (tyX2_ok j hj) hn hfit hl2 hd (fun H1 locs1 hP1 hD1 hS1 => kk H1 locs1 ls hP1 hD1 hS1 hl)
theorem e_new3 {F : FX} {D : va_G} {cy : Nat → ClassId} {A : Nat → Prop} {Q : State → Prop} {nL pc q d MC MS ce sl : Nat} {lv : List (Nat × Value)} {st : List Value} {ws : va_W} {cc : ByteArray} {own : String} (C : Dx F D cy A cc nL own d MC MS) {index : Nat} (hd : decode cc pc = .ok (.new index, 3)) (hq : pc + 3 = q) (hL : Cond.classLink own index RX3 ∈ wsG) {fs : List Value} (hfs : ∀ j, j < 4 → defaultValue (tyX3 j) = vp_V fs j) (hc1 : ce + 1 ≤ MC) (hc2 : sl + 4 ≤ MS) (kk : ∀ a, Bt F D A Q nL q lv (.ref a :: st) (ws ++ [(a, .inr (3, fs))]) (ce + 1) (sl + 4)) : Bt F D A Q nL pc lv st ws ce sl := by
  obtain ⟨p, l, e, R, s, m, args, below, meth, c, ce0, sl0⟩ := F
  obtain ⟨hx, hb, hml, hown, hts, hlk, hK, hA, hN, hR1, hR2, hR3, hR4⟩ := C
  subst hq
  intro H locs ls hP hD hS hl
  exact va_new (ci := 3) (fs := fs) (C := RX3) (T := TX3) (N := 4) hx hb hts inX3 tyX3 tyX3_ok hown (hts _ hL) (hts _ k_191) (hts _ k_8) hK hP hD hS hA rfl hfs (by omega) (by omega) hd (fun a H1 hP hD hS => kk a H1 locs ls hP hD hS hl)
theorem e_get3 {F : FX} {D : va_G} {cy : Nat → ClassId} {A : Nat → Prop} {Q : State → Prop} {nL pc q d MC MS ce sl : Nat} {lv : List (Nat × Value)} {st : List Value} {ws : va_W} {cc : ByteArray} {own : String} (C : Dx F D cy A cc nL own d MC MS) {index a : Nat} {fs : List Value} {v : Value} (hd : decode cc pc = .ok (.getfield index, 3)) (hq : pc + 3 = q) (q0 j : Nat) (hj : j < 4) (hL : Cond.fieldLink own index RX3 (TX3 j).2.1 (TX3 j).2.2.1 ∈ wsG) (he : ws[q0]? = some (a, .inr (3, fs))) (hv : fs[j]? = some v) (kk : Bt F D A Q nL q lv (v :: st) ws ce sl) : Bt F D A Q nL pc lv (.ref a :: st) ws ce sl := by
  obtain ⟨p, l, e, R, s, m, args, below, meth, c, ce0, sl0⟩ := F
  obtain ⟨hx, hb, hml, hown, hts, hlk, hK, hA, hN, hR1, hR2, hR3, hR4⟩ := C
  subst hq
  intro H locs ls hP hD hS hl
  exact va_get (D := D) (ci := 3) (C := RX3) (T := TX3) (N := 4) hx hb hts inX3 hown hK hP q0 he rfl j hj (hts _ hL) (fun _ h9 => by rcases (show j = 0 ∨ j = 1 ∨ j = 2 ∨ j = 3 by omega) with rfl | rfl | rfl | rfl <;> exact h9) hv hd (kk H locs ls hP hD hS hl)
theorem e_put3 {F : FX} {D : va_G} {cy : Nat → ClassId} {A : Nat → Prop} {Q : State → Prop} {nL pc q d MC MS ce sl : Nat} {lv : List (Nat × Value)} {st : List Value} {ws : va_W} {cc : ByteArray} {own : String} (C : Dx F D cy A cc nL own d MC MS) {index a : Nat} {fs : List Value} {v : Value} {ws' : va_W} (hd : decode cc pc = .ok (.putfield index, 3)) (hq : pc + 3 = q) (hI : isInit F) (q0 j : Nat) (hj : j < 4) (hL : Cond.fieldLink own index RX3 (TX3 j).2.1 (TX3 j).2.2.1 ∈ wsG) (he : ws[q0]? = some (a, .inr (3, fs))) (ho : own = RX3) (hn : narrow (tyX3 j) v = v) (hfit : fits (tyX3 j) v = true) (hl2 : j < fs.length) (hw : ws.set q0 (a, .inr (3, fs.set j v)) = ws') (kk : Bt F D A Q nL q lv st ws' ce sl) : Bt F D A Q nL pc lv (v :: .ref a :: st) ws ce sl := by
  obtain ⟨p, l, e, R, s, m, args, below, meth, c, ce0, sl0⟩ := F
  obtain ⟨hx, hb, hml, hown, hts, hlk, hK, hA, hN, hR1, hR2, hR3, hR4⟩ := C
  subst hq
  intro H locs ls hP hD hS hl
  subst hw
  by_cases hfin : (TX3 j).2.2.2 = true
  · exact va_putF (D := D) (ci := 3) (v := v) (ty := tyX3 j) (C := RX3) (T := TX3) (N := 4) hx hb hts inX3 tyX3 tyX3_ok nmX3 hown hK hP hD hS q0 he rfl j hj (hts _ hL) (fun _ h9 => by rcases (show j = 0 ∨ j = 1 ∨ j = 2 ∨ j = 3 by omega) with rfl | rfl | rfl | rfl <;> exact h9) hfin hI (by rw [ho]; rcases (show j = 0 ∨ j = 1 ∨ j = 2 ∨ j = 3 by omega) with rfl | rfl | rfl | rfl <;> rfl) (tyX3_ok j hj) hn hfit hl2 hd (fun H1 locs1 hP1 hD1 hS1 => kk H1 locs1 ls hP1 hD1 hS1 hl)
  · exact va_put (D := D) (ci := 3) (v := v) (ty := tyX3 j) (C := RX3) (T := TX3) (N := 4) hx hb hts inX3 tyX3 tyX3_ok nmX3 hown hK hP hD hS q0 he rfl j hj (hts _ hL) (fun _ h9 => by rcases (show j = 0 ∨ j = 1 ∨ j = 2 ∨ j = 3 by omega) with rfl | rfl | rfl | rfl <;> exact h9) (by simpa using hfin) (tyX3_ok j hj) hn hfit hl2 hd (fun H1 locs1 hP1 hD1 hS1 => kk H1 locs1 ls hP1 hD1 hS1 hl)
theorem e_new4 {F : FX} {D : va_G} {cy : Nat → ClassId} {A : Nat → Prop} {Q : State → Prop} {nL pc q d MC MS ce sl : Nat} {lv : List (Nat × Value)} {st : List Value} {ws : va_W} {cc : ByteArray} {own : String} (C : Dx F D cy A cc nL own d MC MS) {index : Nat} (hd : decode cc pc = .ok (.new index, 3)) (hq : pc + 3 = q) (hL : Cond.classLink own index RX4 ∈ wsG) {fs : List Value} (hfs : ∀ j, j < 5 → defaultValue (tyX4 j) = vp_V fs j) (hc1 : ce + 1 ≤ MC) (hc2 : sl + 5 ≤ MS) (kk : ∀ a, Bt F D A Q nL q lv (.ref a :: st) (ws ++ [(a, .inr (4, fs))]) (ce + 1) (sl + 5)) : Bt F D A Q nL pc lv st ws ce sl := by
  obtain ⟨p, l, e, R, s, m, args, below, meth, c, ce0, sl0⟩ := F
  obtain ⟨hx, hb, hml, hown, hts, hlk, hK, hA, hN, hR1, hR2, hR3, hR4⟩ := C
  subst hq
  intro H locs ls hP hD hS hl
  exact va_new (ci := 4) (fs := fs) (C := RX4) (T := TX4) (N := 5) hx hb hts inX4 tyX4 tyX4_ok hown (hts _ hL) (hts _ k_163) (hts _ k_7) hK hP hD hS hA rfl hfs (by omega) (by omega) hd (fun a H1 hP hD hS => kk a H1 locs ls hP hD hS hl)
theorem e_get4 {F : FX} {D : va_G} {cy : Nat → ClassId} {A : Nat → Prop} {Q : State → Prop} {nL pc q d MC MS ce sl : Nat} {lv : List (Nat × Value)} {st : List Value} {ws : va_W} {cc : ByteArray} {own : String} (C : Dx F D cy A cc nL own d MC MS) {index a : Nat} {fs : List Value} {v : Value} (hd : decode cc pc = .ok (.getfield index, 3)) (hq : pc + 3 = q) (q0 j : Nat) (hj : j < 5) (hL : Cond.fieldLink own index RX4 (TX4 j).2.1 (TX4 j).2.2.1 ∈ wsG) (he : ws[q0]? = some (a, .inr (4, fs))) (hv : fs[j]? = some v) (kk : Bt F D A Q nL q lv (v :: st) ws ce sl) : Bt F D A Q nL pc lv (.ref a :: st) ws ce sl := by
  obtain ⟨p, l, e, R, s, m, args, below, meth, c, ce0, sl0⟩ := F
  obtain ⟨hx, hb, hml, hown, hts, hlk, hK, hA, hN, hR1, hR2, hR3, hR4⟩ := C
  subst hq
  intro H locs ls hP hD hS hl
  exact va_get (D := D) (ci := 4) (C := RX4) (T := TX4) (N := 5) hx hb hts inX4 hown hK hP q0 he rfl j hj (hts _ hL) (fun _ h9 => by rcases (show j = 0 ∨ j = 1 ∨ j = 2 ∨ j = 3 ∨ j = 4 by omega) with rfl | rfl | rfl | rfl | rfl <;> exact h9) hv hd (kk H locs ls hP hD hS hl)
theorem e_put4 {F : FX} {D : va_G} {cy : Nat → ClassId} {A : Nat → Prop} {Q : State → Prop} {nL pc q d MC MS ce sl : Nat} {lv : List (Nat × Value)} {st : List Value} {ws : va_W} {cc : ByteArray} {own : String} (C : Dx F D cy A cc nL own d MC MS) {index a : Nat} {fs : List Value} {v : Value} {ws' : va_W} (hd : decode cc pc = .ok (.putfield index, 3)) (hq : pc + 3 = q) (hI : isInit F) (q0 j : Nat) (hj : j < 5) (hL : Cond.fieldLink own index RX4 (TX4 j).2.1 (TX4 j).2.2.1 ∈ wsG) (he : ws[q0]? = some (a, .inr (4, fs))) (ho : own = RX4) (hn : narrow (tyX4 j) v = v) (hfit : fits (tyX4 j) v = true) (hl2 : j < fs.length) (hw : ws.set q0 (a, .inr (4, fs.set j v)) = ws') (kk : Bt F D A Q nL q lv st ws' ce sl) : Bt F D A Q nL pc lv (v :: .ref a :: st) ws ce sl := by
  obtain ⟨p, l, e, R, s, m, args, below, meth, c, ce0, sl0⟩ := F
  obtain ⟨hx, hb, hml, hown, hts, hlk, hK, hA, hN, hR1, hR2, hR3, hR4⟩ := C
  subst hq
  intro H locs ls hP hD hS hl
  subst hw
  by_cases hfin : (TX4 j).2.2.2 = true
  · exact va_putF (D := D) (ci := 4) (v := v) (ty := tyX4 j) (C := RX4) (T := TX4) (N := 5) hx hb hts inX4 tyX4 tyX4_ok nmX4 hown hK hP hD hS q0 he rfl j hj (hts _ hL) (fun _ h9 => by rcases (show j = 0 ∨ j = 1 ∨ j = 2 ∨ j = 3 ∨ j = 4 by omega) with rfl | rfl | rfl | rfl | rfl <;> exact h9) hfin hI (by rw [ho]; rcases (show j = 0 ∨ j = 1 ∨ j = 2 ∨ j = 3 ∨ j = 4 by omega) with rfl | rfl | rfl | rfl | rfl <;> rfl) (tyX4_ok j hj) hn hfit hl2 hd (fun H1 locs1 hP1 hD1 hS1 => kk H1 locs1 ls hP1 hD1 hS1 hl)
  · exact va_put (D := D) (ci := 4) (v := v) (ty := tyX4 j) (C := RX4) (T := TX4) (N := 5) hx hb hts inX4 tyX4 tyX4_ok nmX4 hown hK hP hD hS q0 he rfl j hj (hts _ hL) (fun _ h9 => by rcases (show j = 0 ∨ j = 1 ∨ j = 2 ∨ j = 3 ∨ j = 4 by omega) with rfl | rfl | rfl | rfl | rfl <;> exact h9) (by simpa using hfin) (tyX4_ok j hj) hn hfit hl2 hd (fun H1 locs1 hP1 hD1 hS1 => kk H1 locs1 ls hP1 hD1 hS1 hl)
theorem e_new5 {F : FX} {D : va_G} {cy : Nat → ClassId} {A : Nat → Prop} {Q : State → Prop} {nL pc q d MC MS ce sl : Nat} {lv : List (Nat × Value)} {st : List Value} {ws : va_W} {cc : ByteArray} {own : String} (C : Dx F D cy A cc nL own d MC MS) {index : Nat} (hd : decode cc pc = .ok (.new index, 3)) (hq : pc + 3 = q) (hL : Cond.classLink own index RX5 ∈ wsG) {fs : List Value} (hfs : ∀ j, j < 5 → defaultValue (tyX5 j) = vp_V fs j) (hc1 : ce + 1 ≤ MC) (hc2 : sl + 5 ≤ MS) (kk : ∀ a, Bt F D A Q nL q lv (.ref a :: st) (ws ++ [(a, .inr (5, fs))]) (ce + 1) (sl + 5)) : Bt F D A Q nL pc lv st ws ce sl := by
  obtain ⟨p, l, e, R, s, m, args, below, meth, c, ce0, sl0⟩ := F
  obtain ⟨hx, hb, hml, hown, hts, hlk, hK, hA, hN, hR1, hR2, hR3, hR4⟩ := C
  subst hq
  intro H locs ls hP hD hS hl
  exact va_new (ci := 5) (fs := fs) (C := RX5) (T := TX5) (N := 5) hx hb hts inX5 tyX5 tyX5_ok hown (hts _ hL) (hts _ k_71) (hts _ k_3) hK hP hD hS hA rfl hfs (by omega) (by omega) hd (fun a H1 hP hD hS => kk a H1 locs ls hP hD hS hl)
theorem e_get5 {F : FX} {D : va_G} {cy : Nat → ClassId} {A : Nat → Prop} {Q : State → Prop} {nL pc q d MC MS ce sl : Nat} {lv : List (Nat × Value)} {st : List Value} {ws : va_W} {cc : ByteArray} {own : String} (C : Dx F D cy A cc nL own d MC MS) {index a : Nat} {fs : List Value} {v : Value} (hd : decode cc pc = .ok (.getfield index, 3)) (hq : pc + 3 = q) (q0 j : Nat) (hj : j < 5) (hL : Cond.fieldLink own index RX5 (TX5 j).2.1 (TX5 j).2.2.1 ∈ wsG) (he : ws[q0]? = some (a, .inr (5, fs))) (hv : fs[j]? = some v) (kk : Bt F D A Q nL q lv (v :: st) ws ce sl) : Bt F D A Q nL pc lv (.ref a :: st) ws ce sl := by
  obtain ⟨p, l, e, R, s, m, args, below, meth, c, ce0, sl0⟩ := F
  obtain ⟨hx, hb, hml, hown, hts, hlk, hK, hA, hN, hR1, hR2, hR3, hR4⟩ := C
  subst hq
  intro H locs ls hP hD hS hl
  exact va_get (D := D) (ci := 5) (C := RX5) (T := TX5) (N := 5) hx hb hts inX5 hown hK hP q0 he rfl j hj (hts _ hL) (fun _ h9 => by rcases (show j = 0 ∨ j = 1 ∨ j = 2 ∨ j = 3 ∨ j = 4 by omega) with rfl | rfl | rfl | rfl | rfl <;> exact h9) hv hd (kk H locs ls hP hD hS hl)
theorem e_put5 {F : FX} {D : va_G} {cy : Nat → ClassId} {A : Nat → Prop} {Q : State → Prop} {nL pc q d MC MS ce sl : Nat} {lv : List (Nat × Value)} {st : List Value} {ws : va_W} {cc : ByteArray} {own : String} (C : Dx F D cy A cc nL own d MC MS) {index a : Nat} {fs : List Value} {v : Value} {ws' : va_W} (hd : decode cc pc = .ok (.putfield index, 3)) (hq : pc + 3 = q) (hI : isInit F) (q0 j : Nat) (hj : j < 5) (hL : Cond.fieldLink own index RX5 (TX5 j).2.1 (TX5 j).2.2.1 ∈ wsG) (he : ws[q0]? = some (a, .inr (5, fs))) (ho : own = RX5) (hn : narrow (tyX5 j) v = v) (hfit : fits (tyX5 j) v = true) (hl2 : j < fs.length) (hw : ws.set q0 (a, .inr (5, fs.set j v)) = ws') (kk : Bt F D A Q nL q lv st ws' ce sl) : Bt F D A Q nL pc lv (v :: .ref a :: st) ws ce sl := by
  obtain ⟨p, l, e, R, s, m, args, below, meth, c, ce0, sl0⟩ := F
  obtain ⟨hx, hb, hml, hown, hts, hlk, hK, hA, hN, hR1, hR2, hR3, hR4⟩ := C
  subst hq
  intro H locs ls hP hD hS hl
  subst hw
  by_cases hfin : (TX5 j).2.2.2 = true
  · exact va_putF (D := D) (ci := 5) (v := v) (ty := tyX5 j) (C := RX5) (T := TX5) (N := 5) hx hb hts inX5 tyX5 tyX5_ok nmX5 hown hK hP hD hS q0 he rfl j hj (hts _ hL) (fun _ h9 => by rcases (show j = 0 ∨ j = 1 ∨ j = 2 ∨ j = 3 ∨ j = 4 by omega) with rfl | rfl | rfl | rfl | rfl <;> exact h9) hfin hI (by rw [ho]; rcases (show j = 0 ∨ j = 1 ∨ j = 2 ∨ j = 3 ∨ j = 4 by omega) with rfl | rfl | rfl | rfl | rfl <;> rfl) (tyX5_ok j hj) hn hfit hl2 hd (fun H1 locs1 hP1 hD1 hS1 => kk H1 locs1 ls hP1 hD1 hS1 hl)
  · exact va_put (D := D) (ci := 5) (v := v) (ty := tyX5 j) (C := RX5) (T := TX5) (N := 5) hx hb hts inX5 tyX5 tyX5_ok nmX5 hown hK hP hD hS q0 he rfl j hj (hts _ hL) (fun _ h9 => by rcases (show j = 0 ∨ j = 1 ∨ j = 2 ∨ j = 3 ∨ j = 4 by omega) with rfl | rfl | rfl | rfl | rfl <;> exact h9) (by simpa using hfin) (tyX5_ok j hj) hn hfit hl2 hd (fun H1 locs1 hP1 hD1 hS1 => kk H1 locs1 ls hP1 hD1 hS1 hl)
theorem e_new6 {F : FX} {D : va_G} {cy : Nat → ClassId} {A : Nat → Prop} {Q : State → Prop} {nL pc q d MC MS ce sl : Nat} {lv : List (Nat × Value)} {st : List Value} {ws : va_W} {cc : ByteArray} {own : String} (C : Dx F D cy A cc nL own d MC MS) {index : Nat} (hd : decode cc pc = .ok (.new index, 3)) (hq : pc + 3 = q) (hL : Cond.classLink own index RX6 ∈ wsG) {fs : List Value} (hfs : ∀ j, j < 8 → defaultValue (tyX6 j) = vp_V fs j) (hc1 : ce + 1 ≤ MC) (hc2 : sl + 8 ≤ MS) (kk : ∀ a, Bt F D A Q nL q lv (.ref a :: st) (ws ++ [(a, .inr (6, fs))]) (ce + 1) (sl + 8)) : Bt F D A Q nL pc lv st ws ce sl := by
  obtain ⟨p, l, e, R, s, m, args, below, meth, c, ce0, sl0⟩ := F
  obtain ⟨hx, hb, hml, hown, hts, hlk, hK, hA, hN, hR1, hR2, hR3, hR4⟩ := C
  subst hq
  intro H locs ls hP hD hS hl
  exact va_new (ci := 6) (fs := fs) (C := RX6) (T := TX6) (N := 8) hx hb hts inX6 tyX6 tyX6_ok hown (hts _ hL) (hts _ k_27) (hts _ k_2) hK hP hD hS hA rfl hfs (by omega) (by omega) hd (fun a H1 hP hD hS => kk a H1 locs ls hP hD hS hl)
theorem e_get6 {F : FX} {D : va_G} {cy : Nat → ClassId} {A : Nat → Prop} {Q : State → Prop} {nL pc q d MC MS ce sl : Nat} {lv : List (Nat × Value)} {st : List Value} {ws : va_W} {cc : ByteArray} {own : String} (C : Dx F D cy A cc nL own d MC MS) {index a : Nat} {fs : List Value} {v : Value} (hd : decode cc pc = .ok (.getfield index, 3)) (hq : pc + 3 = q) (q0 j : Nat) (hj : j < 8) (hL : Cond.fieldLink own index RX6 (TX6 j).2.1 (TX6 j).2.2.1 ∈ wsG) (he : ws[q0]? = some (a, .inr (6, fs))) (hv : fs[j]? = some v) (kk : Bt F D A Q nL q lv (v :: st) ws ce sl) : Bt F D A Q nL pc lv (.ref a :: st) ws ce sl := by
  obtain ⟨p, l, e, R, s, m, args, below, meth, c, ce0, sl0⟩ := F
  obtain ⟨hx, hb, hml, hown, hts, hlk, hK, hA, hN, hR1, hR2, hR3, hR4⟩ := C
  subst hq
  intro H locs ls hP hD hS hl
  exact va_get (D := D) (ci := 6) (C := RX6) (T := TX6) (N := 8) hx hb hts inX6 hown hK hP q0 he rfl j hj (hts _ hL) (fun _ h9 => by rcases (show j = 0 ∨ j = 1 ∨ j = 2 ∨ j = 3 ∨ j = 4 ∨ j = 5 ∨ j = 6 ∨ j = 7 by omega) with rfl | rfl | rfl | rfl | rfl | rfl | rfl | rfl <;> exact h9) hv hd (kk H locs ls hP hD hS hl)
theorem e_put6 {F : FX} {D : va_G} {cy : Nat → ClassId} {A : Nat → Prop} {Q : State → Prop} {nL pc q d MC MS ce sl : Nat} {lv : List (Nat × Value)} {st : List Value} {ws : va_W} {cc : ByteArray} {own : String} (C : Dx F D cy A cc nL own d MC MS) {index a : Nat} {fs : List Value} {v : Value} {ws' : va_W} (hd : decode cc pc = .ok (.putfield index, 3)) (hq : pc + 3 = q) (hI : isInit F) (q0 j : Nat) (hj : j < 8) (hL : Cond.fieldLink own index RX6 (TX6 j).2.1 (TX6 j).2.2.1 ∈ wsG) (he : ws[q0]? = some (a, .inr (6, fs))) (ho : own = RX6) (hn : narrow (tyX6 j) v = v) (hfit : fits (tyX6 j) v = true) (hl2 : j < fs.length) (hw : ws.set q0 (a, .inr (6, fs.set j v)) = ws') (kk : Bt F D A Q nL q lv st ws' ce sl) : Bt F D A Q nL pc lv (v :: .ref a :: st) ws ce sl := by
  obtain ⟨p, l, e, R, s, m, args, below, meth, c, ce0, sl0⟩ := F
  obtain ⟨hx, hb, hml, hown, hts, hlk, hK, hA, hN, hR1, hR2, hR3, hR4⟩ := C
  subst hq
  intro H locs ls hP hD hS hl
  subst hw
  by_cases hfin : (TX6 j).2.2.2 = true
  · exact va_putF (D := D) (ci := 6) (v := v) (ty := tyX6 j) (C := RX6) (T := TX6) (N := 8) hx hb hts inX6 tyX6 tyX6_ok nmX6 hown hK hP hD hS q0 he rfl j hj (hts _ hL) (fun _ h9 => by rcases (show j = 0 ∨ j = 1 ∨ j = 2 ∨ j = 3 ∨ j = 4 ∨ j = 5 ∨ j = 6 ∨ j = 7 by omega) with rfl | rfl | rfl | rfl | rfl | rfl | rfl | rfl <;> exact h9) hfin hI (by rw [ho]; rcases (show j = 0 ∨ j = 1 ∨ j = 2 ∨ j = 3 ∨ j = 4 ∨ j = 5 ∨ j = 6 ∨ j = 7 by omega) with rfl | rfl | rfl | rfl | rfl | rfl | rfl | rfl <;> rfl) (tyX6_ok j hj) hn hfit hl2 hd (fun H1 locs1 hP1 hD1 hS1 => kk H1 locs1 ls hP1 hD1 hS1 hl)
  · exact va_put (D := D) (ci := 6) (v := v) (ty := tyX6 j) (C := RX6) (T := TX6) (N := 8) hx hb hts inX6 tyX6 tyX6_ok nmX6 hown hK hP hD hS q0 he rfl j hj (hts _ hL) (fun _ h9 => by rcases (show j = 0 ∨ j = 1 ∨ j = 2 ∨ j = 3 ∨ j = 4 ∨ j = 5 ∨ j = 6 ∨ j = 7 by omega) with rfl | rfl | rfl | rfl | rfl | rfl | rfl | rfl <;> exact h9) (by simpa using hfin) (tyX6_ok j hj) hn hfit hl2 hd (fun H1 locs1 hP1 hD1 hS1 => kk H1 locs1 ls hP1 hD1 hS1 hl)
theorem e_new7 {F : FX} {D : va_G} {cy : Nat → ClassId} {A : Nat → Prop} {Q : State → Prop} {nL pc q d MC MS ce sl : Nat} {lv : List (Nat × Value)} {st : List Value} {ws : va_W} {cc : ByteArray} {own : String} (C : Dx F D cy A cc nL own d MC MS) {index : Nat} (hd : decode cc pc = .ok (.new index, 3)) (hq : pc + 3 = q) (hL : Cond.classLink own index RX7 ∈ wsG) {fs : List Value} (hfs : ∀ j, j < 10 → defaultValue (tyX7 j) = vp_V fs j) (hc1 : ce + 1 ≤ MC) (hc2 : sl + 10 ≤ MS) (kk : ∀ a, Bt F D A Q nL q lv (.ref a :: st) (ws ++ [(a, .inr (7, fs))]) (ce + 1) (sl + 10)) : Bt F D A Q nL pc lv st ws ce sl := by
  obtain ⟨p, l, e, R, s, m, args, below, meth, c, ce0, sl0⟩ := F
  obtain ⟨hx, hb, hml, hown, hts, hlk, hK, hA, hN, hR1, hR2, hR3, hR4⟩ := C
  subst hq
  intro H locs ls hP hD hS hl
  exact va_new (ci := 7) (fs := fs) (C := RX7) (T := TX7) (N := 10) hx hb hts inX7 tyX7 tyX7_ok hown (hts _ hL) (hts _ k_19) (hts _ k_1) hK hP hD hS hA rfl hfs (by omega) (by omega) hd (fun a H1 hP hD hS => kk a H1 locs ls hP hD hS hl)
theorem e_get7 {F : FX} {D : va_G} {cy : Nat → ClassId} {A : Nat → Prop} {Q : State → Prop} {nL pc q d MC MS ce sl : Nat} {lv : List (Nat × Value)} {st : List Value} {ws : va_W} {cc : ByteArray} {own : String} (C : Dx F D cy A cc nL own d MC MS) {index a : Nat} {fs : List Value} {v : Value} (hd : decode cc pc = .ok (.getfield index, 3)) (hq : pc + 3 = q) (q0 j : Nat) (hj : j < 10) (hL : Cond.fieldLink own index RX7 (TX7 j).2.1 (TX7 j).2.2.1 ∈ wsG) (he : ws[q0]? = some (a, .inr (7, fs))) (hv : fs[j]? = some v) (kk : Bt F D A Q nL q lv (v :: st) ws ce sl) : Bt F D A Q nL pc lv (.ref a :: st) ws ce sl := by
  obtain ⟨p, l, e, R, s, m, args, below, meth, c, ce0, sl0⟩ := F
  obtain ⟨hx, hb, hml, hown, hts, hlk, hK, hA, hN, hR1, hR2, hR3, hR4⟩ := C
  subst hq
  intro H locs ls hP hD hS hl
  exact va_get (D := D) (ci := 7) (C := RX7) (T := TX7) (N := 10) hx hb hts inX7 hown hK hP q0 he rfl j hj (hts _ hL) (fun _ h9 => by rcases (show j = 0 ∨ j = 1 ∨ j = 2 ∨ j = 3 ∨ j = 4 ∨ j = 5 ∨ j = 6 ∨ j = 7 ∨ j = 8 ∨ j = 9 by omega) with rfl | rfl | rfl | rfl | rfl | rfl | rfl | rfl | rfl | rfl <;> exact h9) hv hd (kk H locs ls hP hD hS hl)
theorem e_put7 {F : FX} {D : va_G} {cy : Nat → ClassId} {A : Nat → Prop} {Q : State → Prop} {nL pc q d MC MS ce sl : Nat} {lv : List (Nat × Value)} {st : List Value} {ws : va_W} {cc : ByteArray} {own : String} (C : Dx F D cy A cc nL own d MC MS) {index a : Nat} {fs : List Value} {v : Value} {ws' : va_W} (hd : decode cc pc = .ok (.putfield index, 3)) (hq : pc + 3 = q) (hI : isInit F) (q0 j : Nat) (hj : j < 10) (hL : Cond.fieldLink own index RX7 (TX7 j).2.1 (TX7 j).2.2.1 ∈ wsG) (he : ws[q0]? = some (a, .inr (7, fs))) (ho : own = RX7) (hn : narrow (tyX7 j) v = v) (hfit : fits (tyX7 j) v = true) (hl2 : j < fs.length) (hw : ws.set q0 (a, .inr (7, fs.set j v)) = ws') (kk : Bt F D A Q nL q lv st ws' ce sl) : Bt F D A Q nL pc lv (v :: .ref a :: st) ws ce sl := by
  obtain ⟨p, l, e, R, s, m, args, below, meth, c, ce0, sl0⟩ := F
  obtain ⟨hx, hb, hml, hown, hts, hlk, hK, hA, hN, hR1, hR2, hR3, hR4⟩ := C
  subst hq
  intro H locs ls hP hD hS hl
  subst hw
  by_cases hfin : (TX7 j).2.2.2 = true
  · exact va_putF (D := D) (ci := 7) (v := v) (ty := tyX7 j) (C := RX7) (T := TX7) (N := 10) hx hb hts inX7 tyX7 tyX7_ok nmX7 hown hK hP hD hS q0 he rfl j hj (hts _ hL) (fun _ h9 => by rcases (show j = 0 ∨ j = 1 ∨ j = 2 ∨ j = 3 ∨ j = 4 ∨ j = 5 ∨ j = 6 ∨ j = 7 ∨ j = 8 ∨ j = 9 by omega) with rfl | rfl | rfl | rfl | rfl | rfl | rfl | rfl | rfl | rfl <;> exact h9) hfin hI (by rw [ho]; rcases (show j = 0 ∨ j = 1 ∨ j = 2 ∨ j = 3 ∨ j = 4 ∨ j = 5 ∨ j = 6 ∨ j = 7 ∨ j = 8 ∨ j = 9 by omega) with rfl | rfl | rfl | rfl | rfl | rfl | rfl | rfl | rfl | rfl <;> rfl) (tyX7_ok j hj) hn hfit hl2 hd (fun H1 locs1 hP1 hD1 hS1 => kk H1 locs1 ls hP1 hD1 hS1 hl)
  · exact va_put (D := D) (ci := 7) (v := v) (ty := tyX7 j) (C := RX7) (T := TX7) (N := 10) hx hb hts inX7 tyX7 tyX7_ok nmX7 hown hK hP hD hS q0 he rfl j hj (hts _ hL) (fun _ h9 => by rcases (show j = 0 ∨ j = 1 ∨ j = 2 ∨ j = 3 ∨ j = 4 ∨ j = 5 ∨ j = 6 ∨ j = 7 ∨ j = 8 ∨ j = 9 by omega) with rfl | rfl | rfl | rfl | rfl | rfl | rfl | rfl | rfl | rfl <;> exact h9) (by simpa using hfin) (tyX7_ok j hj) hn hfit hl2 hd (fun H1 locs1 hP1 hD1 hS1 => kk H1 locs1 ls hP1 hD1 hS1 hl)
theorem e_new8 {F : FX} {D : va_G} {cy : Nat → ClassId} {A : Nat → Prop} {Q : State → Prop} {nL pc q d MC MS ce sl : Nat} {lv : List (Nat × Value)} {st : List Value} {ws : va_W} {cc : ByteArray} {own : String} (C : Dx F D cy A cc nL own d MC MS) {index : Nat} (hd : decode cc pc = .ok (.new index, 3)) (hq : pc + 3 = q) (hL : Cond.classLink own index RX8 ∈ wsG) {fs : List Value} (hfs : ∀ j, j < 35 → defaultValue (tyX8 j) = vp_V fs j) (hc1 : ce + 1 ≤ MC) (hc2 : sl + 35 ≤ MS) (kk : ∀ a, Bt F D A Q nL q lv (.ref a :: st) (ws ++ [(a, .inr (8, fs))]) (ce + 1) (sl + 35)) : Bt F D A Q nL pc lv st ws ce sl := by
  obtain ⟨p, l, e, R, s, m, args, below, meth, c, ce0, sl0⟩ := F
  obtain ⟨hx, hb, hml, hown, hts, hlk, hK, hA, hN, hR1, hR2, hR3, hR4⟩ := C
  subst hq
  intro H locs ls hP hD hS hl
  exact va_new (ci := 8) (fs := fs) (C := RX8) (T := TX8) (N := 35) hx hb hts inX8 tyX8 tyX8_ok hown (hts _ hL) (hts _ k_763) (hts _ k_9) hK hP hD hS hA rfl hfs (by omega) (by omega) hd (fun a H1 hP hD hS => kk a H1 locs ls hP hD hS hl)
theorem e_get8 {F : FX} {D : va_G} {cy : Nat → ClassId} {A : Nat → Prop} {Q : State → Prop} {nL pc q d MC MS ce sl : Nat} {lv : List (Nat × Value)} {st : List Value} {ws : va_W} {cc : ByteArray} {own : String} (C : Dx F D cy A cc nL own d MC MS) {index a : Nat} {fs : List Value} {v : Value} (hd : decode cc pc = .ok (.getfield index, 3)) (hq : pc + 3 = q) (q0 j : Nat) (hj : j < 35) (hL : Cond.fieldLink own index RX8 (TX8 j).2.1 (TX8 j).2.2.1 ∈ wsG) (he : ws[q0]? = some (a, .inr (8, fs))) (hv : fs[j]? = some v) (kk : Bt F D A Q nL q lv (v :: st) ws ce sl) : Bt F D A Q nL pc lv (.ref a :: st) ws ce sl := by
  obtain ⟨p, l, e, R, s, m, args, below, meth, c, ce0, sl0⟩ := F
  obtain ⟨hx, hb, hml, hown, hts, hlk, hK, hA, hN, hR1, hR2, hR3, hR4⟩ := C
  subst hq
  intro H locs ls hP hD hS hl
  exact va_get (D := D) (ci := 8) (C := RX8) (T := TX8) (N := 35) hx hb hts inX8 hown hK hP q0 he rfl j hj (hts _ hL) (fun _ h9 => by rcases (show j = 0 ∨ j = 1 ∨ j = 2 ∨ j = 3 ∨ j = 4 ∨ j = 5 ∨ j = 6 ∨ j = 7 ∨ j = 8 ∨ j = 9 ∨ j = 10 ∨ j = 11 ∨ j = 12 ∨ j = 13 ∨ j = 14 ∨ j = 15 ∨ j = 16 ∨ j = 17 ∨ j = 18 ∨ j = 19 ∨ j = 20 ∨ j = 21 ∨ j = 22 ∨ j = 23 ∨ j = 24 ∨ j = 25 ∨ j = 26 ∨ j = 27 ∨ j = 28 ∨ j = 29 ∨ j = 30 ∨ j = 31 ∨ j = 32 ∨ j = 33 ∨ j = 34 by omega) with rfl | rfl | rfl | rfl | rfl | rfl | rfl | rfl | rfl | rfl | rfl | rfl | rfl | rfl | rfl | rfl | rfl | rfl | rfl | rfl | rfl | rfl | rfl | rfl | rfl | rfl | rfl | rfl | rfl | rfl | rfl | rfl | rfl | rfl | rfl <;> exact h9) hv hd (kk H locs ls hP hD hS hl)
theorem e_put8 {F : FX} {D : va_G} {cy : Nat → ClassId} {A : Nat → Prop} {Q : State → Prop} {nL pc q d MC MS ce sl : Nat} {lv : List (Nat × Value)} {st : List Value} {ws : va_W} {cc : ByteArray} {own : String} (C : Dx F D cy A cc nL own d MC MS) {index a : Nat} {fs : List Value} {v : Value} {ws' : va_W} (hd : decode cc pc = .ok (.putfield index, 3)) (hq : pc + 3 = q) (hI : isInit F) (q0 j : Nat) (hj : j < 35) (hL : Cond.fieldLink own index RX8 (TX8 j).2.1 (TX8 j).2.2.1 ∈ wsG) (he : ws[q0]? = some (a, .inr (8, fs))) (ho : own = RX8) (hn : narrow (tyX8 j) v = v) (hfit : fits (tyX8 j) v = true) (hl2 : j < fs.length) (hw : ws.set q0 (a, .inr (8, fs.set j v)) = ws') (kk : Bt F D A Q nL q lv st ws' ce sl) : Bt F D A Q nL pc lv (v :: .ref a :: st) ws ce sl := by
  obtain ⟨p, l, e, R, s, m, args, below, meth, c, ce0, sl0⟩ := F
  obtain ⟨hx, hb, hml, hown, hts, hlk, hK, hA, hN, hR1, hR2, hR3, hR4⟩ := C
  subst hq
  intro H locs ls hP hD hS hl
  subst hw
  by_cases hfin : (TX8 j).2.2.2 = true
  · exact va_putF (D := D) (ci := 8) (v := v) (ty := tyX8 j) (C := RX8) (T := TX8) (N := 35) hx hb hts inX8 tyX8 tyX8_ok nmX8 hown hK hP hD hS q0 he rfl j hj (hts _ hL) (fun _ h9 => by rcases (show j = 0 ∨ j = 1 ∨ j = 2 ∨ j = 3 ∨ j = 4 ∨ j = 5 ∨ j = 6 ∨ j = 7 ∨ j = 8 ∨ j = 9 ∨ j = 10 ∨ j = 11 ∨ j = 12 ∨ j = 13 ∨ j = 14 ∨ j = 15 ∨ j = 16 ∨ j = 17 ∨ j = 18 ∨ j = 19 ∨ j = 20 ∨ j = 21 ∨ j = 22 ∨ j = 23 ∨ j = 24 ∨ j = 25 ∨ j = 26 ∨ j = 27 ∨ j = 28 ∨ j = 29 ∨ j = 30 ∨ j = 31 ∨ j = 32 ∨ j = 33 ∨ j = 34 by omega) with rfl | rfl | rfl | rfl | rfl | rfl | rfl | rfl | rfl | rfl | rfl | rfl | rfl | rfl | rfl | rfl | rfl | rfl | rfl | rfl | rfl | rfl | rfl | rfl | rfl | rfl | rfl | rfl | rfl | rfl | rfl | rfl | rfl | rfl | rfl <;> exact h9) hfin hI (by rw [ho]; rcases (show j = 0 ∨ j = 1 ∨ j = 2 ∨ j = 3 ∨ j = 4 ∨ j = 5 ∨ j = 6 ∨ j = 7 ∨ j = 8 ∨ j = 9 ∨ j = 10 ∨ j = 11 ∨ j = 12 ∨ j = 13 ∨ j = 14 ∨ j = 15 ∨ j = 16 ∨ j = 17 ∨ j = 18 ∨ j = 19 ∨ j = 20 ∨ j = 21 ∨ j = 22 ∨ j = 23 ∨ j = 24 ∨ j = 25 ∨ j = 26 ∨ j = 27 ∨ j = 28 ∨ j = 29 ∨ j = 30 ∨ j = 31 ∨ j = 32 ∨ j = 33 ∨ j = 34 by omega) with rfl | rfl | rfl | rfl | rfl | rfl | rfl | rfl | rfl | rfl | rfl | rfl | rfl | rfl | rfl | rfl | rfl | rfl | rfl | rfl | rfl | rfl | rfl | rfl | rfl | rfl | rfl | rfl | rfl | rfl | rfl | rfl | rfl | rfl | rfl <;> rfl) (tyX8_ok j hj) hn hfit hl2 hd (fun H1 locs1 hP1 hD1 hS1 => kk H1 locs1 ls hP1 hD1 hS1 hl)
  · exact va_put (D := D) (ci := 8) (v := v) (ty := tyX8 j) (C := RX8) (T := TX8) (N := 35) hx hb hts inX8 tyX8 tyX8_ok nmX8 hown hK hP hD hS q0 he rfl j hj (hts _ hL) (fun _ h9 => by rcases (show j = 0 ∨ j = 1 ∨ j = 2 ∨ j = 3 ∨ j = 4 ∨ j = 5 ∨ j = 6 ∨ j = 7 ∨ j = 8 ∨ j = 9 ∨ j = 10 ∨ j = 11 ∨ j = 12 ∨ j = 13 ∨ j = 14 ∨ j = 15 ∨ j = 16 ∨ j = 17 ∨ j = 18 ∨ j = 19 ∨ j = 20 ∨ j = 21 ∨ j = 22 ∨ j = 23 ∨ j = 24 ∨ j = 25 ∨ j = 26 ∨ j = 27 ∨ j = 28 ∨ j = 29 ∨ j = 30 ∨ j = 31 ∨ j = 32 ∨ j = 33 ∨ j = 34 by omega) with rfl | rfl | rfl | rfl | rfl | rfl | rfl | rfl | rfl | rfl | rfl | rfl | rfl | rfl | rfl | rfl | rfl | rfl | rfl | rfl | rfl | rfl | rfl | rfl | rfl | rfl | rfl | rfl | rfl | rfl | rfl | rfl | rfl | rfl | rfl <;> exact h9) (by simpa using hfin) (tyX8_ok j hj) hn hfit hl2 hd (fun H1 locs1 hP1 hD1 hS1 => kk H1 locs1 ls hP1 hD1 hS1 hl)
theorem cy_same {U : State} {ty : FieldType} {c1 c2 : ClassId} (h1 : va_RA U c1 ty) (h2 : va_RA U c2 ty) : c1 = c2 := by
  cases ty with
  | object C =>
    obtain ⟨_, _, _, _, _, e1⟩ := h1
    obtain ⟨_, _, _, _, _, e2⟩ := h2
    exact Option.some.inj (e1.symm.trans e2)
  | _ => exact Option.some.inj (h1.symm.trans h2)
theorem e_newaB {F : FX} {D : va_G} {cy : Nat → ClassId} {A : Nat → Prop} {Q : State → Prop} {nL pc q d MC MS ce sl : Nat} {lv : List (Nat × Value)} {st : List Value} {ws : va_W} {cc : ByteArray} {own : String} (C : Dx F D cy A cc nL own d MC MS) {n : Int32} {N : Nat} (hd : decode cc pc = .ok (.newarray .byte, 2)) (hq : pc + 2 = q) (hn : ¬ n < 0) (hNn : n.toNatClampNeg = N) (hby : N * componentBytes .byte ≤ 536870912) (hc1 : ce + 1 ≤ MC) (hc2 : sl + N ≤ MS) (kk : ∀ a, Bt F D A Q nL q lv (.ref a :: st) (ws ++ [(a, .inl (cy 0, N, .inl (fun _ => 0)))]) (ce + 1) (sl + N)) : Bt F D A Q nL pc lv (.int n :: st) ws ce sl := by
  obtain ⟨p, l, e, R, s, m, args, below, meth, c, ce0, sl0⟩ := F
  obtain ⟨hx, hb, hml, hown, hts, hlk, hK, hA, hN, hR1, hR2, hR3, hR4⟩ := C
  subst hq
  intro H locs ls hP hD hS hl
  refine va_newa (atype := .byte) (ty := .byte) (a0 := (N, .inl (fun _ => 0))) hx hb (hts _ k_95) rfl hK hP hD hS hA (fun cA => rfl) hn hNn hby (by omega) (by omega) hd (fun a cA H1 hK1 hP1 hD1 hS1 => ?_)
  have hc : cA = cy 0 := cy_same (hK1.2 4 (cA, .byte) rfl).2 (hK1.2 0 (cy 0, .byte) rfl).2
  subst hc
  exact kk a H1 locs ls hP1 hD1 hS1 hl
theorem e_newaI {F : FX} {D : va_G} {cy : Nat → ClassId} {A : Nat → Prop} {Q : State → Prop} {nL pc q d MC MS ce sl : Nat} {lv : List (Nat × Value)} {st : List Value} {ws : va_W} {cc : ByteArray} {own : String} (C : Dx F D cy A cc nL own d MC MS) {n : Int32} {N : Nat} (hd : decode cc pc = .ok (.newarray .int, 2)) (hq : pc + 2 = q) (hn : ¬ n < 0) (hNn : n.toNatClampNeg = N) (hby : N * componentBytes .int ≤ 536870912) (hc1 : ce + 1 ≤ MC) (hc2 : sl + N ≤ MS) (kk : ∀ a, Bt F D A Q nL q lv (.ref a :: st) (ws ++ [(a, .inl (cy 1, N, .inl (fun _ => 0)))]) (ce + 1) (sl + N)) : Bt F D A Q nL pc lv (.int n :: st) ws ce sl := by
  obtain ⟨p, l, e, R, s, m, args, below, meth, c, ce0, sl0⟩ := F
  obtain ⟨hx, hb, hml, hown, hts, hlk, hK, hA, hN, hR1, hR2, hR3, hR4⟩ := C
  subst hq
  intro H locs ls hP hD hS hl
  refine va_newa (atype := .int) (ty := .int) (a0 := (N, .inl (fun _ => 0))) hx hb (hts _ k_69) rfl hK hP hD hS hA (fun cA => rfl) hn hNn hby (by omega) (by omega) hd (fun a cA H1 hK1 hP1 hD1 hS1 => ?_)
  have hc : cA = cy 1 := cy_same (hK1.2 4 (cA, .int) rfl).2 (hK1.2 1 (cy 1, .int) rfl).2
  subst hc
  exact kk a H1 locs ls hP1 hD1 hS1 hl
theorem e_newaZ {F : FX} {D : va_G} {cy : Nat → ClassId} {A : Nat → Prop} {Q : State → Prop} {nL pc q d MC MS ce sl : Nat} {lv : List (Nat × Value)} {st : List Value} {ws : va_W} {cc : ByteArray} {own : String} (C : Dx F D cy A cc nL own d MC MS) {n : Int32} {N : Nat} (hd : decode cc pc = .ok (.newarray .boolean, 2)) (hq : pc + 2 = q) (hn : ¬ n < 0) (hNn : n.toNatClampNeg = N) (hby : N * componentBytes .boolean ≤ 536870912) (hc1 : ce + 1 ≤ MC) (hc2 : sl + N ≤ MS) (kk : ∀ a, Bt F D A Q nL q lv (.ref a :: st) (ws ++ [(a, .inl (cy 2, N, .inl (fun _ => 0)))]) (ce + 1) (sl + N)) : Bt F D A Q nL pc lv (.int n :: st) ws ce sl := by
  obtain ⟨p, l, e, R, s, m, args, below, meth, c, ce0, sl0⟩ := F
  obtain ⟨hx, hb, hml, hown, hts, hlk, hK, hA, hN, hR1, hR2, hR3, hR4⟩ := C
  subst hq
  intro H locs ls hP hD hS hl
  refine va_newa (atype := .boolean) (ty := .boolean) (a0 := (N, .inl (fun _ => 0))) hx hb (hts _ k_874) rfl hK hP hD hS hA (fun cA => rfl) hn hNn hby (by omega) (by omega) hd (fun a cA H1 hK1 hP1 hD1 hS1 => ?_)
  have hc : cA = cy 2 := cy_same (hK1.2 4 (cA, .boolean) rfl).2 (hK1.2 2 (cy 2, .boolean) rfl).2
  subst hc
  exact kk a H1 locs ls hP1 hD1 hS1 hl
theorem e_newq {F : FX} {D : va_G} {cy : Nat → ClassId} {A : Nat → Prop} {Q : State → Prop} {nL pc q d MC MS ce sl : Nat} {lv : List (Nat × Value)} {st : List Value} {ws : va_W} {cc : ByteArray} {own : String} (C : Dx F D cy A cc nL own d MC MS) {index : Nat} {n : Int32} {N : Nat} (hd : decode cc pc = .ok (.anewarray index, 3)) (hq : pc + 3 = q) (hL : Cond.classLink own index "TwelveCars$Sheet" ∈ wsG) (hn : ¬ n < 0) (hNn : n.toNatClampNeg = N) (hby : N * 4 ≤ 536870912) (hc1 : ce + 1 ≤ MC) (hc2 : sl + N ≤ MS) (kk : ∀ a, Bt F D A Q nL q lv (.ref a :: st) (ws ++ [(a, .inl (cy 3, N, .inr (.inr (.inr (.inr (fun _ => none))))))]) (ce + 1) (sl + N)) : Bt F D A Q nL pc lv (.int n :: st) ws ce sl := by
  obtain ⟨p, l, e, R, s, m, args, below, meth, c, ce0, sl0⟩ := F
  obtain ⟨hx, hb, hml, hown, hts, hlk, hK, hA, hN, hR1, hR2, hR3, hR4⟩ := C
  subst hq
  intro H locs ls hP hD hS hl
  refine va_newq (C := "TwelveCars$Sheet") hx hb hown (hts _ hL) hN.2.2.2.2.2.2.2 hK hP hD hS hA hn hNn hby (by omega) (by omega) hd (fun a cA H1 hK1 hP1 hD1 hS1 => ?_)
  have hc : cA = cy 3 := cy_same (hK1.2 4 (cA, .object "TwelveCars$Sheet") rfl).2 (hK1.2 3 (cy 3, .object "TwelveCars$Sheet") rfl).2
  subst hc
  exact kk a H1 locs ls hP1 hD1 hS1 hl
theorem e_iast {F : FX} {D : va_G} {cy : Nat → ClassId} {A : Nat → Prop} {Q : State → Prop} {nL pc q d MC MS ce sl : Nat} {lv : List (Nat × Value)} {st : List Value} {ws : va_W} {cc : ByteArray} {own : String} (C : Dx F D cy A cc nL own d MC MS) {a N : Nat} {i x : Int32} {f : Nat → Int32} {ws' : va_W} (hd : decode cc pc = .ok (.iastore, 1)) (hq : pc + 1 = q) (q0 : Nat) (he : ws[q0]? = some (a, .inl (cy 1, N, .inl f))) (hin : vp_in i N) (hw : ws.set q0 (a, .inl (cy 1, N, .inl (upd f i.toNatClampNeg x))) = ws') (kk : Bt F D A Q nL q lv st ws' ce sl) : Bt F D A Q nL pc lv (.int x :: .int i :: .ref a :: st) ws ce sl := by
  obtain ⟨p, l, e, R, s, m, args, below, meth, c, ce0, sl0⟩ := F
  obtain ⟨hx, hb, hml, hown, hts, hlk, hK, hA, hN, hR1, hR2, hR3, hR4⟩ := C
  subst hq
  intro H locs ls hP hD hS hl
  subst hw
  exact va_iast hx hb hK hP hD hS q0 1 he rfl hin hd (fun H1 locs1 hP1 hD1 hS1 => kk H1 locs1 ls hP1 hD1 hS1 hl)
theorem e_astq {F : FX} {D : va_G} {cy : Nat → ClassId} {A : Nat → Prop} {Q : State → Prop} {nL pc q d MC MS ce sl : Nat} {lv : List (Nat × Value)} {st : List Value} {ws : va_W} {cc : ByteArray} {own : String} (C : Dx F D cy A cc nL own d MC MS) {a N v : Nat} {i : Int32} {vs : List Value} {f : Nat → Option Nat} {ws' : va_W} (hd : decode cc pc = .ok (.aastore, 1)) (hq : pc + 1 = q) (q0 qk : Nat) (he : ws[q0]? = some (a, .inl (cy 3, N, .inr (.inr (.inr (.inr f)))))) (hv : ws[qk]? = some (v, .inr (3, vs))) (hin : vp_in i N) (hw : ws.set q0 (a, .inl (cy 3, N, .inr (.inr (.inr (.inr (va_up f i.toNatClampNeg (some v))))))) = ws') (kk : Bt F D A Q nL q lv st ws' ce sl) : Bt F D A Q nL pc lv (.ref v :: .int i :: .ref a :: st) ws ce sl := by
  obtain ⟨p, l, e, R, s, m, args, below, meth, c, ce0, sl0⟩ := F
  obtain ⟨hx, hb, hml, hown, hts, hlk, hK, hA, hN, hR1, hR2, hR3, hR4⟩ := C
  subst hq
  intro H locs ls hP hD hS hl
  subst hw
  exact va_astq (r := (RX3, TX3, 4)) hx hb hK hP hD hS q0 3 qk 3 he rfl hv rfl hin hd (fun H1 locs1 hP1 hD1 hS1 => kk H1 locs1 ls hP1 hD1 hS1 hl)
/-- a constructor's contract: from the one cell to the cells that it leaves -/
def PreK (D : va_G) (cy : Nat → ClassId) (sz h0 ci : Nat) (fs : List Value) (U : State) : Prop := U.heap.size = sz ∧ va_P D vwCl [(h0, .inr (ci, fs))] U.heap ∧ va_D (fun _ => True) [(h0, .inr (ci, fs))] ∧ va_K D vwCl (tysC cy) U ∧ Nst U
abbrev MetK (l : Launch) (D : va_G) (cy : Nat → ClassId) (y : MethodName) (b : ByteArray) (nL d mc ms ci : Nat) (fs As : List Value) (mkw : Nat → (Nat → Nat) → va_W) (h0 sz : Nat) : Prop :=
  Met l y (.code y b nL none :: wsG) (rmC d mc ms) (va_Pc (.ref h0 :: As) (PreK D cy sz h0 ci fs)) (va_Qv (S := Nat → Nat) (fun _ => True) (fun u t => va_P D vwCl (mkw h0 u) t.heap ∧ va_D (va_A [(h0, .inr (ci, fs))] sz) (mkw h0 u)) (va_A [(h0, .inr (ci, fs))] sz)) mc ms (va_A [(h0, .inr (ci, fs))] sz)
theorem m_K {l : Launch} {D : va_G} {cy : Nat → ClassId} {y : MethodName} {b : ByteArray} {nL d mc ms ci : Nat} {fs As : List Value} {mkw : Nat → (Nat → Nat) → va_W} {h0 sz : Nat} (hy : plainName y.cls = true) (hyn : y.name = "<init>") (hA : (lg_sl (.ref h0 :: As)).length ≤ nL)
    (body : ∀ (F : FX) (Q : State → Prop) (A : Nat → Prop), Dx F D cy A b nL y.cls d mc ms → isInit F → F.2.1 = l → (∀ (u : Nat → Nat) (pc : Nat) (lv : List (Nat × Value)), decode b pc = .ok (.return_, 1) → Bt F D A Q nL pc lv [] (mkw h0 u) mc ms) → Bt F D A Q nL 0 (lv_args 0 (.ref h0 :: As)) [] [(h0, .inr (ci, fs))] 0 0) :
    MetK l D cy y b nL d mc ms ci fs As mkw h0 sz := by
  refine Met.ofW (cc := b) (maxL := nL) (ret := none) hy rfl ?_
  intro p e s m args below meth c s₁ B hml hv
  obtain ⟨rfl, hsz, hP, hD0, hK, hN⟩ := hv
  have hts := atoms_spec (ws := Cond.code y b nL none :: wsG) B.pre
  have hlk := B.notSynchronized
  have hr := B.returns
  have hin : meth.name = "<init>" := (name_of_methodNamed B.named B.method).1.trans hyn
  subst hsz
  have hD := hD0.self (sz := s.heap.size)
  have hA1 : ∀ q : Nat, s.heap.size ≤ q → va_A [(h0, .inr (ci, fs))] s.heap.size q := fun q h => Or.inr h
  have C : Dx (Fx0 p l e (rmC d mc ms) s m (Value.ref h0 :: As).toArray below meth c) D cy (va_A [(h0, .inr (ci, fs))] s.heap.size) b nL y.cls d mc ms := ⟨B.exec, B.bytes, hml, findClass_of_methodNamed B.named, fun w hw => hts w (List.mem_cons_of_mem _ hw), hlk, hK, hA1, hN, Nat.le_refl _, Nat.le_refl _, rfl, rfl⟩
  have hl := lv_entry (.ref h0 :: As) (n := nL) hA
  rw [lg_entry_eq]
  refine body (Fx0 p l e (rmC d mc ms) s m (Value.ref h0 :: As).toArray below meth c) _ _ C hin rfl ?_ s.heap [] _ hP hD va_S.rf hl
  intro u pc lv hd H locs ls hP hD hS hl
  exact W.vret B.exec B.bytes hr (fun t ht hW => ⟨⟨u, rfl, trivial, by rw [ht]; exact hP, hD⟩, hS.F ht⟩) hS.2.2 hd
theorem PreK.blind {D : va_G} {cy : Nat → ClassId} {sz h0 ci : Nat} {fs As : List Value} : FrameBlind (va_Pc As (PreK D cy sz h0 ci fs)) := by
  intro a U g mk h
  obtain ⟨h0, h1, h2, h3, h4, h5⟩ := h
  exact ⟨h0, h1, h2, h3, va_K.moved (u := U) (U := U.calling g mk a) (Vm.Alike.refl U.vm) h4, h5.calling⟩
theorem last_at {α : Type} (ws : List α) (x : α) : (ws ++ [x])[ws.length]? = some x := by simp
theorem va_nd_range : ∀ (n : Nat) (l : List Nat), va_nd l = true → (∀ a ∈ l, n ≤ a) → va_nd (List.range n ++ l) = true := by
  intro n
  induction n with
  | zero => intro l h _; simpa using h
  | succ n ih =>
    intro l h h2
    rw [List.range_succ, List.append_assoc]
    refine ih ([n] ++ l) ?_ ?_
    · show (decide (n ∉ l) && va_nd l) = true
      simp only [Bool.and_eq_true, decide_eq_true_eq]
      exact ⟨fun hm => absurd (h2 n hm) (by omega), h⟩
    · intro a ha
      simp only [List.singleton_append, List.mem_cons] at ha
      rcases ha with rfl | ha
      · exact Nat.le_refl _
      · exact Nat.le_of_succ_le (h2 a ha)
theorem range_map {α : Type} (ws : List α) (x : α) : (List.range ws.length).map (fun i => (ws ++ [x])[i]?) = ws.map some := by
  apply List.ext_getElem?
  intro i
  by_cases h : i < ws.length
  · rw [List.getElem?_map, List.getElem?_range h, Option.map_some, List.getElem?_append_left h, List.getElem?_map]
    simp [h]
  · simp [Nat.le_of_not_lt h]
/-- the frame: the last cell goes through a constructor, the others stay -/
theorem join_last {A0 : Nat → Prop} {D : va_G} {ws : va_W} {q : Nat} {e : va_E} {w1 : va_W} {H0 H H1 : Heap} {locs : List Loc} (hP : va_P D vwCl (ws ++ [(q, e)]) H) (hD : va_D A0 (ws ++ [(q, e)])) (hS : va_S A0 H0 H locs) (hA : ∀ q, H0.size ≤ q → A0 q)
    (hk : ∀ x : Nat, x < H.size → ¬ va_A [(q, e)] H.size x → H1[x]? = H[x]?) (hP1 : va_P D vwCl w1 H1) (hD1 : va_D (va_A [(q, e)] H.size) w1) : va_P D vwCl (ws ++ w1) H1 ∧ va_D A0 (ws ++ w1) := by
  have hC : [ws.length].map (fun i => (ws ++ [(q, e)])[i]?) = [(q, e)].map some := by simp
  exact va_join (wc := [(q, e)]) (wr := ws) hP hD [ws.length] (List.range ws.length) hC (range_map ws (q, e)) (by have := va_nd_range ws.length [] rfl (fun a h => by cases h); simpa using this) (fun i hi hm => by
    have h1 := List.mem_range.mp hi
    simp only [List.mem_singleton] at hm
    omega) hk (va_free hD hS hA [ws.length] hC) hP1 hD1
theorem e_ctor {F : FX} {D : va_G} {cy : Nat → ClassId} {A : Nat → Prop} {Q : State → Prop} {nL pc q d MC MS ce sl : Nat} {lv : List (Nat × Value)} {st : List Value} {ws : va_W} {cc : ByteArray} {own : String} (C : Dx F D cy A cc nL own d MC MS) {index n nl d' mc ms ci a : Nat} {y : MethodName} {bb : ByteArray} {fs As st0 : List Value} {mkw : Nat → (Nat → Nat) → va_W} (hd : decode cc pc = .ok (.invokespecial index, 3)) (hq : pc + 3 = q) (hdd : d' < d) (hnl : nl ≤ 21) (hcode : Cond.code y bb nl none ∈ wsG) (hini : Cond.initialized y.cls ∈ wsG) (hinst : Cond.instanceMethod y ∈ wsG) (hyn : y.name = "<init>") (hyy : y.cls ≠ "java/lang/invoke/MethodHandle" ∧ y.cls ≠ "java/lang/invoke/VarHandle" ∧ (parseMethodDescriptor y.desc).map (fun d => d.parameters.length) = some n) (hL : Cond.methodLink own index y ∈ wsG) (hM : ∀ sz, MetK F.2.1 D cy y bb nl d' mc ms ci fs As mkw a sz) (hn : As.length = n) (hst : st0 = As.reverse ++ .ref a :: st) (hW : (st.map fun v => v.category).sum ≤ 8) (hc1 : ce + mc ≤ MC) (hc2 : sl + ms ≤ MS) (kk : ∀ u, Bt F D A Q nL q lv st (ws ++ mkw a u) (ce + mc) (sl + ms)) : Bt F D A Q nL pc lv st0 (ws ++ [(a, .inr (ci, fs))]) ce sl := by
  obtain ⟨p, l, e, R, s, m, args, below, meth, c, ce0, sl0⟩ := F
  obtain ⟨hx, hb, hml, hown, hts, hlk, hK, hA, hN, hR1, hR2, hR3, hR4⟩ := C
  subst hq
  intro H locs ls hP hD hS hl
  dsimp only at hM
  subst hst
  have hPc : va_P D vwCl [(a, .inr (ci, fs))] H := fun j x hx => by
    have hz : j < 1 := (List.getElem?_eq_some_iff.mp hx).1
    rw [show j = 0 by omega] at hx
    cases hx
    exact hP ws.length _ (last_at ws _)
  have hDc : va_D (fun _ => True) [(a, .inr (ci, fs))] := ⟨fun i j x y hi hj _ => by
    have h1 : i < 1 := (List.getElem?_eq_some_iff.mp hi).1
    have h2 : j < 1 := (List.getElem?_eq_some_iff.mp hj).1
    omega, fun _ _ _ => trivial⟩
  have hFc := va_free (wc := [(a, .inr (ci, fs))]) hD hS hA [ws.length] (by simp)
  refine va_callv (va_runI (As := As) (rest := st) ⟨hx, hb, hml, hown, hts⟩ (hM H.size) (cwI n hts (wsG_code hcode) rfl rfl rfl (hts _ hini) (hts _ hL) (hts _ hinst) hyn hyy ⟨by show d' + 1 ≤ _; omega, by show 8 + (nl + 11) + 48 * d' ≤ _; omega⟩) ⟨PreK.blind, fun U hU hW => ⟨rfl, by rw [hU], by rw [hU]; exact hPc, hDc, va_K.moved hW.alike hK, hN.warm hW⟩⟩ rfl hn hl.1 rfl (lv_room hW) hd ⟨by omega, by omega⟩) hS (fun q _ h => hFc q h) hFc (fun u t H1 locs1 ht hvm hw hB hz1 hk1 hS1 => ?_)
  obtain ⟨hP1, hD1⟩ := hB
  rw [ht] at hP1
  obtain ⟨hP2, hD2⟩ := join_last hP hD hS hA hk1 hP1 hD1
  exact kk u H1 locs1 ls hP2 hD2 hS1 hl
theorem e_ctorN {F : FX} {D : va_G} {cy : Nat → ClassId} {A : Nat → Prop} {Q : State → Prop} {nL pc q d MC MS ce sl : Nat} {lv : List (Nat × Value)} {st : List Value} {ws : va_W} {cc : ByteArray} {own : String} (C : Dx F D cy A cc nL own d MC MS) {index n nl d' mc ms ci a : Nat} {y : MethodName} {bb : ByteArray} {fs As st0 : List Value} {mkw : Nat → (Nat → Nat) → va_W} (hd : decode cc pc = .ok (.invokespecial index, 3)) (hq : pc + 3 = q) (hdd : d' < d) (hnl : nl ≤ 21) (hcode : Cond.code y bb nl none ∈ wsG) (hini : Cond.initialized y.cls ∈ wsG) (hinst : Cond.instanceMethod y ∈ wsG) (hyn : y.name = "<init>") (hyy : y.cls ≠ "java/lang/invoke/MethodHandle" ∧ y.cls ≠ "java/lang/invoke/VarHandle" ∧ (parseMethodDescriptor y.desc).map (fun d => d.parameters.length) = some n) (hL : ∀ s : State, Nst s → va_Nw (.methodLinkNest own index y "TwelveCars") s) (hM : ∀ sz, MetK F.2.1 D cy y bb nl d' mc ms ci fs As mkw a sz) (hn : As.length = n) (hst : st0 = As.reverse ++ .ref a :: st) (hW : (st.map fun v => v.category).sum ≤ 8) (hc1 : ce + mc ≤ MC) (hc2 : sl + ms ≤ MS) (kk : ∀ u, Bt F D A Q nL q lv st (ws ++ mkw a u) (ce + mc) (sl + ms)) : Bt F D A Q nL pc lv st0 (ws ++ [(a, .inr (ci, fs))]) ce sl := by
  obtain ⟨p, l, e, R, s, m, args, below, meth, c, ce0, sl0⟩ := F
  obtain ⟨hx, hb, hml, hown, hts, hlk, hK, hA, hN, hR1, hR2, hR3, hR4⟩ := C
  subst hq
  intro H locs ls hP hD hS hl
  dsimp only at hM
  subst hst
  have hPc : va_P D vwCl [(a, .inr (ci, fs))] H := fun j x hx => by
    have hz : j < 1 := (List.getElem?_eq_some_iff.mp hx).1
    rw [show j = 0 by omega] at hx
    cases hx
    exact hP ws.length _ (last_at ws _)
  have hDc : va_D (fun _ => True) [(a, .inr (ci, fs))] := ⟨fun i j x y hi hj _ => by
    have h1 : i < 1 := (List.getElem?_eq_some_iff.mp hi).1
    have h2 : j < 1 := (List.getElem?_eq_some_iff.mp hj).1
    omega, fun _ _ _ => trivial⟩
  have hFc := va_free (wc := [(a, .inr (ci, fs))]) hD hS hA [ws.length] (by simp)
  refine va_callv (va_runIN (As := As) (rest := st) ⟨hx, hb, hml, hown, hts⟩ (hM H.size) ⟨va_cnB n hts (wsG_code hcode) rfl rfl rfl (hL s hN) (hts _ hini) hyy ⟨by show d' + 1 ≤ _; omega, by show 8 + (nl + 11) + 48 * d' ≤ _; omega⟩, hyn, hts _ hinst⟩ ⟨PreK.blind, fun U hU hW => ⟨rfl, by rw [hU], by rw [hU]; exact hPc, hDc, va_K.moved hW.alike hK, hN.warm hW⟩⟩ rfl hn hl.1 rfl (lv_room hW) hd ⟨by omega, by omega⟩) hS (fun q _ h => hFc q h) hFc (fun u t H1 locs1 ht hvm hw hB hz1 hk1 hS1 => ?_)
  obtain ⟨hP1, hD1⟩ := hB
  rw [ht] at hP1
  obtain ⟨hP2, hD2⟩ := join_last hP hD hS hA hk1 hP1 hD1
  exact kk u H1 locs1 ls hP2 hD2 hS1 hl
theorem e_sub {F : FX} {D : va_G} {A : Nat → Prop} {Q : State → Prop} {nL pc ce sl : Nat} {lv : List (Nat × Value)} {st : List Value} {ws : va_W} {ws' : va_W} (is : List Nat) (hs : is.filterMap (fun i => ws[i]?) = ws') (hn : va_nd is = true) (hm : is.map (fun i => ws[i]?) = ws'.map some) (kk : Bt F D A Q nL pc lv st ws' ce sl) : Bt F D A Q nL pc lv st ws ce sl := by
  obtain ⟨p, l, e, R, s, m, args, below, meth, c, ce0, sl0⟩ := F
  intro H locs ls hP hD hS hl
  exact kk H locs ls (hP.sub is hs) (hD.sub is hn hm) hS hl
