/-! the state: the class's ints by cell and place; the reference's likewise, and its longs by slot -/
abbrev MM : Type := Nat → Nat → Int32
abbrev SR : Type := MM × (Nat → Int64)
abbrev SX : Type := MM × SR
abbrev FX : Type := Program × Launch × Env × Room × State × MethodId × Array Value × List Frame × Method × Code × Nat × Nat
abbrev GX : Type := va_G × (Nat → Nat) × (Nat → ClassId) × (Nat → Nat)
def stA (s : MM) (k : Nat) (f : Nat → Int32) : MM := fun a => if a = k then f else s a
def st1 (s : MM) (k j : Nat) (v : Int32) : MM := stA s k (upd (s k) j v)
def srA (r : SR) (k : Nat) (f : Nat → Int32) : SR := (stA r.1 k f, r.2)
def sr1 (r : SR) (k j : Nat) (v : Int32) : SR := (st1 r.1 k j v, r.2)
def srL (r : SR) (j : Nat) (v : Int64) : SR := (r.1, vp_updL r.2 j v)
/-- what the cell of a number holds -/
def cellE (G : GX) (S : SX) (k : Nat) : va_E := match k with
  | 0 => .inr (7, [.ref (G.2.1 1), .ref (G.2.1 7), .ref (G.2.1 13), .ref (G.2.1 17), .ref (G.2.1 19), .ref (G.2.1 23), .ref (G.2.1 28), .ref (G.2.1 29), .ref (G.2.1 38), .int (S.1 0 9)])
  | 1 => .inr (6, [.ref (G.2.1 2), .ref (G.2.1 3), .ref (G.2.1 4), .ref (G.2.1 5), .ref (G.2.1 6), .int (S.1 1 5), .int (S.1 1 6), .int (S.1 1 7)])
  | 2 => .inl (G.2.2.1 1, 10, .inl (S.1 2))
  | 3 => .inl (G.2.2.1 1, 10, .inl (S.1 3))
  | 4 => .inl (G.2.2.1 1, 10, .inl (S.1 4))
  | 5 => .inl (G.2.2.1 1, 10, .inl (S.1 5))
  | 6 => .inl (G.2.2.1 1, 12, .inl (S.1 6))
  | 7 => .inr (6, [.ref (G.2.1 8), .ref (G.2.1 9), .ref (G.2.1 10), .ref (G.2.1 11), .ref (G.2.1 12), .int (S.1 7 5), .int (S.1 7 6), .int (S.1 7 7)])
  | 8 => .inl (G.2.2.1 1, 10, .inl (S.1 8))
  | 9 => .inl (G.2.2.1 1, 10, .inl (S.1 9))
  | 10 => .inl (G.2.2.1 1, 10, .inl (S.1 10))
  | 11 => .inl (G.2.2.1 1, 10, .inl (S.1 11))
  | 12 => .inl (G.2.2.1 1, 12, .inl (S.1 12))
  | 13 => .inr (5, [.ref (G.2.1 14), .int (S.1 13 1), .int (S.1 13 2), .ref (G.2.1 15), .ref (G.2.1 16)])
  | 14 => .inl (G.2.2.1 0, 120, .inl (S.1 14))
  | 15 => .inl (G.2.2.1 1, 64, .inl (S.1 15))
  | 16 => .inl (G.2.2.1 1, 64, .inl (S.1 16))
  | 17 => .inr (0, [.ref (G.2.1 1), .ref (G.2.1 18), .int (S.1 17 2), .int (S.1 17 3), .int (S.1 17 4)])
  | 18 => .inr (2, [.int (S.1 18 0), .int (S.1 18 1), .int (S.1 18 2), .int (S.1 18 3)])
  | 19 => .inr (1, [.ref (G.2.1 1), .ref (G.2.1 20), .ref (G.2.1 21), .ref (G.2.1 22)])
  | 20 => .inr (2, [.int (S.1 20 0), .int (S.1 20 1), .int (S.1 20 2), .int (S.1 20 3)])
  | 21 => .inr (2, [.int (S.1 21 0), .int (S.1 21 1), .int (S.1 21 2), .int (S.1 21 3)])
  | 22 => .inl (G.2.2.1 1, 1024, .inl (S.1 22))
  | 23 => .inr (4, [.ref (G.2.1 1), .ref (G.2.1 24), .ref (G.2.1 25), .ref (G.2.1 26), .ref (G.2.1 27)])
  | 24 => .inr (2, [.int (S.1 24 0), .int (S.1 24 1), .int (S.1 24 2), .int (S.1 24 3)])
  | 25 => .inr (2, [.int (S.1 25 0), .int (S.1 25 1), .int (S.1 25 2), .int (S.1 25 3)])
  | 26 => .inl (G.2.2.1 1, 10, .inl (S.1 26))
  | 27 => .inr (2, [.int (S.1 27 0), .int (S.1 27 1), .int (S.1 27 2), .int (S.1 27 3)])
  | 28 => .inr (2, [.int (S.1 28 0), .int (S.1 28 1), .int (S.1 28 2), .int (S.1 28 3)])
  | 29 => .inl (G.2.2.1 3, 4, .inr (.inr (.inr (.inr (fun i => some (G.2.1 (30 + 2 * i)))))))
  | 30 => .inr (3, [.ref (G.2.1 31), .int (S.1 30 1), .int (S.1 30 2), .int (S.1 30 3)])
  | 31 => .inl (G.2.2.1 1, 24, .inl (S.1 31))
  | 32 => .inr (3, [.ref (G.2.1 33), .int (S.1 32 1), .int (S.1 32 2), .int (S.1 32 3)])
  | 33 => .inl (G.2.2.1 1, 24, .inl (S.1 33))
  | 34 => .inr (3, [.ref (G.2.1 35), .int (S.1 34 1), .int (S.1 34 2), .int (S.1 34 3)])
  | 35 => .inl (G.2.2.1 1, 24, .inl (S.1 35))
  | 36 => .inr (3, [.ref (G.2.1 37), .int (S.1 36 1), .int (S.1 36 2), .int (S.1 36 3)])
  | 37 => .inl (G.2.2.1 1, 24, .inl (S.1 37))
  | 38 => .inl (G.2.2.1 1, 12, .inl (S.1 38))
  | 39 => .inr (8, [.ref (G.2.1 40), .ref (G.2.1 41), .ref (G.2.1 42), .ref (G.2.1 43), .int (S.2.1 39 4), .ref (G.2.1 44), .int (S.2.1 39 6), .int (S.2.1 39 7), .int (S.2.1 39 8), .ref (G.2.1 45), .int (S.2.1 39 10), .int (S.2.1 39 11), .int (S.2.1 39 12), .int (S.2.1 39 13), .long (S.2.2 14), .long (S.2.2 15), .ref (G.2.1 46), .int (S.2.1 39 17), .int (S.2.1 39 18), .int (S.2.1 39 19), .ref (G.2.1 47), .ref (G.2.1 48), .ref (G.2.1 49), .ref (G.2.1 50), .int (S.2.1 39 24), .ref (G.2.1 51), .ref (G.2.1 52), .long (S.2.2 27), .long (S.2.2 28), .int (S.2.1 39 29), .ref (G.2.1 53), .ref (G.2.1 54), .ref (G.2.1 55), .ref (G.2.1 56), .ref (G.2.1 57)])
  | 40 => .inl (G.2.2.1 1, 10, .inl (S.2.1 40))
  | 41 => .inl (G.2.2.1 1, 10, .inl (S.2.1 41))
  | 42 => .inl (G.2.2.1 1, 10, .inl (S.2.1 42))
  | 43 => .inl (G.2.2.1 1, 10, .inl (S.2.1 43))
  | 44 => .inl (G.2.2.1 1, 12, .inl (S.2.1 44))
  | 45 => .inl (G.2.2.1 1, 12, .inl (S.2.1 45))
  | 46 => .inl (G.2.2.1 1, 120, .inl (S.2.1 46))
  | 47 => .inl (G.2.2.1 1, 240, .inl (S.2.1 47))
  | 48 => .inl (G.2.2.1 1, 4, .inl (S.2.1 48))
  | 49 => .inl (G.2.2.1 1, 4, .inl (S.2.1 49))
  | 50 => .inl (G.2.2.1 1, 4, .inl (S.2.1 50))
  | 51 => .inl (G.2.2.1 2, 1024, .inl (S.2.1 51))
  | 52 => .inl (G.2.2.1 2, 1024, .inl (S.2.1 52))
  | 53 => .inl (G.2.2.1 1, 56, .inl (S.2.1 53))
  | 54 => .inl (G.2.2.1 1, 4, .inl (S.2.1 54))
  | 55 => .inl (G.2.2.1 1, 4, .inl (S.2.1 55))
  | 56 => .inl (G.2.2.1 1, 96, .inl (S.2.1 56))
  | 57 => .inl (G.2.2.1 1, 24, .inl (S.2.1 57))
  | _ => .inr (0, [])
def cw (G : GX) (S : SX) : va_W := (List.range 58).map (fun k => (G.2.1 k, cellE G S k))
def Af (G : GX) : Nat → Prop := fun q => ∃ k : Nat, k < 58 ∧ q = G.2.1 k
abbrev tysG (G : GX) : List (ClassId × FieldType) := [(G.2.2.1 0, .byte), (G.2.2.1 1, .int), (G.2.2.1 2, .boolean), (G.2.2.1 3, .object "TwelveCars$Sheet")]
theorem cw_get {G : GX} {S : SX} {k : Nat} (h : k < 58) : (cw G S)[k]? = some (G.2.1 k, cellE G S k) := by simp [cw, h]
theorem cw_at {G : GX} {S : SX} {k : Nat} {e : va_E} (h : k < 58) (he : cellE G S k = e) : (cw G S)[k]? = some (G.2.1 k, e) := by rw [cw_get h, he]
theorem cw_set {G : GX} {S S' : SX} {k : Nat} (h : k < 58) (he : ∀ j, j ≠ k → cellE G S' j = cellE G S j) : (cw G S).set k (G.2.1 k, cellE G S' k) = cw G S' := by
  apply List.ext_getElem?
  intro j
  by_cases hj : j = k
  · subst hj
    rw [List.getElem?_set_self (by simpa [cw] using h), cw_get h]
  · rw [List.getElem?_set_ne (fun z => hj z.symm)]
    by_cases hl : j < 58
    · rw [cw_get hl, cw_get hl, he j hj]
    · rw [List.getElem?_eq_none (by simpa [cw] using Nat.le_of_not_lt hl), List.getElem?_eq_none (by simpa [cw] using Nat.le_of_not_lt hl)]
theorem cw_set' {G : GX} {S S' : SX} {k : Nat} {e : va_E} (h : k < 58) (he : ∀ j, j ≠ k → cellE G S' j = cellE G S j) (h2 : cellE G S' k = e) : (cw G S).set k (G.2.1 k, e) = cw G S' := by rw [← h2]; exact cw_set h he
set_option maxHeartbeats 4000000 in
theorem cellE_C {G : GX} {s : MM} {r : SR} {k : Nat} {f : Nat → Int32} : ∀ j, j ≠ k → cellE G (stA s k f, r) j = cellE G (s, r) j := by
  intro j hj
  unfold cellE
  split <;> first | rfl | simp only [stA, if_neg hj]
set_option maxHeartbeats 4000000 in
theorem cellE_R {G : GX} {s : MM} {r : SR} {k : Nat} {f : Nat → Int32} : ∀ j, j ≠ k → cellE G (s, srA r k f) j = cellE G (s, r) j := by
  intro j hj
  unfold cellE
  split <;> first | rfl | simp only [srA, stA, if_neg hj]
set_option maxHeartbeats 4000000 in
theorem cellE_L {G : GX} {s : MM} {r : SR} {k : Nat} {v : Int64} : ∀ j, j ≠ 39 → cellE G (s, srL r k v) j = cellE G (s, r) j := by
  intro j hj
  unfold cellE
  split <;> first | rfl | exact absurd rfl hj
theorem cellE_C1 {G : GX} {s : MM} {r : SR} {k a : Nat} {v : Int32} : ∀ j, j ≠ k → cellE G (st1 s k a v, r) j = cellE G (s, r) j := cellE_C
theorem cellE_R1 {G : GX} {s : MM} {r : SR} {k a : Nat} {v : Int32} : ∀ j, j ≠ k → cellE G (s, sr1 r k a v) j = cellE G (s, r) j := cellE_R
/-! what stands at the start and is never written: the class's tables, the texts -/
def tabv (i : Nat) (j : Nat) : Int32 := (([[1, 1, 2, 2], [2, 0, 1, 0, -1, 0, -2, 0, -1, 0, 1, 0], [0, 1, 0, 0, 0, -1, 0, -1, 0, 0, 0, 1], [0, 1, 0, 2, 0, 1, 0, -1, 0, -2, 0, -1], [0, 0, 1, 0, 1, 0, 0, 0, -1, 0, -1, 0]] : List (List Int32)).getD i []).getD j 0
abbrev txl : List Nat := [4, 4]
abbrev txb : List (List Int32) := [[103, 99, 115, 98], [105, 111, 115, 116]]
def Stt (G : GX) (U : State) (H : Heap) : Prop :=
  (va_Z "TwelveCars$Wheel" "SEATS" "[I" (.ref (G.2.2.2 0)) (Af G) U H ∧ va_T .int (G.2.2.2 0) 4 (fun j => .int (tabv 0 j)) (Af G) U H) ∧
  (va_Z "TwelveCars$Balance" "COSINE_WHOLE" "[I" (.ref (G.2.2.2 1)) (Af G) U H ∧ va_T .int (G.2.2.2 1) 12 (fun j => .int (tabv 1 j)) (Af G) U H) ∧
  (va_Z "TwelveCars$Balance" "COSINE_ROOT" "[I" (.ref (G.2.2.2 2)) (Af G) U H ∧ va_T .int (G.2.2.2 2) 12 (fun j => .int (tabv 2 j)) (Af G) U H) ∧
  (va_Z "TwelveCars$Balance" "SINE_WHOLE" "[I" (.ref (G.2.2.2 3)) (Af G) U H ∧ va_T .int (G.2.2.2 3) 12 (fun j => .int (tabv 3 j)) (Af G) U H) ∧
  (va_Z "TwelveCars$Balance" "SINE_ROOT" "[I" (.ref (G.2.2.2 4)) (Af G) U H ∧ va_T .int (G.2.2.2 4) 12 (fun j => .int (tabv 4 j)) (Af G) U H) ∧
  va_Z "java/lang/String" "COMPACT_STRINGS" "Z" (.int 1) (Af G) U H ∧
  vk_S 2 txl txb (fun i => G.2.2.2 (5 + i)) (fun i => G.2.2.2 (7 + i)) (Af G) U H ∧
  vk_R "TwelveCars$Tape" 26 "gcsb" (G.2.2.2 5) U ∧ vk_R "TwelveCars$Tape" 32 "iost" (G.2.2.2 6) U
theorem Stt.go {G : GX} {s U : State} {H H1 : Heap} (h : Stt G s H) (hW : s.WarmedH U.vm) (hq : ∀ a : Nat, a < H.size → ¬ Af G a → H1[a]? = H[a]?) : Stt G U H1 := by
  obtain ⟨⟨a0, b0⟩, ⟨a1, b1⟩, ⟨a2, b2⟩, ⟨a3, b3⟩, ⟨a4, b4⟩, a5, a6, a7, a8⟩ := h
  have hv := hW.alike
  exact ⟨⟨(va_Z.moved hv a0).kept hq, (va_T.moved hv b0).kept hq⟩, ⟨(va_Z.moved hv a1).kept hq, (va_T.moved hv b1).kept hq⟩, ⟨(va_Z.moved hv a2).kept hq, (va_T.moved hv b2).kept hq⟩, ⟨(va_Z.moved hv a3).kept hq, (va_T.moved hv b3).kept hq⟩, ⟨(va_Z.moved hv a4).kept hq, (va_T.moved hv b4).kept hq⟩, (va_Z.moved hv a5).kept hq, (vk_S.moved hv a6).kept hq, a7.warm hW, a8.warm hW⟩
theorem Stt.calling {G : GX} {U : State} {g : JFrame} {mk : MethodId} {a : Array Value} (h : Stt G U U.heap) : Stt G (U.calling g mk a) (U.calling g mk a).heap := by
  obtain ⟨⟨a0, b0⟩, ⟨a1, b1⟩, ⟨a2, b2⟩, ⟨a3, b3⟩, ⟨a4, b4⟩, a5, a6, a7, a8⟩ := h
  have hv : U.vm.Alike (U.calling g mk a).vm := Vm.Alike.refl U.vm
  exact ⟨⟨va_Z.moved hv a0, va_T.moved hv b0⟩, ⟨va_Z.moved hv a1, va_T.moved hv b1⟩, ⟨va_Z.moved hv a2, va_T.moved hv b2⟩, ⟨va_Z.moved hv a3, va_T.moved hv b3⟩, ⟨va_Z.moved hv a4, va_T.moved hv b4⟩, va_Z.moved hv a5, vk_S.moved hv a6, vk_R.same rfl a7, vk_R.same rfl a8⟩
/-! the contract of a method -/
def PreC (G : GX) (S : SX) (U : State) : Prop := va_P G.1 vwCl (cw G S) U.heap ∧ va_D (Af G) (cw G S) ∧ va_K G.1 vwCl (tysG G) U ∧ Stt G U U.heap
def PostW (G : GX) (S : SX) (t : State) : Prop := va_P G.1 vwCl (cw G S) t.heap ∧ va_D (Af G) (cw G S)
def rmD (d : Nat) : Room := { frames := d, cells := 0, slots := 0, locals := 48 * d }
abbrev PostI (G : GX) (r : Int32) (S : SX) : Array Value → State → Outcome → State → Prop := va_Qi (S := Unit) (fun r' _ => r' = r) (fun _ t => PostW G S t) (Af G)
abbrev PostL (G : GX) (r : Int64) (S : SX) : Array Value → State → Outcome → State → Prop := va_Ql (S := Unit) (fun r' _ => r' = r) (fun _ t => PostW G S t) (Af G)
abbrev PostV (G : GX) (S : SX) : Array Value → State → Outcome → State → Prop := va_Qv (S := Unit) (fun _ => True) (fun _ t => PostW G S t) (Af G)
abbrev MetC (l : Launch) (G : GX) (y : MethodName) (b : ByteArray) (nL : Nat) (ret : Option FieldType) (d : Nat) (S : SX) (As : List Value) (Qc : Array Value → State → Outcome → State → Prop) : Prop :=
  Met l y (.code y b nL ret :: wsG) (rmD d) (va_Pc As (PreC G S)) Qc 0 0 (Af G)
theorem PreC.blind {G : GX} {S : SX} {As : List Value} : FrameBlind (va_Pc As (PreC G S)) := by
  intro a U g mk h
  obtain ⟨h0, h1, h2, h3, h4⟩ := h
  exact ⟨h0, h1, h2, va_K.moved (u := U) (U := U.calling g mk a) (Vm.Alike.refl U.vm) h3, h4.calling⟩
def Cx (F : FX) (G : GX) (cc : ByteArray) (nL : Nat) (own : String) : Prop := match F with
  | (p, _, _, _, s, m, args, _, meth, c, _, _) => p.tables.exec = Jvm.exec ∧ c.code = cc ∧ c.maxLocals = nL ∧ s.vm.findClass own = some m.cls ∧ (∀ w ∈ wsG, w.before args s = true) ∧ meth.locks = false ∧ va_K G.1 vwCl (tysG G) s ∧ Stt G s s.heap
def At (F : FX) (G : GX) (Q : State → Prop) (nL pc : Nat) (lv : List (Nat × Value)) (st : List Value) (S : SX) : Prop := match F with
  | (p, l, e, R, s, m, args, below, meth, c, ce, sl) => ∀ (H : Heap) (locs : List Loc) (ls : Array Slot), va_P G.1 vwCl (cw G S) H → va_D (Af G) (cw G S) → va_S (Af G) s.heap H locs → lv_has ls nL lv → W p l e R s m args below meth c H locs ce sl Q (F0 m pc ls st)
/-! what the functions are made of -/
def ix {B : Type} (i : Int32) (N : Nat) (a : Option B) : Option B := if i < 0 ∨ N ≤ i.toNatClampNeg then none else a
def nm {A B : Type} (e : A) (f : A → Option B) : Option B := f e
def b1 {A B : Type} (x : Option A) (k : A → Option B) : Option B := match x with
  | none => none
  | some a => k a
theorem ix_some {B : Type} {i : Int32} {N : Nat} {a : Option B} {r : B} (h : ix i N a = some r) : vp_in i N ∧ a = some r := by
  unfold ix at h
  split at h
  · cases h
  · exact ⟨by assumption, h⟩
theorem b1_some {A B : Type} {x : Option A} {k : A → Option B} {r : B} (h : b1 x k = some r) : ∃ a, x = some a ∧ k a = some r := by
  cases x with
  | none => cases h
  | some a => exact ⟨a, rfl, h⟩
def bz {B : Type} (v : Int32) (a : Option B) : Option B := if v = 0 ∨ v = 1 then a else none
theorem bz_some {B : Type} {v : Int32} {a : Option B} {r : B} (h : bz v a = some r) : narrow .boolean (.int v) = .int v ∧ a = some r := by
  unfold bz at h
  split at h
  · rename_i hv
    rcases hv with rfl | rfl <;> exact ⟨rfl, h⟩
  · cases h
def bR {Y T B : Type} (x : Option (Y ⊕ T)) (ret : Y → Option B) (k : T → Option B) : Option B := match x with
  | none => none
  | some (.inl y) => ret y
  | some (.inr t) => k t
theorem bR_some {Y T B : Type} {x : Option (Y ⊕ T)} {ret : Y → Option B} {k : T → Option B} {r : B} (h : bR x ret k = some r) : (∃ y, x = some (.inl y) ∧ ret y = some r) ∨ (∃ t, x = some (.inr t) ∧ k t = some r) := by
  cases x with
  | none => cases h
  | some a =>
    cases a with
    | inl y => exact Or.inl ⟨y, rfl, h⟩
    | inr t => exact Or.inr ⟨t, rfl, h⟩
def cpk {B : Type} (sp dp n : Int32) (n0 n1 : Nat) (a : Option B) : Option B := if sp < 0 ∨ dp < 0 ∨ n < 0 ∨ n0 < sp.toNatClampNeg + n.toNatClampNeg ∨ n1 < dp.toNatClampNeg + n.toNatClampNeg then none else a
theorem cpk_some {B : Type} {sp dp n : Int32} {n0 n1 : Nat} {a : Option B} {r : B} (h : cpk sp dp n n0 n1 a = some r) : (¬ sp < 0 ∧ ¬ dp < 0 ∧ ¬ n < 0 ∧ sp.toNatClampNeg + n.toNatClampNeg ≤ n0 ∧ dp.toNatClampNeg + n.toNatClampNeg ≤ n1) ∧ a = some r := by
  unfold cpk at h
  split at h
  · cases h
  · rename_i hv
    simp only [not_or, Nat.not_lt] at hv
    exact ⟨hv, h⟩
theorem ite_cut {B : Type} {c : Prop} {inst : Decidable c} {a b : Option B} {r : B} (h : (if c then a else b) = some r) : (c ∧ a = some r) ∨ (¬ c ∧ b = some r) := by
  by_cases hc : c
  · rw [if_pos hc] at h
    exact Or.inl ⟨hc, h⟩
  · rw [if_neg hc] at h
    exact Or.inr ⟨hc, h⟩
def b2 {A1 A2 B : Type} (x : Option (A1 × A2)) (k : A1 → A2 → Option B) : Option B := match x with
  | none => none
  | some (a1, a2) => k a1 a2
theorem b2_some {A1 A2 B : Type} {x : Option (A1 × A2)} {k : A1 → A2 → Option B} {r : B} (h : b2 x k = some r) : ∃ a1 a2, x = some (a1, a2) ∧ k a1 a2 = some r := by
  cases x with
  | none => cases h
  | some a =>
    obtain ⟨a1, a2⟩ := a
    exact ⟨a1, a2, rfl, h⟩
def b3 {A1 A2 A3 B : Type} (x : Option (A1 × A2 × A3)) (k : A1 → A2 → A3 → Option B) : Option B := match x with
  | none => none
  | some (a1, a2, a3) => k a1 a2 a3
theorem b3_some {A1 A2 A3 B : Type} {x : Option (A1 × A2 × A3)} {k : A1 → A2 → A3 → Option B} {r : B} (h : b3 x k = some r) : ∃ a1 a2 a3, x = some (a1, a2, a3) ∧ k a1 a2 a3 = some r := by
  cases x with
  | none => cases h
  | some a =>
    obtain ⟨a1, a2, a3⟩ := a
    exact ⟨a1, a2, a3, rfl, h⟩
def b4 {A1 A2 A3 A4 B : Type} (x : Option (A1 × A2 × A3 × A4)) (k : A1 → A2 → A3 → A4 → Option B) : Option B := match x with
  | none => none
  | some (a1, a2, a3, a4) => k a1 a2 a3 a4
theorem b4_some {A1 A2 A3 A4 B : Type} {x : Option (A1 × A2 × A3 × A4)} {k : A1 → A2 → A3 → A4 → Option B} {r : B} (h : b4 x k = some r) : ∃ a1 a2 a3 a4, x = some (a1, a2, a3, a4) ∧ k a1 a2 a3 a4 = some r := by
  cases x with
  | none => cases h
  | some a =>
    obtain ⟨a1, a2, a3, a4⟩ := a
    exact ⟨a1, a2, a3, a4, rfl, h⟩
def b5 {A1 A2 A3 A4 A5 B : Type} (x : Option (A1 × A2 × A3 × A4 × A5)) (k : A1 → A2 → A3 → A4 → A5 → Option B) : Option B := match x with
  | none => none
  | some (a1, a2, a3, a4, a5) => k a1 a2 a3 a4 a5
theorem b5_some {A1 A2 A3 A4 A5 B : Type} {x : Option (A1 × A2 × A3 × A4 × A5)} {k : A1 → A2 → A3 → A4 → A5 → Option B} {r : B} (h : b5 x k = some r) : ∃ a1 a2 a3 a4 a5, x = some (a1, a2, a3, a4, a5) ∧ k a1 a2 a3 a4 a5 = some r := by
  cases x with
  | none => cases h
  | some a =>
    obtain ⟨a1, a2, a3, a4, a5⟩ := a
    exact ⟨a1, a2, a3, a4, a5, rfl, h⟩
def b6 {A1 A2 A3 A4 A5 A6 B : Type} (x : Option (A1 × A2 × A3 × A4 × A5 × A6)) (k : A1 → A2 → A3 → A4 → A5 → A6 → Option B) : Option B := match x with
  | none => none
  | some (a1, a2, a3, a4, a5, a6) => k a1 a2 a3 a4 a5 a6
theorem b6_some {A1 A2 A3 A4 A5 A6 B : Type} {x : Option (A1 × A2 × A3 × A4 × A5 × A6)} {k : A1 → A2 → A3 → A4 → A5 → A6 → Option B} {r : B} (h : b6 x k = some r) : ∃ a1 a2 a3 a4 a5 a6, x = some (a1, a2, a3, a4, a5, a6) ∧ k a1 a2 a3 a4 a5 a6 = some r := by
  cases x with
  | none => cases h
  | some a =>
    obtain ⟨a1, a2, a3, a4, a5, a6⟩ := a
    exact ⟨a1, a2, a3, a4, a5, a6, rfl, h⟩
def b7 {A1 A2 A3 A4 A5 A6 A7 B : Type} (x : Option (A1 × A2 × A3 × A4 × A5 × A6 × A7)) (k : A1 → A2 → A3 → A4 → A5 → A6 → A7 → Option B) : Option B := match x with
  | none => none
  | some (a1, a2, a3, a4, a5, a6, a7) => k a1 a2 a3 a4 a5 a6 a7
theorem b7_some {A1 A2 A3 A4 A5 A6 A7 B : Type} {x : Option (A1 × A2 × A3 × A4 × A5 × A6 × A7)} {k : A1 → A2 → A3 → A4 → A5 → A6 → A7 → Option B} {r : B} (h : b7 x k = some r) : ∃ a1 a2 a3 a4 a5 a6 a7, x = some (a1, a2, a3, a4, a5, a6, a7) ∧ k a1 a2 a3 a4 a5 a6 a7 = some r := by
  cases x with
  | none => cases h
  | some a =>
    obtain ⟨a1, a2, a3, a4, a5, a6, a7⟩ := a
    exact ⟨a1, a2, a3, a4, a5, a6, a7, rfl, h⟩
def b8 {A1 A2 A3 A4 A5 A6 A7 A8 B : Type} (x : Option (A1 × A2 × A3 × A4 × A5 × A6 × A7 × A8)) (k : A1 → A2 → A3 → A4 → A5 → A6 → A7 → A8 → Option B) : Option B := match x with
  | none => none
  | some (a1, a2, a3, a4, a5, a6, a7, a8) => k a1 a2 a3 a4 a5 a6 a7 a8
theorem b8_some {A1 A2 A3 A4 A5 A6 A7 A8 B : Type} {x : Option (A1 × A2 × A3 × A4 × A5 × A6 × A7 × A8)} {k : A1 → A2 → A3 → A4 → A5 → A6 → A7 → A8 → Option B} {r : B} (h : b8 x k = some r) : ∃ a1 a2 a3 a4 a5 a6 a7 a8, x = some (a1, a2, a3, a4, a5, a6, a7, a8) ∧ k a1 a2 a3 a4 a5 a6 a7 a8 = some r := by
  cases x with
  | none => cases h
  | some a =>
    obtain ⟨a1, a2, a3, a4, a5, a6, a7, a8⟩ := a
    exact ⟨a1, a2, a3, a4, a5, a6, a7, a8, rfl, h⟩
def b9 {A1 A2 A3 A4 A5 A6 A7 A8 A9 B : Type} (x : Option (A1 × A2 × A3 × A4 × A5 × A6 × A7 × A8 × A9)) (k : A1 → A2 → A3 → A4 → A5 → A6 → A7 → A8 → A9 → Option B) : Option B := match x with
  | none => none
  | some (a1, a2, a3, a4, a5, a6, a7, a8, a9) => k a1 a2 a3 a4 a5 a6 a7 a8 a9
theorem b9_some {A1 A2 A3 A4 A5 A6 A7 A8 A9 B : Type} {x : Option (A1 × A2 × A3 × A4 × A5 × A6 × A7 × A8 × A9)} {k : A1 → A2 → A3 → A4 → A5 → A6 → A7 → A8 → A9 → Option B} {r : B} (h : b9 x k = some r) : ∃ a1 a2 a3 a4 a5 a6 a7 a8 a9, x = some (a1, a2, a3, a4, a5, a6, a7, a8, a9) ∧ k a1 a2 a3 a4 a5 a6 a7 a8 a9 = some r := by
  cases x with
  | none => cases h
  | some a =>
    obtain ⟨a1, a2, a3, a4, a5, a6, a7, a8, a9⟩ := a
    exact ⟨a1, a2, a3, a4, a5, a6, a7, a8, a9, rfl, h⟩
def it1 {A1 X : Type} (b : A1 → Option (X ⊕ (A1))) : Nat → A1 → Option X
  | 0, _ => none
  | n + 1, a1 => match b a1 with
    | none => none
    | some (.inl x) => some x
    | some (.inr (a1)) => it1 b n a1
theorem it1_ind {A1 X : Type} {b : A1 → Option (X ⊕ (A1))} {E : X → Prop} {P : A1 → Prop} (step : ∀ (a1 : A1) (res : X ⊕ (A1)), b a1 = some res → Sum.elim E (fun q => match q with | (a1) => P a1) res → P a1) : ∀ (n : Nat) (a1 : A1) (r : X), it1 b n a1 = some r → E r → P a1 := by
  intro n
  induction n with
  | zero => intro a1 r h; cases h
  | succ n ih =>
    intro a1 r h hE
    cases hb : b a1 with
    | none => simp [it1, hb] at h
    | some res =>
      refine step a1 res hb ?_
      cases res with
      | inl x =>
        simp [it1, hb] at h
        subst h
        exact hE
      | inr q =>
        simp [it1, hb] at h
        exact ih _ r h hE
def it2 {A1 A2 X : Type} (b : A1 → A2 → Option (X ⊕ (A1 × A2))) : Nat → A1 → A2 → Option X
  | 0, _, _ => none
  | n + 1, a1, a2 => match b a1 a2 with
    | none => none
    | some (.inl x) => some x
    | some (.inr (a1, a2)) => it2 b n a1 a2
theorem it2_ind {A1 A2 X : Type} {b : A1 → A2 → Option (X ⊕ (A1 × A2))} {E : X → Prop} {P : A1 → A2 → Prop} (step : ∀ (a1 : A1) (a2 : A2) (res : X ⊕ (A1 × A2)), b a1 a2 = some res → Sum.elim E (fun q => match q with | (a1, a2) => P a1 a2) res → P a1 a2) : ∀ (n : Nat) (a1 : A1) (a2 : A2) (r : X), it2 b n a1 a2 = some r → E r → P a1 a2 := by
  intro n
  induction n with
  | zero => intro a1 a2 r h; cases h
  | succ n ih =>
    intro a1 a2 r h hE
    cases hb : b a1 a2 with
    | none => simp [it2, hb] at h
    | some res =>
      refine step a1 a2 res hb ?_
      cases res with
      | inl x =>
        simp [it2, hb] at h
        subst h
        exact hE
      | inr q =>
        simp [it2, hb] at h
        exact ih _ _ r h hE
def it3 {A1 A2 A3 X : Type} (b : A1 → A2 → A3 → Option (X ⊕ (A1 × A2 × A3))) : Nat → A1 → A2 → A3 → Option X
  | 0, _, _, _ => none
  | n + 1, a1, a2, a3 => match b a1 a2 a3 with
    | none => none
    | some (.inl x) => some x
    | some (.inr (a1, a2, a3)) => it3 b n a1 a2 a3
theorem it3_ind {A1 A2 A3 X : Type} {b : A1 → A2 → A3 → Option (X ⊕ (A1 × A2 × A3))} {E : X → Prop} {P : A1 → A2 → A3 → Prop} (step : ∀ (a1 : A1) (a2 : A2) (a3 : A3) (res : X ⊕ (A1 × A2 × A3)), b a1 a2 a3 = some res → Sum.elim E (fun q => match q with | (a1, a2, a3) => P a1 a2 a3) res → P a1 a2 a3) : ∀ (n : Nat) (a1 : A1) (a2 : A2) (a3 : A3) (r : X), it3 b n a1 a2 a3 = some r → E r → P a1 a2 a3 := by
  intro n
  induction n with
  | zero => intro a1 a2 a3 r h; cases h
  | succ n ih =>
    intro a1 a2 a3 r h hE
    cases hb : b a1 a2 a3 with
    | none => simp [it3, hb] at h
    | some res =>
      refine step a1 a2 a3 res hb ?_
      cases res with
      | inl x =>
        simp [it3, hb] at h
        subst h
        exact hE
      | inr q =>
        simp [it3, hb] at h
        exact ih _ _ _ r h hE
def it4 {A1 A2 A3 A4 X : Type} (b : A1 → A2 → A3 → A4 → Option (X ⊕ (A1 × A2 × A3 × A4))) : Nat → A1 → A2 → A3 → A4 → Option X
  | 0, _, _, _, _ => none
  | n + 1, a1, a2, a3, a4 => match b a1 a2 a3 a4 with
    | none => none
    | some (.inl x) => some x
    | some (.inr (a1, a2, a3, a4)) => it4 b n a1 a2 a3 a4
theorem it4_ind {A1 A2 A3 A4 X : Type} {b : A1 → A2 → A3 → A4 → Option (X ⊕ (A1 × A2 × A3 × A4))} {E : X → Prop} {P : A1 → A2 → A3 → A4 → Prop} (step : ∀ (a1 : A1) (a2 : A2) (a3 : A3) (a4 : A4) (res : X ⊕ (A1 × A2 × A3 × A4)), b a1 a2 a3 a4 = some res → Sum.elim E (fun q => match q with | (a1, a2, a3, a4) => P a1 a2 a3 a4) res → P a1 a2 a3 a4) : ∀ (n : Nat) (a1 : A1) (a2 : A2) (a3 : A3) (a4 : A4) (r : X), it4 b n a1 a2 a3 a4 = some r → E r → P a1 a2 a3 a4 := by
  intro n
  induction n with
  | zero => intro a1 a2 a3 a4 r h; cases h
  | succ n ih =>
    intro a1 a2 a3 a4 r h hE
    cases hb : b a1 a2 a3 a4 with
    | none => simp [it4, hb] at h
    | some res =>
      refine step a1 a2 a3 a4 res hb ?_
      cases res with
      | inl x =>
        simp [it4, hb] at h
        subst h
        exact hE
      | inr q =>
        simp [it4, hb] at h
        exact ih _ _ _ _ r h hE
def it5 {A1 A2 A3 A4 A5 X : Type} (b : A1 → A2 → A3 → A4 → A5 → Option (X ⊕ (A1 × A2 × A3 × A4 × A5))) : Nat → A1 → A2 → A3 → A4 → A5 → Option X
  | 0, _, _, _, _, _ => none
  | n + 1, a1, a2, a3, a4, a5 => match b a1 a2 a3 a4 a5 with
    | none => none
    | some (.inl x) => some x
    | some (.inr (a1, a2, a3, a4, a5)) => it5 b n a1 a2 a3 a4 a5
theorem it5_ind {A1 A2 A3 A4 A5 X : Type} {b : A1 → A2 → A3 → A4 → A5 → Option (X ⊕ (A1 × A2 × A3 × A4 × A5))} {E : X → Prop} {P : A1 → A2 → A3 → A4 → A5 → Prop} (step : ∀ (a1 : A1) (a2 : A2) (a3 : A3) (a4 : A4) (a5 : A5) (res : X ⊕ (A1 × A2 × A3 × A4 × A5)), b a1 a2 a3 a4 a5 = some res → Sum.elim E (fun q => match q with | (a1, a2, a3, a4, a5) => P a1 a2 a3 a4 a5) res → P a1 a2 a3 a4 a5) : ∀ (n : Nat) (a1 : A1) (a2 : A2) (a3 : A3) (a4 : A4) (a5 : A5) (r : X), it5 b n a1 a2 a3 a4 a5 = some r → E r → P a1 a2 a3 a4 a5 := by
  intro n
  induction n with
  | zero => intro a1 a2 a3 a4 a5 r h; cases h
  | succ n ih =>
    intro a1 a2 a3 a4 a5 r h hE
    cases hb : b a1 a2 a3 a4 a5 with
    | none => simp [it5, hb] at h
    | some res =>
      refine step a1 a2 a3 a4 a5 res hb ?_
      cases res with
      | inl x =>
        simp [it5, hb] at h
        subst h
        exact hE
      | inr q =>
        simp [it5, hb] at h
        exact ih _ _ _ _ _ r h hE
def it6 {A1 A2 A3 A4 A5 A6 X : Type} (b : A1 → A2 → A3 → A4 → A5 → A6 → Option (X ⊕ (A1 × A2 × A3 × A4 × A5 × A6))) : Nat → A1 → A2 → A3 → A4 → A5 → A6 → Option X
  | 0, _, _, _, _, _, _ => none
  | n + 1, a1, a2, a3, a4, a5, a6 => match b a1 a2 a3 a4 a5 a6 with
    | none => none
    | some (.inl x) => some x
    | some (.inr (a1, a2, a3, a4, a5, a6)) => it6 b n a1 a2 a3 a4 a5 a6
theorem it6_ind {A1 A2 A3 A4 A5 A6 X : Type} {b : A1 → A2 → A3 → A4 → A5 → A6 → Option (X ⊕ (A1 × A2 × A3 × A4 × A5 × A6))} {E : X → Prop} {P : A1 → A2 → A3 → A4 → A5 → A6 → Prop} (step : ∀ (a1 : A1) (a2 : A2) (a3 : A3) (a4 : A4) (a5 : A5) (a6 : A6) (res : X ⊕ (A1 × A2 × A3 × A4 × A5 × A6)), b a1 a2 a3 a4 a5 a6 = some res → Sum.elim E (fun q => match q with | (a1, a2, a3, a4, a5, a6) => P a1 a2 a3 a4 a5 a6) res → P a1 a2 a3 a4 a5 a6) : ∀ (n : Nat) (a1 : A1) (a2 : A2) (a3 : A3) (a4 : A4) (a5 : A5) (a6 : A6) (r : X), it6 b n a1 a2 a3 a4 a5 a6 = some r → E r → P a1 a2 a3 a4 a5 a6 := by
  intro n
  induction n with
  | zero => intro a1 a2 a3 a4 a5 a6 r h; cases h
  | succ n ih =>
    intro a1 a2 a3 a4 a5 a6 r h hE
    cases hb : b a1 a2 a3 a4 a5 a6 with
    | none => simp [it6, hb] at h
    | some res =>
      refine step a1 a2 a3 a4 a5 a6 res hb ?_
      cases res with
      | inl x =>
        simp [it6, hb] at h
        subst h
        exact hE
      | inr q =>
        simp [it6, hb] at h
        exact ih _ _ _ _ _ _ r h hE
def it7 {A1 A2 A3 A4 A5 A6 A7 X : Type} (b : A1 → A2 → A3 → A4 → A5 → A6 → A7 → Option (X ⊕ (A1 × A2 × A3 × A4 × A5 × A6 × A7))) : Nat → A1 → A2 → A3 → A4 → A5 → A6 → A7 → Option X
  | 0, _, _, _, _, _, _, _ => none
  | n + 1, a1, a2, a3, a4, a5, a6, a7 => match b a1 a2 a3 a4 a5 a6 a7 with
    | none => none
    | some (.inl x) => some x
    | some (.inr (a1, a2, a3, a4, a5, a6, a7)) => it7 b n a1 a2 a3 a4 a5 a6 a7
theorem it7_ind {A1 A2 A3 A4 A5 A6 A7 X : Type} {b : A1 → A2 → A3 → A4 → A5 → A6 → A7 → Option (X ⊕ (A1 × A2 × A3 × A4 × A5 × A6 × A7))} {E : X → Prop} {P : A1 → A2 → A3 → A4 → A5 → A6 → A7 → Prop} (step : ∀ (a1 : A1) (a2 : A2) (a3 : A3) (a4 : A4) (a5 : A5) (a6 : A6) (a7 : A7) (res : X ⊕ (A1 × A2 × A3 × A4 × A5 × A6 × A7)), b a1 a2 a3 a4 a5 a6 a7 = some res → Sum.elim E (fun q => match q with | (a1, a2, a3, a4, a5, a6, a7) => P a1 a2 a3 a4 a5 a6 a7) res → P a1 a2 a3 a4 a5 a6 a7) : ∀ (n : Nat) (a1 : A1) (a2 : A2) (a3 : A3) (a4 : A4) (a5 : A5) (a6 : A6) (a7 : A7) (r : X), it7 b n a1 a2 a3 a4 a5 a6 a7 = some r → E r → P a1 a2 a3 a4 a5 a6 a7 := by
  intro n
  induction n with
  | zero => intro a1 a2 a3 a4 a5 a6 a7 r h; cases h
  | succ n ih =>
    intro a1 a2 a3 a4 a5 a6 a7 r h hE
    cases hb : b a1 a2 a3 a4 a5 a6 a7 with
    | none => simp [it7, hb] at h
    | some res =>
      refine step a1 a2 a3 a4 a5 a6 a7 res hb ?_
      cases res with
      | inl x =>
        simp [it7, hb] at h
        subst h
        exact hE
      | inr q =>
        simp [it7, hb] at h
        exact ih _ _ _ _ _ _ _ r h hE
def it8 {A1 A2 A3 A4 A5 A6 A7 A8 X : Type} (b : A1 → A2 → A3 → A4 → A5 → A6 → A7 → A8 → Option (X ⊕ (A1 × A2 × A3 × A4 × A5 × A6 × A7 × A8))) : Nat → A1 → A2 → A3 → A4 → A5 → A6 → A7 → A8 → Option X
  | 0, _, _, _, _, _, _, _, _ => none
  | n + 1, a1, a2, a3, a4, a5, a6, a7, a8 => match b a1 a2 a3 a4 a5 a6 a7 a8 with
    | none => none
    | some (.inl x) => some x
    | some (.inr (a1, a2, a3, a4, a5, a6, a7, a8)) => it8 b n a1 a2 a3 a4 a5 a6 a7 a8
theorem it8_ind {A1 A2 A3 A4 A5 A6 A7 A8 X : Type} {b : A1 → A2 → A3 → A4 → A5 → A6 → A7 → A8 → Option (X ⊕ (A1 × A2 × A3 × A4 × A5 × A6 × A7 × A8))} {E : X → Prop} {P : A1 → A2 → A3 → A4 → A5 → A6 → A7 → A8 → Prop} (step : ∀ (a1 : A1) (a2 : A2) (a3 : A3) (a4 : A4) (a5 : A5) (a6 : A6) (a7 : A7) (a8 : A8) (res : X ⊕ (A1 × A2 × A3 × A4 × A5 × A6 × A7 × A8)), b a1 a2 a3 a4 a5 a6 a7 a8 = some res → Sum.elim E (fun q => match q with | (a1, a2, a3, a4, a5, a6, a7, a8) => P a1 a2 a3 a4 a5 a6 a7 a8) res → P a1 a2 a3 a4 a5 a6 a7 a8) : ∀ (n : Nat) (a1 : A1) (a2 : A2) (a3 : A3) (a4 : A4) (a5 : A5) (a6 : A6) (a7 : A7) (a8 : A8) (r : X), it8 b n a1 a2 a3 a4 a5 a6 a7 a8 = some r → E r → P a1 a2 a3 a4 a5 a6 a7 a8 := by
  intro n
  induction n with
  | zero => intro a1 a2 a3 a4 a5 a6 a7 a8 r h; cases h
  | succ n ih =>
    intro a1 a2 a3 a4 a5 a6 a7 a8 r h hE
    cases hb : b a1 a2 a3 a4 a5 a6 a7 a8 with
    | none => simp [it8, hb] at h
    | some res =>
      refine step a1 a2 a3 a4 a5 a6 a7 a8 res hb ?_
      cases res with
      | inl x =>
        simp [it8, hb] at h
        subst h
        exact hE
      | inr q =>
        simp [it8, hb] at h
        exact ih _ _ _ _ _ _ _ _ r h hE
def it9 {A1 A2 A3 A4 A5 A6 A7 A8 A9 X : Type} (b : A1 → A2 → A3 → A4 → A5 → A6 → A7 → A8 → A9 → Option (X ⊕ (A1 × A2 × A3 × A4 × A5 × A6 × A7 × A8 × A9))) : Nat → A1 → A2 → A3 → A4 → A5 → A6 → A7 → A8 → A9 → Option X
  | 0, _, _, _, _, _, _, _, _, _ => none
  | n + 1, a1, a2, a3, a4, a5, a6, a7, a8, a9 => match b a1 a2 a3 a4 a5 a6 a7 a8 a9 with
    | none => none
    | some (.inl x) => some x
    | some (.inr (a1, a2, a3, a4, a5, a6, a7, a8, a9)) => it9 b n a1 a2 a3 a4 a5 a6 a7 a8 a9
theorem it9_ind {A1 A2 A3 A4 A5 A6 A7 A8 A9 X : Type} {b : A1 → A2 → A3 → A4 → A5 → A6 → A7 → A8 → A9 → Option (X ⊕ (A1 × A2 × A3 × A4 × A5 × A6 × A7 × A8 × A9))} {E : X → Prop} {P : A1 → A2 → A3 → A4 → A5 → A6 → A7 → A8 → A9 → Prop} (step : ∀ (a1 : A1) (a2 : A2) (a3 : A3) (a4 : A4) (a5 : A5) (a6 : A6) (a7 : A7) (a8 : A8) (a9 : A9) (res : X ⊕ (A1 × A2 × A3 × A4 × A5 × A6 × A7 × A8 × A9)), b a1 a2 a3 a4 a5 a6 a7 a8 a9 = some res → Sum.elim E (fun q => match q with | (a1, a2, a3, a4, a5, a6, a7, a8, a9) => P a1 a2 a3 a4 a5 a6 a7 a8 a9) res → P a1 a2 a3 a4 a5 a6 a7 a8 a9) : ∀ (n : Nat) (a1 : A1) (a2 : A2) (a3 : A3) (a4 : A4) (a5 : A5) (a6 : A6) (a7 : A7) (a8 : A8) (a9 : A9) (r : X), it9 b n a1 a2 a3 a4 a5 a6 a7 a8 a9 = some r → E r → P a1 a2 a3 a4 a5 a6 a7 a8 a9 := by
  intro n
  induction n with
  | zero => intro a1 a2 a3 a4 a5 a6 a7 a8 a9 r h; cases h
  | succ n ih =>
    intro a1 a2 a3 a4 a5 a6 a7 a8 a9 r h hE
    cases hb : b a1 a2 a3 a4 a5 a6 a7 a8 a9 with
    | none => simp [it9, hb] at h
    | some res =>
      refine step a1 a2 a3 a4 a5 a6 a7 a8 a9 res hb ?_
      cases res with
      | inl x =>
        simp [it9, hb] at h
        subst h
        exact hE
      | inr q =>
        simp [it9, hb] at h
        exact ih _ _ _ _ _ _ _ _ _ r h hE
def nm2 {A1 A2 B : Type} (x : A1 × A2) (k : A1 → A2 → Option B) : Option B := match x with
  | (a1, a2) => k a1 a2
def nm3 {A1 A2 A3 B : Type} (x : A1 × A2 × A3) (k : A1 → A2 → A3 → Option B) : Option B := match x with
  | (a1, a2, a3) => k a1 a2 a3
def nm4 {A1 A2 A3 A4 B : Type} (x : A1 × A2 × A3 × A4) (k : A1 → A2 → A3 → A4 → Option B) : Option B := match x with
  | (a1, a2, a3, a4) => k a1 a2 a3 a4
def nm5 {A1 A2 A3 A4 A5 B : Type} (x : A1 × A2 × A3 × A4 × A5) (k : A1 → A2 → A3 → A4 → A5 → Option B) : Option B := match x with
  | (a1, a2, a3, a4, a5) => k a1 a2 a3 a4 a5
def nm6 {A1 A2 A3 A4 A5 A6 B : Type} (x : A1 × A2 × A3 × A4 × A5 × A6) (k : A1 → A2 → A3 → A4 → A5 → A6 → Option B) : Option B := match x with
  | (a1, a2, a3, a4, a5, a6) => k a1 a2 a3 a4 a5 a6
def nm7 {A1 A2 A3 A4 A5 A6 A7 B : Type} (x : A1 × A2 × A3 × A4 × A5 × A6 × A7) (k : A1 → A2 → A3 → A4 → A5 → A6 → A7 → Option B) : Option B := match x with
  | (a1, a2, a3, a4, a5, a6, a7) => k a1 a2 a3 a4 a5 a6 a7
theorem tO3 {x : Int32} (h0 : ¬ x = 0) (h1 : ¬ x = 1) (h2 : ¬ x = 2) : x.toInt < 0 ∨ (2 : Int) < x.toInt := by
  have g0 : x.toInt ≠ 0 := fun h => h0 (Int32.toInt_inj.mp (h.trans (by decide)))
  have g1 : x.toInt ≠ 1 := fun h => h1 (Int32.toInt_inj.mp (h.trans (by decide)))
  have g2 : x.toInt ≠ 2 := fun h => h2 (Int32.toInt_inj.mp (h.trans (by decide)))
  omega
theorem tO4 {x : Int32} (h0 : ¬ x = 0) (h1 : ¬ x = 1) (h2 : ¬ x = 2) (h3 : ¬ x = 3) : x.toInt < 0 ∨ (3 : Int) < x.toInt := by
  have g0 : x.toInt ≠ 0 := fun h => h0 (Int32.toInt_inj.mp (h.trans (by decide)))
  have g1 : x.toInt ≠ 1 := fun h => h1 (Int32.toInt_inj.mp (h.trans (by decide)))
  have g2 : x.toInt ≠ 2 := fun h => h2 (Int32.toInt_inj.mp (h.trans (by decide)))
  have g3 : x.toInt ≠ 3 := fun h => h3 (Int32.toInt_inj.mp (h.trans (by decide)))
  omega
theorem tO6 {x : Int32} (h0 : ¬ x = 0) (h1 : ¬ x = 1) (h2 : ¬ x = 2) (h3 : ¬ x = 3) (h4 : ¬ x = 4) (h5 : ¬ x = 5) : x.toInt < 0 ∨ (5 : Int) < x.toInt := by
  have g0 : x.toInt ≠ 0 := fun h => h0 (Int32.toInt_inj.mp (h.trans (by decide)))
  have g1 : x.toInt ≠ 1 := fun h => h1 (Int32.toInt_inj.mp (h.trans (by decide)))
  have g2 : x.toInt ≠ 2 := fun h => h2 (Int32.toInt_inj.mp (h.trans (by decide)))
  have g3 : x.toInt ≠ 3 := fun h => h3 (Int32.toInt_inj.mp (h.trans (by decide)))
  have g4 : x.toInt ≠ 4 := fun h => h4 (Int32.toInt_inj.mp (h.trans (by decide)))
  have g5 : x.toInt ≠ 5 := fun h => h5 (Int32.toInt_inj.mp (h.trans (by decide)))
  omega
theorem tO7 {x : Int32} (h0 : ¬ x = 0) (h1 : ¬ x = 1) (h2 : ¬ x = 2) (h3 : ¬ x = 3) (h4 : ¬ x = 4) (h5 : ¬ x = 5) (h6 : ¬ x = 6) : x.toInt < 0 ∨ (6 : Int) < x.toInt := by
  have g0 : x.toInt ≠ 0 := fun h => h0 (Int32.toInt_inj.mp (h.trans (by decide)))
  have g1 : x.toInt ≠ 1 := fun h => h1 (Int32.toInt_inj.mp (h.trans (by decide)))
  have g2 : x.toInt ≠ 2 := fun h => h2 (Int32.toInt_inj.mp (h.trans (by decide)))
  have g3 : x.toInt ≠ 3 := fun h => h3 (Int32.toInt_inj.mp (h.trans (by decide)))
  have g4 : x.toInt ≠ 4 := fun h => h4 (Int32.toInt_inj.mp (h.trans (by decide)))
  have g5 : x.toInt ≠ 5 := fun h => h5 (Int32.toInt_inj.mp (h.trans (by decide)))
  have g6 : x.toInt ≠ 6 := fun h => h6 (Int32.toInt_inj.mp (h.trans (by decide)))
  omega
theorem tO28 {x : Int32} (h0 : ¬ x = 0) (h1 : ¬ x = 1) (h2 : ¬ x = 2) (h3 : ¬ x = 3) (h4 : ¬ x = 4) (h5 : ¬ x = 5) (h6 : ¬ x = 6) (h7 : ¬ x = 7) (h8 : ¬ x = 8) (h9 : ¬ x = 9) (h10 : ¬ x = 10) (h11 : ¬ x = 11) (h12 : ¬ x = 12) (h13 : ¬ x = 13) (h14 : ¬ x = 14) (h15 : ¬ x = 15) (h16 : ¬ x = 16) (h17 : ¬ x = 17) (h18 : ¬ x = 18) (h19 : ¬ x = 19) (h20 : ¬ x = 20) (h21 : ¬ x = 21) (h22 : ¬ x = 22) (h23 : ¬ x = 23) (h24 : ¬ x = 24) (h25 : ¬ x = 25) (h26 : ¬ x = 26) (h27 : ¬ x = 27) : x.toInt < 0 ∨ (27 : Int) < x.toInt := by
  have g0 : x.toInt ≠ 0 := fun h => h0 (Int32.toInt_inj.mp (h.trans (by decide)))
  have g1 : x.toInt ≠ 1 := fun h => h1 (Int32.toInt_inj.mp (h.trans (by decide)))
  have g2 : x.toInt ≠ 2 := fun h => h2 (Int32.toInt_inj.mp (h.trans (by decide)))
  have g3 : x.toInt ≠ 3 := fun h => h3 (Int32.toInt_inj.mp (h.trans (by decide)))
  have g4 : x.toInt ≠ 4 := fun h => h4 (Int32.toInt_inj.mp (h.trans (by decide)))
  have g5 : x.toInt ≠ 5 := fun h => h5 (Int32.toInt_inj.mp (h.trans (by decide)))
  have g6 : x.toInt ≠ 6 := fun h => h6 (Int32.toInt_inj.mp (h.trans (by decide)))
  have g7 : x.toInt ≠ 7 := fun h => h7 (Int32.toInt_inj.mp (h.trans (by decide)))
  have g8 : x.toInt ≠ 8 := fun h => h8 (Int32.toInt_inj.mp (h.trans (by decide)))
  have g9 : x.toInt ≠ 9 := fun h => h9 (Int32.toInt_inj.mp (h.trans (by decide)))
  have g10 : x.toInt ≠ 10 := fun h => h10 (Int32.toInt_inj.mp (h.trans (by decide)))
  have g11 : x.toInt ≠ 11 := fun h => h11 (Int32.toInt_inj.mp (h.trans (by decide)))
  have g12 : x.toInt ≠ 12 := fun h => h12 (Int32.toInt_inj.mp (h.trans (by decide)))
  have g13 : x.toInt ≠ 13 := fun h => h13 (Int32.toInt_inj.mp (h.trans (by decide)))
  have g14 : x.toInt ≠ 14 := fun h => h14 (Int32.toInt_inj.mp (h.trans (by decide)))
  have g15 : x.toInt ≠ 15 := fun h => h15 (Int32.toInt_inj.mp (h.trans (by decide)))
  have g16 : x.toInt ≠ 16 := fun h => h16 (Int32.toInt_inj.mp (h.trans (by decide)))
  have g17 : x.toInt ≠ 17 := fun h => h17 (Int32.toInt_inj.mp (h.trans (by decide)))
  have g18 : x.toInt ≠ 18 := fun h => h18 (Int32.toInt_inj.mp (h.trans (by decide)))
  have g19 : x.toInt ≠ 19 := fun h => h19 (Int32.toInt_inj.mp (h.trans (by decide)))
  have g20 : x.toInt ≠ 20 := fun h => h20 (Int32.toInt_inj.mp (h.trans (by decide)))
  have g21 : x.toInt ≠ 21 := fun h => h21 (Int32.toInt_inj.mp (h.trans (by decide)))
  have g22 : x.toInt ≠ 22 := fun h => h22 (Int32.toInt_inj.mp (h.trans (by decide)))
  have g23 : x.toInt ≠ 23 := fun h => h23 (Int32.toInt_inj.mp (h.trans (by decide)))
  have g24 : x.toInt ≠ 24 := fun h => h24 (Int32.toInt_inj.mp (h.trans (by decide)))
  have g25 : x.toInt ≠ 25 := fun h => h25 (Int32.toInt_inj.mp (h.trans (by decide)))
  have g26 : x.toInt ≠ 26 := fun h => h26 (Int32.toInt_inj.mp (h.trans (by decide)))
  have g27 : x.toInt ≠ 27 := fun h => h27 (Int32.toInt_inj.mp (h.trans (by decide)))
  omega
theorem a_iconst {F : FX} {G : GX} {Q : State → Prop} {nL pc q : Nat} {lv : List (Nat × Value)} {st : List Value} {S : SX} {cc : ByteArray} {own : String} {n : Int} {v : Int32} (C : Cx F G cc nL own) (hd : decode cc pc = .ok (.iconst n, 1)) (hq : pc + 1 = q) (hv : Int32.ofInt n = v) (kk : At F G Q nL q lv (.int v :: st) S) : At F G Q nL pc lv (st) S := by
  obtain ⟨p, l, e, R, s, m, args, below, meth, c, ce, sl⟩ := F
  obtain ⟨hx, hb, hml, hown, hts, hlk, hK, hSt⟩ := C
  subst hq
  intro H locs ls hP hD hS hl
  exact lv_iconst hx hb hd hv (kk H locs ls hP hD hS hl)
theorem a_bipush {F : FX} {G : GX} {Q : State → Prop} {nL pc q : Nat} {lv : List (Nat × Value)} {st : List Value} {S : SX} {cc : ByteArray} {own : String} {n : Int} {v : Int32} (C : Cx F G cc nL own) (hd : decode cc pc = .ok (.bipush n, 2)) (hq : pc + 2 = q) (hv : (Int8.ofInt n).toInt32 = v) (kk : At F G Q nL q lv (.int v :: st) S) : At F G Q nL pc lv (st) S := by
  obtain ⟨p, l, e, R, s, m, args, below, meth, c, ce, sl⟩ := F
  obtain ⟨hx, hb, hml, hown, hts, hlk, hK, hSt⟩ := C
  subst hq
  intro H locs ls hP hD hS hl
  exact lv_bipush hx hb hd hv (kk H locs ls hP hD hS hl)
theorem a_sipush {F : FX} {G : GX} {Q : State → Prop} {nL pc q : Nat} {lv : List (Nat × Value)} {st : List Value} {S : SX} {cc : ByteArray} {own : String} {n : Int} {v : Int32} (C : Cx F G cc nL own) (hd : decode cc pc = .ok (.sipush n, 3)) (hq : pc + 3 = q) (hv : (Int16.ofInt n).toInt32 = v) (kk : At F G Q nL q lv (.int v :: st) S) : At F G Q nL pc lv (st) S := by
  obtain ⟨p, l, e, R, s, m, args, below, meth, c, ce, sl⟩ := F
  obtain ⟨hx, hb, hml, hown, hts, hlk, hK, hSt⟩ := C
  subst hq
  intro H locs ls hP hD hS hl
  exact lv_sipush hx hb hd hv (kk H locs ls hP hD hS hl)
theorem a_lconst {F : FX} {G : GX} {Q : State → Prop} {nL pc q : Nat} {lv : List (Nat × Value)} {st : List Value} {S : SX} {cc : ByteArray} {own : String} {n : Fin 2} {v : Int64} (C : Cx F G cc nL own) (hd : decode cc pc = .ok (.lconst n, 1)) (hq : pc + 1 = q) (hv : Int64.ofNat (n : Nat) = v) (kk : At F G Q nL q lv (.long v :: st) S) : At F G Q nL pc lv (st) S := by
  obtain ⟨p, l, e, R, s, m, args, below, meth, c, ce, sl⟩ := F
  obtain ⟨hx, hb, hml, hown, hts, hlk, hK, hSt⟩ := C
  subst hq
  intro H locs ls hP hD hS hl
  exact lv_lconst hx hb hd hv (kk H locs ls hP hD hS hl)
theorem a_iload_n {F : FX} {G : GX} {Q : State → Prop} {nL pc q : Nat} {lv : List (Nat × Value)} {st : List Value} {S : SX} {cc : ByteArray} {own : String} {k : Fin 4} {i : Nat} {x : Int32} (C : Cx F G cc nL own) (hd : decode cc pc = .ok (.iload_n k, 1)) (hq : pc + 1 = q) (j : Nat) (hi : (k : Nat) = i) (hj : lv[j]? = some (i, .int x)) (kk : At F G Q nL q lv (.int x :: st) S) : At F G Q nL pc lv (st) S := by
  obtain ⟨p, l, e, R, s, m, args, below, meth, c, ce, sl⟩ := F
  obtain ⟨hx, hb, hml, hown, hts, hlk, hK, hSt⟩ := C
  subst hq
  intro H locs ls hP hD hS hl
  exact lv_iload_n hx hb hd hi (lv_at hl j hj) (kk H locs ls hP hD hS hl)
theorem a_iload {F : FX} {G : GX} {Q : State → Prop} {nL pc q : Nat} {lv : List (Nat × Value)} {st : List Value} {S : SX} {cc : ByteArray} {own : String} {i : Nat} {x : Int32} (C : Cx F G cc nL own) (hd : decode cc pc = .ok (.iload i, 2)) (hq : pc + 2 = q) (j : Nat) (hj : lv[j]? = some (i, .int x)) (kk : At F G Q nL q lv (.int x :: st) S) : At F G Q nL pc lv (st) S := by
  obtain ⟨p, l, e, R, s, m, args, below, meth, c, ce, sl⟩ := F
  obtain ⟨hx, hb, hml, hown, hts, hlk, hK, hSt⟩ := C
  subst hq
  intro H locs ls hP hD hS hl
  exact lv_iload hx hb hd (lv_at hl j hj) (kk H locs ls hP hD hS hl)
theorem a_istore_n {F : FX} {G : GX} {Q : State → Prop} {nL pc q : Nat} {lv : List (Nat × Value)} {st : List Value} {S : SX} {cc : ByteArray} {own : String} {k : Fin 4} {i : Nat} {x : Int32} {lv' : List (Nat × Value)} (C : Cx F G cc nL own) (hd : decode cc pc = .ok (.istore_n k, 1)) (hi : (k : Nat) = i) (hn : i < nL) (hl' : (i, Value.int x) :: lv.filter (fun q => !(q.1 == i) && !(q.1 + 1 == i && q.2.category == 2)) = lv') (hq : pc + 1 = q) (kk : At F G Q nL q lv' st S) : At F G Q nL pc lv (.int x :: st) S := by
  obtain ⟨p, l, e, R, s, m, args, below, meth, c, ce, sl⟩ := F
  obtain ⟨hx, hb, hml, hown, hts, hlk, hK, hSt⟩ := C
  subst hq
  intro H locs ls hP hD hS hl
  exact lv_istore_n hx hb hd hi hl hn hl' (fun ls' hl => kk H locs ls' hP hD hS hl)
theorem a_istore_nN {F : FX} {G : GX} {Q : State → Prop} {nL pc q : Nat} {lv : List (Nat × Value)} {st : List Value} {S : SX} {cc : ByteArray} {own : String} {k : Fin 4} {i : Nat} {x : Int32} {B : Type} {f : Int32 → Option B} {r : B} {lv' : Int32 → List (Nat × Value)} (C : Cx F G cc nL own) (hd : decode cc pc = .ok (.istore_n k, 1)) (hf : nm x f = some r) (hi : (k : Nat) = i) (hn : i < nL) (hl' : ∀ x : Int32, (i, Value.int x) :: lv.filter (fun q => !(q.1 == i) && !(q.1 + 1 == i && q.2.category == 2)) = lv' x) (hq : pc + 1 = q) (kk : ∀ x : Int32, f x = some r → At F G Q nL q (lv' x) st S) : At F G Q nL pc lv (.int x :: st) S := by
  obtain ⟨p, l, e, R, s, m, args, below, meth, c, ce, sl⟩ := F
  obtain ⟨hx, hb, hml, hown, hts, hlk, hK, hSt⟩ := C
  subst hq
  intro H locs ls hP hD hS hl
  exact lv_istore_n hx hb hd hi hl hn (hl' x) (fun ls' hl => kk x hf H locs ls' hP hD hS hl)
theorem a_istore {F : FX} {G : GX} {Q : State → Prop} {nL pc q : Nat} {lv : List (Nat × Value)} {st : List Value} {S : SX} {cc : ByteArray} {own : String} {i : Nat} {x : Int32} {lv' : List (Nat × Value)} (C : Cx F G cc nL own) (hd : decode cc pc = .ok (.istore i, 2)) (hn : i < nL) (hl' : (i, Value.int x) :: lv.filter (fun q => !(q.1 == i) && !(q.1 + 1 == i && q.2.category == 2)) = lv') (hq : pc + 2 = q) (kk : At F G Q nL q lv' st S) : At F G Q nL pc lv (.int x :: st) S := by
  obtain ⟨p, l, e, R, s, m, args, below, meth, c, ce, sl⟩ := F
  obtain ⟨hx, hb, hml, hown, hts, hlk, hK, hSt⟩ := C
  subst hq
  intro H locs ls hP hD hS hl
  exact lv_istore hx hb hd  hl hn hl' (fun ls' hl => kk H locs ls' hP hD hS hl)
theorem a_istoreN {F : FX} {G : GX} {Q : State → Prop} {nL pc q : Nat} {lv : List (Nat × Value)} {st : List Value} {S : SX} {cc : ByteArray} {own : String} {i : Nat} {x : Int32} {B : Type} {f : Int32 → Option B} {r : B} {lv' : Int32 → List (Nat × Value)} (C : Cx F G cc nL own) (hd : decode cc pc = .ok (.istore i, 2)) (hf : nm x f = some r) (hn : i < nL) (hl' : ∀ x : Int32, (i, Value.int x) :: lv.filter (fun q => !(q.1 == i) && !(q.1 + 1 == i && q.2.category == 2)) = lv' x) (hq : pc + 2 = q) (kk : ∀ x : Int32, f x = some r → At F G Q nL q (lv' x) st S) : At F G Q nL pc lv (.int x :: st) S := by
  obtain ⟨p, l, e, R, s, m, args, below, meth, c, ce, sl⟩ := F
  obtain ⟨hx, hb, hml, hown, hts, hlk, hK, hSt⟩ := C
  subst hq
  intro H locs ls hP hD hS hl
  exact lv_istore hx hb hd  hl hn (hl' x) (fun ls' hl => kk x hf H locs ls' hP hD hS hl)
theorem a_lload_n {F : FX} {G : GX} {Q : State → Prop} {nL pc q : Nat} {lv : List (Nat × Value)} {st : List Value} {S : SX} {cc : ByteArray} {own : String} {k : Fin 4} {i : Nat} {x : Int64} (C : Cx F G cc nL own) (hd : decode cc pc = .ok (.lload_n k, 1)) (hq : pc + 1 = q) (j : Nat) (hi : (k : Nat) = i) (hj : lv[j]? = some (i, .long x)) (kk : At F G Q nL q lv (.long x :: st) S) : At F G Q nL pc lv (st) S := by
  obtain ⟨p, l, e, R, s, m, args, below, meth, c, ce, sl⟩ := F
  obtain ⟨hx, hb, hml, hown, hts, hlk, hK, hSt⟩ := C
  subst hq
  intro H locs ls hP hD hS hl
  exact lv_lload_n hx hb hd hi (lv_at hl j hj) (kk H locs ls hP hD hS hl)
theorem a_lload {F : FX} {G : GX} {Q : State → Prop} {nL pc q : Nat} {lv : List (Nat × Value)} {st : List Value} {S : SX} {cc : ByteArray} {own : String} {i : Nat} {x : Int64} (C : Cx F G cc nL own) (hd : decode cc pc = .ok (.lload i, 2)) (hq : pc + 2 = q) (j : Nat) (hj : lv[j]? = some (i, .long x)) (kk : At F G Q nL q lv (.long x :: st) S) : At F G Q nL pc lv (st) S := by
  obtain ⟨p, l, e, R, s, m, args, below, meth, c, ce, sl⟩ := F
  obtain ⟨hx, hb, hml, hown, hts, hlk, hK, hSt⟩ := C
  subst hq
  intro H locs ls hP hD hS hl
  exact lv_lload hx hb hd (lv_at hl j hj) (kk H locs ls hP hD hS hl)
theorem a_lstore_n {F : FX} {G : GX} {Q : State → Prop} {nL pc q : Nat} {lv : List (Nat × Value)} {st : List Value} {S : SX} {cc : ByteArray} {own : String} {k : Fin 4} {i : Nat} {x : Int64} {lv' : List (Nat × Value)} (C : Cx F G cc nL own) (hd : decode cc pc = .ok (.lstore_n k, 1)) (hi : (k : Nat) = i) (hn : i + 1 < nL) (hl' : (i, Value.long x) :: lv.filter (fun q => !(q.1 == i) && (!(q.1 == i + 1) && !(q.1 + 1 == i && q.2.category == 2))) = lv') (hq : pc + 1 = q) (kk : At F G Q nL q lv' st S) : At F G Q nL pc lv (.long x :: st) S := by
  obtain ⟨p, l, e, R, s, m, args, below, meth, c, ce, sl⟩ := F
  obtain ⟨hx, hb, hml, hown, hts, hlk, hK, hSt⟩ := C
  subst hq
  intro H locs ls hP hD hS hl
  exact lv_lstore_n hx hb hd hi hl hn hl' (fun ls' hl => kk H locs ls' hP hD hS hl)
theorem a_lstore_nN {F : FX} {G : GX} {Q : State → Prop} {nL pc q : Nat} {lv : List (Nat × Value)} {st : List Value} {S : SX} {cc : ByteArray} {own : String} {k : Fin 4} {i : Nat} {x : Int64} {B : Type} {f : Int64 → Option B} {r : B} {lv' : Int64 → List (Nat × Value)} (C : Cx F G cc nL own) (hd : decode cc pc = .ok (.lstore_n k, 1)) (hf : nm x f = some r) (hi : (k : Nat) = i) (hn : i + 1 < nL) (hl' : ∀ x : Int64, (i, Value.long x) :: lv.filter (fun q => !(q.1 == i) && (!(q.1 == i + 1) && !(q.1 + 1 == i && q.2.category == 2))) = lv' x) (hq : pc + 1 = q) (kk : ∀ x : Int64, f x = some r → At F G Q nL q (lv' x) st S) : At F G Q nL pc lv (.long x :: st) S := by
  obtain ⟨p, l, e, R, s, m, args, below, meth, c, ce, sl⟩ := F
  obtain ⟨hx, hb, hml, hown, hts, hlk, hK, hSt⟩ := C
  subst hq
  intro H locs ls hP hD hS hl
  exact lv_lstore_n hx hb hd hi hl hn (hl' x) (fun ls' hl => kk x hf H locs ls' hP hD hS hl)
theorem a_lstore {F : FX} {G : GX} {Q : State → Prop} {nL pc q : Nat} {lv : List (Nat × Value)} {st : List Value} {S : SX} {cc : ByteArray} {own : String} {i : Nat} {x : Int64} {lv' : List (Nat × Value)} (C : Cx F G cc nL own) (hd : decode cc pc = .ok (.lstore i, 2)) (hn : i + 1 < nL) (hl' : (i, Value.long x) :: lv.filter (fun q => !(q.1 == i) && (!(q.1 == i + 1) && !(q.1 + 1 == i && q.2.category == 2))) = lv') (hq : pc + 2 = q) (kk : At F G Q nL q lv' st S) : At F G Q nL pc lv (.long x :: st) S := by
  obtain ⟨p, l, e, R, s, m, args, below, meth, c, ce, sl⟩ := F
  obtain ⟨hx, hb, hml, hown, hts, hlk, hK, hSt⟩ := C
  subst hq
  intro H locs ls hP hD hS hl
  exact lv_lstore hx hb hd  hl hn hl' (fun ls' hl => kk H locs ls' hP hD hS hl)
theorem a_lstoreN {F : FX} {G : GX} {Q : State → Prop} {nL pc q : Nat} {lv : List (Nat × Value)} {st : List Value} {S : SX} {cc : ByteArray} {own : String} {i : Nat} {x : Int64} {B : Type} {f : Int64 → Option B} {r : B} {lv' : Int64 → List (Nat × Value)} (C : Cx F G cc nL own) (hd : decode cc pc = .ok (.lstore i, 2)) (hf : nm x f = some r) (hn : i + 1 < nL) (hl' : ∀ x : Int64, (i, Value.long x) :: lv.filter (fun q => !(q.1 == i) && (!(q.1 == i + 1) && !(q.1 + 1 == i && q.2.category == 2))) = lv' x) (hq : pc + 2 = q) (kk : ∀ x : Int64, f x = some r → At F G Q nL q (lv' x) st S) : At F G Q nL pc lv (.long x :: st) S := by
  obtain ⟨p, l, e, R, s, m, args, below, meth, c, ce, sl⟩ := F
  obtain ⟨hx, hb, hml, hown, hts, hlk, hK, hSt⟩ := C
  subst hq
  intro H locs ls hP hD hS hl
  exact lv_lstore hx hb hd  hl hn (hl' x) (fun ls' hl => kk x hf H locs ls' hP hD hS hl)
theorem a_aload_n {F : FX} {G : GX} {Q : State → Prop} {nL pc q : Nat} {lv : List (Nat × Value)} {st : List Value} {S : SX} {cc : ByteArray} {own : String} {k : Fin 4} {i : Nat} {x : Nat} (C : Cx F G cc nL own) (hd : decode cc pc = .ok (.aload_n k, 1)) (hq : pc + 1 = q) (j : Nat) (hi : (k : Nat) = i) (hj : lv[j]? = some (i, .ref x)) (kk : At F G Q nL q lv (.ref x :: st) S) : At F G Q nL pc lv (st) S := by
  obtain ⟨p, l, e, R, s, m, args, below, meth, c, ce, sl⟩ := F
  obtain ⟨hx, hb, hml, hown, hts, hlk, hK, hSt⟩ := C
  subst hq
  intro H locs ls hP hD hS hl
  exact lv_aload_n hx hb hd hi (lv_at hl j hj) (kk H locs ls hP hD hS hl)
theorem a_aload {F : FX} {G : GX} {Q : State → Prop} {nL pc q : Nat} {lv : List (Nat × Value)} {st : List Value} {S : SX} {cc : ByteArray} {own : String} {i : Nat} {x : Nat} (C : Cx F G cc nL own) (hd : decode cc pc = .ok (.aload i, 2)) (hq : pc + 2 = q) (j : Nat) (hj : lv[j]? = some (i, .ref x)) (kk : At F G Q nL q lv (.ref x :: st) S) : At F G Q nL pc lv (st) S := by
  obtain ⟨p, l, e, R, s, m, args, below, meth, c, ce, sl⟩ := F
  obtain ⟨hx, hb, hml, hown, hts, hlk, hK, hSt⟩ := C
  subst hq
  intro H locs ls hP hD hS hl
  exact lv_aload hx hb hd (lv_at hl j hj) (kk H locs ls hP hD hS hl)
theorem a_astore_n {F : FX} {G : GX} {Q : State → Prop} {nL pc q : Nat} {lv : List (Nat × Value)} {st : List Value} {S : SX} {cc : ByteArray} {own : String} {k : Fin 4} {i : Nat} {x : Nat} {lv' : List (Nat × Value)} (C : Cx F G cc nL own) (hd : decode cc pc = .ok (.astore_n k, 1)) (hi : (k : Nat) = i) (hn : i < nL) (hl' : (i, Value.ref x) :: lv.filter (fun q => !(q.1 == i) && !(q.1 + 1 == i && q.2.category == 2)) = lv') (hq : pc + 1 = q) (kk : At F G Q nL q lv' st S) : At F G Q nL pc lv (.ref x :: st) S := by
  obtain ⟨p, l, e, R, s, m, args, below, meth, c, ce, sl⟩ := F
  obtain ⟨hx, hb, hml, hown, hts, hlk, hK, hSt⟩ := C
  subst hq
  intro H locs ls hP hD hS hl
  exact lv_astore_n hx hb hd hi hl hn hl' (fun ls' hl => kk H locs ls' hP hD hS hl)
theorem a_astore {F : FX} {G : GX} {Q : State → Prop} {nL pc q : Nat} {lv : List (Nat × Value)} {st : List Value} {S : SX} {cc : ByteArray} {own : String} {i : Nat} {x : Nat} {lv' : List (Nat × Value)} (C : Cx F G cc nL own) (hd : decode cc pc = .ok (.astore i, 2)) (hn : i < nL) (hl' : (i, Value.ref x) :: lv.filter (fun q => !(q.1 == i) && !(q.1 + 1 == i && q.2.category == 2)) = lv') (hq : pc + 2 = q) (kk : At F G Q nL q lv' st S) : At F G Q nL pc lv (.ref x :: st) S := by
  obtain ⟨p, l, e, R, s, m, args, below, meth, c, ce, sl⟩ := F
  obtain ⟨hx, hb, hml, hown, hts, hlk, hK, hSt⟩ := C
  subst hq
  intro H locs ls hP hD hS hl
  exact lv_astore hx hb hd  hl hn hl' (fun ls' hl => kk H locs ls' hP hD hS hl)
theorem a_iincN {F : FX} {G : GX} {Q : State → Prop} {nL pc q : Nat} {lv : List (Nat × Value)} {st : List Value} {S : SX} {cc : ByteArray} {own : String} {i k : Nat} {n : Int} {x y : Int32} {B : Type} {f : Int32 → Option B} {r : B} {lv' : Int32 → List (Nat × Value)} (C : Cx F G cc nL own) (hd : decode cc pc = .ok (.iinc i n, 3)) (hf : nm y f = some r) (hk : lv[k]? = some (i, .int x)) (hv : x + Int32.ofInt n = y) (hn : i < nL) (hl' : ∀ x : Int32, (i, Value.int x) :: lv.filter (fun q => !(q.1 == i) && !(q.1 + 1 == i && q.2.category == 2)) = lv' x) (hq : pc + 3 = q) (kk : ∀ x : Int32, f x = some r → At F G Q nL q (lv' x) st S) : At F G Q nL pc lv st S := by
  obtain ⟨p, l, e, R, s, m, args, below, meth, c, ce, sl⟩ := F
  obtain ⟨hx, hb, hml, hown, hts, hlk, hK, hSt⟩ := C
  subst hq
  intro H locs ls hP hD hS hl
  exact lv_iinc hx hb hd hl hk hv hn (hl' y) (fun ls' hl => kk y hf H locs ls' hP hD hS hl)
theorem a_iadd {F : FX} {G : GX} {Q : State → Prop} {nL pc q : Nat} {lv : List (Nat × Value)} {st : List Value} {S : SX} {cc : ByteArray} {own : String} {x y : Int32} (C : Cx F G cc nL own) (hd : decode cc pc = .ok (.iadd, 1)) (hq : pc + 1 = q) (kk : At F G Q nL q lv (.int (x + y) :: st) S) : At F G Q nL pc lv (.int y :: .int x :: st) S := by
  obtain ⟨p, l, e, R, s, m, args, below, meth, c, ce, sl⟩ := F
  obtain ⟨hx, hb, hml, hown, hts, hlk, hK, hSt⟩ := C
  subst hq
  intro H locs ls hP hD hS hl
  exact lv_iadd hx hb hd (kk H locs ls hP hD hS hl)
theorem a_isub {F : FX} {G : GX} {Q : State → Prop} {nL pc q : Nat} {lv : List (Nat × Value)} {st : List Value} {S : SX} {cc : ByteArray} {own : String} {x y : Int32} (C : Cx F G cc nL own) (hd : decode cc pc = .ok (.isub, 1)) (hq : pc + 1 = q) (kk : At F G Q nL q lv (.int (x - y) :: st) S) : At F G Q nL pc lv (.int y :: .int x :: st) S := by
  obtain ⟨p, l, e, R, s, m, args, below, meth, c, ce, sl⟩ := F
  obtain ⟨hx, hb, hml, hown, hts, hlk, hK, hSt⟩ := C
  subst hq
  intro H locs ls hP hD hS hl
  exact lv_isub hx hb hd (kk H locs ls hP hD hS hl)
theorem a_imul {F : FX} {G : GX} {Q : State → Prop} {nL pc q : Nat} {lv : List (Nat × Value)} {st : List Value} {S : SX} {cc : ByteArray} {own : String} {x y : Int32} (C : Cx F G cc nL own) (hd : decode cc pc = .ok (.imul, 1)) (hq : pc + 1 = q) (kk : At F G Q nL q lv (.int (x * y) :: st) S) : At F G Q nL pc lv (.int y :: .int x :: st) S := by
  obtain ⟨p, l, e, R, s, m, args, below, meth, c, ce, sl⟩ := F
  obtain ⟨hx, hb, hml, hown, hts, hlk, hK, hSt⟩ := C
  subst hq
  intro H locs ls hP hD hS hl
  exact lv_imul hx hb hd (kk H locs ls hP hD hS hl)
theorem a_iand {F : FX} {G : GX} {Q : State → Prop} {nL pc q : Nat} {lv : List (Nat × Value)} {st : List Value} {S : SX} {cc : ByteArray} {own : String} {x y : Int32} (C : Cx F G cc nL own) (hd : decode cc pc = .ok (.iand, 1)) (hq : pc + 1 = q) (kk : At F G Q nL q lv (.int (x &&& y) :: st) S) : At F G Q nL pc lv (.int y :: .int x :: st) S := by
  obtain ⟨p, l, e, R, s, m, args, below, meth, c, ce, sl⟩ := F
  obtain ⟨hx, hb, hml, hown, hts, hlk, hK, hSt⟩ := C
  subst hq
  intro H locs ls hP hD hS hl
  exact lv_iand hx hb hd (kk H locs ls hP hD hS hl)
theorem a_ior {F : FX} {G : GX} {Q : State → Prop} {nL pc q : Nat} {lv : List (Nat × Value)} {st : List Value} {S : SX} {cc : ByteArray} {own : String} {x y : Int32} (C : Cx F G cc nL own) (hd : decode cc pc = .ok (.ior, 1)) (hq : pc + 1 = q) (kk : At F G Q nL q lv (.int (x ||| y) :: st) S) : At F G Q nL pc lv (.int y :: .int x :: st) S := by
  obtain ⟨p, l, e, R, s, m, args, below, meth, c, ce, sl⟩ := F
  obtain ⟨hx, hb, hml, hown, hts, hlk, hK, hSt⟩ := C
  subst hq
  intro H locs ls hP hD hS hl
  exact lv_ior hx hb hd (kk H locs ls hP hD hS hl)
theorem a_ixor {F : FX} {G : GX} {Q : State → Prop} {nL pc q : Nat} {lv : List (Nat × Value)} {st : List Value} {S : SX} {cc : ByteArray} {own : String} {x y : Int32} (C : Cx F G cc nL own) (hd : decode cc pc = .ok (.ixor, 1)) (hq : pc + 1 = q) (kk : At F G Q nL q lv (.int (x ^^^ y) :: st) S) : At F G Q nL pc lv (.int y :: .int x :: st) S := by
  obtain ⟨p, l, e, R, s, m, args, below, meth, c, ce, sl⟩ := F
  obtain ⟨hx, hb, hml, hown, hts, hlk, hK, hSt⟩ := C
  subst hq
  intro H locs ls hP hD hS hl
  exact lv_ixor hx hb hd (kk H locs ls hP hD hS hl)
theorem a_ishl {F : FX} {G : GX} {Q : State → Prop} {nL pc q : Nat} {lv : List (Nat × Value)} {st : List Value} {S : SX} {cc : ByteArray} {own : String} {x y : Int32} (C : Cx F G cc nL own) (hd : decode cc pc = .ok (.ishl, 1)) (hq : pc + 1 = q) (kk : At F G Q nL q lv (.int (x <<< (y &&& 31)) :: st) S) : At F G Q nL pc lv (.int y :: .int x :: st) S := by
  obtain ⟨p, l, e, R, s, m, args, below, meth, c, ce, sl⟩ := F
  obtain ⟨hx, hb, hml, hown, hts, hlk, hK, hSt⟩ := C
  subst hq
  intro H locs ls hP hD hS hl
  exact lv_ishl hx hb hd (kk H locs ls hP hD hS hl)
theorem a_ishr {F : FX} {G : GX} {Q : State → Prop} {nL pc q : Nat} {lv : List (Nat × Value)} {st : List Value} {S : SX} {cc : ByteArray} {own : String} {x y : Int32} (C : Cx F G cc nL own) (hd : decode cc pc = .ok (.ishr, 1)) (hq : pc + 1 = q) (kk : At F G Q nL q lv (.int (x >>> (y &&& 31)) :: st) S) : At F G Q nL pc lv (.int y :: .int x :: st) S := by
  obtain ⟨p, l, e, R, s, m, args, below, meth, c, ce, sl⟩ := F
  obtain ⟨hx, hb, hml, hown, hts, hlk, hK, hSt⟩ := C
  subst hq
  intro H locs ls hP hD hS hl
  exact lv_ishr hx hb hd (kk H locs ls hP hD hS hl)
theorem a_ladd {F : FX} {G : GX} {Q : State → Prop} {nL pc q : Nat} {lv : List (Nat × Value)} {st : List Value} {S : SX} {cc : ByteArray} {own : String} {x y : Int64} (C : Cx F G cc nL own) (hd : decode cc pc = .ok (.ladd, 1)) (hq : pc + 1 = q) (kk : At F G Q nL q lv (.long (x + y) :: st) S) : At F G Q nL pc lv (.long y :: .long x :: st) S := by
  obtain ⟨p, l, e, R, s, m, args, below, meth, c, ce, sl⟩ := F
  obtain ⟨hx, hb, hml, hown, hts, hlk, hK, hSt⟩ := C
  subst hq
  intro H locs ls hP hD hS hl
  exact lv_ladd hx hb hd (kk H locs ls hP hD hS hl)
theorem a_lsub {F : FX} {G : GX} {Q : State → Prop} {nL pc q : Nat} {lv : List (Nat × Value)} {st : List Value} {S : SX} {cc : ByteArray} {own : String} {x y : Int64} (C : Cx F G cc nL own) (hd : decode cc pc = .ok (.lsub, 1)) (hq : pc + 1 = q) (kk : At F G Q nL q lv (.long (x - y) :: st) S) : At F G Q nL pc lv (.long y :: .long x :: st) S := by
  obtain ⟨p, l, e, R, s, m, args, below, meth, c, ce, sl⟩ := F
  obtain ⟨hx, hb, hml, hown, hts, hlk, hK, hSt⟩ := C
  subst hq
  intro H locs ls hP hD hS hl
  exact lv_lsub hx hb hd (kk H locs ls hP hD hS hl)
theorem a_lmul {F : FX} {G : GX} {Q : State → Prop} {nL pc q : Nat} {lv : List (Nat × Value)} {st : List Value} {S : SX} {cc : ByteArray} {own : String} {x y : Int64} (C : Cx F G cc nL own) (hd : decode cc pc = .ok (.lmul, 1)) (hq : pc + 1 = q) (kk : At F G Q nL q lv (.long (x * y) :: st) S) : At F G Q nL pc lv (.long y :: .long x :: st) S := by
  obtain ⟨p, l, e, R, s, m, args, below, meth, c, ce, sl⟩ := F
  obtain ⟨hx, hb, hml, hown, hts, hlk, hK, hSt⟩ := C
  subst hq
  intro H locs ls hP hD hS hl
  exact lv_lmul hx hb hd (kk H locs ls hP hD hS hl)
theorem a_land {F : FX} {G : GX} {Q : State → Prop} {nL pc q : Nat} {lv : List (Nat × Value)} {st : List Value} {S : SX} {cc : ByteArray} {own : String} {x y : Int64} (C : Cx F G cc nL own) (hd : decode cc pc = .ok (.land, 1)) (hq : pc + 1 = q) (kk : At F G Q nL q lv (.long (x &&& y) :: st) S) : At F G Q nL pc lv (.long y :: .long x :: st) S := by
  obtain ⟨p, l, e, R, s, m, args, below, meth, c, ce, sl⟩ := F
  obtain ⟨hx, hb, hml, hown, hts, hlk, hK, hSt⟩ := C
  subst hq
  intro H locs ls hP hD hS hl
  exact lv_land hx hb hd (kk H locs ls hP hD hS hl)
theorem a_lor {F : FX} {G : GX} {Q : State → Prop} {nL pc q : Nat} {lv : List (Nat × Value)} {st : List Value} {S : SX} {cc : ByteArray} {own : String} {x y : Int64} (C : Cx F G cc nL own) (hd : decode cc pc = .ok (.lor, 1)) (hq : pc + 1 = q) (kk : At F G Q nL q lv (.long (x ||| y) :: st) S) : At F G Q nL pc lv (.long y :: .long x :: st) S := by
  obtain ⟨p, l, e, R, s, m, args, below, meth, c, ce, sl⟩ := F
  obtain ⟨hx, hb, hml, hown, hts, hlk, hK, hSt⟩ := C
  subst hq
  intro H locs ls hP hD hS hl
  exact lv_lor hx hb hd (kk H locs ls hP hD hS hl)
theorem a_idiv {F : FX} {G : GX} {Q : State → Prop} {nL pc q : Nat} {lv : List (Nat × Value)} {st : List Value} {S : SX} {cc : ByteArray} {own : String} {x y : Int32} (C : Cx F G cc nL own) (hd : decode cc pc = .ok (.idiv, 1)) (hq : pc + 1 = q) (hne : ¬ y = 0) (kk : At F G Q nL q lv (.int (x / y) :: st) S) : At F G Q nL pc lv (.int y :: .int x :: st) S := by
  obtain ⟨p, l, e, R, s, m, args, below, meth, c, ce, sl⟩ := F
  obtain ⟨hx, hb, hml, hown, hts, hlk, hK, hSt⟩ := C
  subst hq
  intro H locs ls hP hD hS hl
  exact lv_idiv hx hb hd hne (kk H locs ls hP hD hS hl)
theorem a_irem {F : FX} {G : GX} {Q : State → Prop} {nL pc q : Nat} {lv : List (Nat × Value)} {st : List Value} {S : SX} {cc : ByteArray} {own : String} {x y : Int32} (C : Cx F G cc nL own) (hd : decode cc pc = .ok (.irem, 1)) (hq : pc + 1 = q) (hne : ¬ y = 0) (kk : At F G Q nL q lv (.int (x - x / y * y) :: st) S) : At F G Q nL pc lv (.int y :: .int x :: st) S := by
  obtain ⟨p, l, e, R, s, m, args, below, meth, c, ce, sl⟩ := F
  obtain ⟨hx, hb, hml, hown, hts, hlk, hK, hSt⟩ := C
  subst hq
  intro H locs ls hP hD hS hl
  exact lv_irem hx hb hd hne (kk H locs ls hP hD hS hl)
theorem a_ineg {F : FX} {G : GX} {Q : State → Prop} {nL pc q : Nat} {lv : List (Nat × Value)} {st : List Value} {S : SX} {cc : ByteArray} {own : String} {x : Int32} (C : Cx F G cc nL own) (hd : decode cc pc = .ok (.ineg, 1)) (hq : pc + 1 = q) (kk : At F G Q nL q lv (.int (-x) :: st) S) : At F G Q nL pc lv (.int x :: st) S := by
  obtain ⟨p, l, e, R, s, m, args, below, meth, c, ce, sl⟩ := F
  obtain ⟨hx, hb, hml, hown, hts, hlk, hK, hSt⟩ := C
  subst hq
  intro H locs ls hP hD hS hl
  exact lv_ineg hx hb hd (kk H locs ls hP hD hS hl)
theorem a_iushr {F : FX} {G : GX} {Q : State → Prop} {nL pc q : Nat} {lv : List (Nat × Value)} {st : List Value} {S : SX} {cc : ByteArray} {own : String} {x y : Int32} (C : Cx F G cc nL own) (hd : decode cc pc = .ok (.iushr, 1)) (hq : pc + 1 = q) (kk : At F G Q nL q lv (.int ((x.toUInt32 >>> (y.toUInt32 &&& Int32.toUInt32 31)).toInt32) :: st) S) : At F G Q nL pc lv (.int y :: .int x :: st) S := by
  obtain ⟨p, l, e, R, s, m, args, below, meth, c, ce, sl⟩ := F
  obtain ⟨hx, hb, hml, hown, hts, hlk, hK, hSt⟩ := C
  subst hq
  intro H locs ls hP hD hS hl
  exact lv_iushr hx hb hd rfl (kk H locs ls hP hD hS hl)
theorem a_lushr {F : FX} {G : GX} {Q : State → Prop} {nL pc q : Nat} {lv : List (Nat × Value)} {st : List Value} {S : SX} {cc : ByteArray} {own : String} {x : Int64} {y : Int32} (C : Cx F G cc nL own) (hd : decode cc pc = .ok (.lushr, 1)) (hq : pc + 1 = q) (kk : At F G Q nL q lv (.long ((x.toUInt64 >>> (y.toInt64.toUInt64 &&& Int64.toUInt64 63)).toInt64) :: st) S) : At F G Q nL pc lv (.int y :: .long x :: st) S := by
  obtain ⟨p, l, e, R, s, m, args, below, meth, c, ce, sl⟩ := F
  obtain ⟨hx, hb, hml, hown, hts, hlk, hK, hSt⟩ := C
  subst hq
  intro H locs ls hP hD hS hl
  exact lv_lushr hx hb hd rfl (kk H locs ls hP hD hS hl)
theorem a_lshl {F : FX} {G : GX} {Q : State → Prop} {nL pc q : Nat} {lv : List (Nat × Value)} {st : List Value} {S : SX} {cc : ByteArray} {own : String} {x : Int64} {y : Int32} (C : Cx F G cc nL own) (hd : decode cc pc = .ok (.lshl, 1)) (hq : pc + 1 = q) (kk : At F G Q nL q lv (.long (x <<< (y.toInt64 &&& 63)) :: st) S) : At F G Q nL pc lv (.int y :: .long x :: st) S := by
  obtain ⟨p, l, e, R, s, m, args, below, meth, c, ce, sl⟩ := F
  obtain ⟨hx, hb, hml, hown, hts, hlk, hK, hSt⟩ := C
  subst hq
  intro H locs ls hP hD hS hl
  exact lv_lshl hx hb hd rfl (kk H locs ls hP hD hS hl)
theorem a_lshr {F : FX} {G : GX} {Q : State → Prop} {nL pc q : Nat} {lv : List (Nat × Value)} {st : List Value} {S : SX} {cc : ByteArray} {own : String} {x : Int64} {y : Int32} (C : Cx F G cc nL own) (hd : decode cc pc = .ok (.lshr, 1)) (hq : pc + 1 = q) (kk : At F G Q nL q lv (.long (x >>> (y.toInt64 &&& 63)) :: st) S) : At F G Q nL pc lv (.int y :: .long x :: st) S := by
  obtain ⟨p, l, e, R, s, m, args, below, meth, c, ce, sl⟩ := F
  obtain ⟨hx, hb, hml, hown, hts, hlk, hK, hSt⟩ := C
  subst hq
  intro H locs ls hP hD hS hl
  exact lv_lshr hx hb hd rfl (kk H locs ls hP hD hS hl)
theorem a_i2l {F : FX} {G : GX} {Q : State → Prop} {nL pc q : Nat} {lv : List (Nat × Value)} {st : List Value} {S : SX} {cc : ByteArray} {own : String} {x : Int32} (C : Cx F G cc nL own) (hd : decode cc pc = .ok (.i2l, 1)) (hq : pc + 1 = q) (kk : At F G Q nL q lv (.long (x.toInt64) :: st) S) : At F G Q nL pc lv (.int x :: st) S := by
  obtain ⟨p, l, e, R, s, m, args, below, meth, c, ce, sl⟩ := F
  obtain ⟨hx, hb, hml, hown, hts, hlk, hK, hSt⟩ := C
  subst hq
  intro H locs ls hP hD hS hl
  exact lv_i2l hx hb hd rfl (kk H locs ls hP hD hS hl)
theorem a_l2i {F : FX} {G : GX} {Q : State → Prop} {nL pc q : Nat} {lv : List (Nat × Value)} {st : List Value} {S : SX} {cc : ByteArray} {own : String} {x : Int64} (C : Cx F G cc nL own) (hd : decode cc pc = .ok (.l2i, 1)) (hq : pc + 1 = q) (kk : At F G Q nL q lv (.int (x.toInt32) :: st) S) : At F G Q nL pc lv (.long x :: st) S := by
  obtain ⟨p, l, e, R, s, m, args, below, meth, c, ce, sl⟩ := F
  obtain ⟨hx, hb, hml, hown, hts, hlk, hK, hSt⟩ := C
  subst hq
  intro H locs ls hP hD hS hl
  exact lv_l2i hx hb hd rfl (kk H locs ls hP hD hS hl)
theorem a_i2b {F : FX} {G : GX} {Q : State → Prop} {nL pc q : Nat} {lv : List (Nat × Value)} {st : List Value} {S : SX} {cc : ByteArray} {own : String} {x : Int32} (C : Cx F G cc nL own) (hd : decode cc pc = .ok (.i2b, 1)) (hq : pc + 1 = q) (kk : At F G Q nL q lv (.int (x.toInt8.toInt32) :: st) S) : At F G Q nL pc lv (.int x :: st) S := by
  obtain ⟨p, l, e, R, s, m, args, below, meth, c, ce, sl⟩ := F
  obtain ⟨hx, hb, hml, hown, hts, hlk, hK, hSt⟩ := C
  subst hq
  intro H locs ls hP hD hS hl
  exact lv_i2b hx hb hd rfl (kk H locs ls hP hD hS hl)
theorem a_i2s {F : FX} {G : GX} {Q : State → Prop} {nL pc q : Nat} {lv : List (Nat × Value)} {st : List Value} {S : SX} {cc : ByteArray} {own : String} {x : Int32} (C : Cx F G cc nL own) (hd : decode cc pc = .ok (.i2s, 1)) (hq : pc + 1 = q) (kk : At F G Q nL q lv (.int (x.toInt16.toInt32) :: st) S) : At F G Q nL pc lv (.int x :: st) S := by
  obtain ⟨p, l, e, R, s, m, args, below, meth, c, ce, sl⟩ := F
  obtain ⟨hx, hb, hml, hown, hts, hlk, hK, hSt⟩ := C
  subst hq
  intro H locs ls hP hD hS hl
  exact lv_i2s hx hb hd rfl (kk H locs ls hP hD hS hl)
theorem a_i2c {F : FX} {G : GX} {Q : State → Prop} {nL pc q : Nat} {lv : List (Nat × Value)} {st : List Value} {S : SX} {cc : ByteArray} {own : String} {x : Int32} (C : Cx F G cc nL own) (hd : decode cc pc = .ok (.i2c, 1)) (hq : pc + 1 = q) (kk : At F G Q nL q lv (.int ((x.toUInt32 % 65536).toInt32) :: st) S) : At F G Q nL pc lv (.int x :: st) S := by
  obtain ⟨p, l, e, R, s, m, args, below, meth, c, ce, sl⟩ := F
  obtain ⟨hx, hb, hml, hown, hts, hlk, hK, hSt⟩ := C
  subst hq
  intro H locs ls hP hD hS hl
  exact lv_i2c hx hb hd rfl (kk H locs ls hP hD hS hl)
theorem a_dup {F : FX} {G : GX} {Q : State → Prop} {nL pc q : Nat} {lv : List (Nat × Value)} {st : List Value} {S : SX} {cc : ByteArray} {own : String} {va : Value} (C : Cx F G cc nL own) (hd : decode cc pc = .ok (.dup, 1)) (hq : pc + 1 = q) (hva : va.category = 1) (kk : At F G Q nL q lv (va :: va :: st) S) : At F G Q nL pc lv (va :: st) S := by
  obtain ⟨p, l, e, R, s, m, args, below, meth, c, ce, sl⟩ := F
  obtain ⟨hx, hb, hml, hown, hts, hlk, hK, hSt⟩ := C
  subst hq
  intro H locs ls hP hD hS hl
  exact lv_dup hx hb hd hva (kk H locs ls hP hD hS hl)
theorem a_pop {F : FX} {G : GX} {Q : State → Prop} {nL pc q : Nat} {lv : List (Nat × Value)} {st : List Value} {S : SX} {cc : ByteArray} {own : String} {va : Value} (C : Cx F G cc nL own) (hd : decode cc pc = .ok (.pop, 1)) (hq : pc + 1 = q) (hva : va.category = 1) (kk : At F G Q nL q lv (st) S) : At F G Q nL pc lv (va :: st) S := by
  obtain ⟨p, l, e, R, s, m, args, below, meth, c, ce, sl⟩ := F
  obtain ⟨hx, hb, hml, hown, hts, hlk, hK, hSt⟩ := C
  subst hq
  intro H locs ls hP hD hS hl
  exact lv_pop hx hb hd hva (kk H locs ls hP hD hS hl)
theorem a_dup2 {F : FX} {G : GX} {Q : State → Prop} {nL pc q : Nat} {lv : List (Nat × Value)} {st : List Value} {S : SX} {cc : ByteArray} {own : String} {va vb : Value} (C : Cx F G cc nL own) (hd : decode cc pc = .ok (.dup2, 1)) (hq : pc + 1 = q) (hva : va.category = 1) (hvb : vb.category = 1) (kk : At F G Q nL q lv (va :: vb :: va :: vb :: st) S) : At F G Q nL pc lv (va :: vb :: st) S := by
  obtain ⟨p, l, e, R, s, m, args, below, meth, c, ce, sl⟩ := F
  obtain ⟨hx, hb, hml, hown, hts, hlk, hK, hSt⟩ := C
  subst hq
  intro H locs ls hP hD hS hl
  exact lv_dup2_11 hx hb hd hva hvb (kk H locs ls hP hD hS hl)
theorem a_lcmp {F : FX} {G : GX} {Q : State → Prop} {nL pc q : Nat} {lv : List (Nat × Value)} {st : List Value} {S : SX} {cc : ByteArray} {own : String} {x y : Int64} (C : Cx F G cc nL own) (hd : decode cc pc = .ok (.lcmp, 1)) (hq : pc + 1 = q) (kk : At F G Q nL q lv (.int (lg_cmp x y) :: st) S) : At F G Q nL pc lv (.long y :: .long x :: st) S := by
  obtain ⟨p, l, e, R, s, m, args, below, meth, c, ce, sl⟩ := F
  obtain ⟨hx, hb, hml, hown, hts, hlk, hK, hSt⟩ := C
  subst hq
  intro H locs ls hP hD hS hl
  exact W.lcmp hx hb hd (kk H locs ls hP hD hS hl)
theorem a_ldc {F : FX} {G : GX} {Q : State → Prop} {nL pc q : Nat} {lv : List (Nat × Value)} {st : List Value} {S : SX} {cc : ByteArray} {own : String} {index : Nat} {v : Int32} (C : Cx F G cc nL own) (hd : decode cc pc = .ok (.ldc index, 2)) (hq : pc + 2 = q) (hc : Cond.constant own index v ∈ wsG) (kk : At F G Q nL q lv (.int v :: st) S) : At F G Q nL pc lv (st) S := by
  obtain ⟨p, l, e, R, s, m, args, below, meth, c, ce, sl⟩ := F
  obtain ⟨hx, hb, hml, hown, hts, hlk, hK, hSt⟩ := C
  subst hq
  intro H locs ls hP hD hS hl
  exact lv_ldc hx hb hown (hts _ hc) hd (kk H locs ls hP hD hS hl)
theorem a_ldcw {F : FX} {G : GX} {Q : State → Prop} {nL pc q : Nat} {lv : List (Nat × Value)} {st : List Value} {S : SX} {cc : ByteArray} {own : String} {index : Nat} {v : Int32} (C : Cx F G cc nL own) (hd : decode cc pc = .ok (.ldc_w index, 3)) (hq : pc + 3 = q) (hc : Cond.constant own index v ∈ wsG) (kk : At F G Q nL q lv (.int v :: st) S) : At F G Q nL pc lv (st) S := by
  obtain ⟨p, l, e, R, s, m, args, below, meth, c, ce, sl⟩ := F
  obtain ⟨hx, hb, hml, hown, hts, hlk, hK, hSt⟩ := C
  subst hq
  intro H locs ls hP hD hS hl
  exact lv_ldcw hx hb hown (hts _ hc) hd (kk H locs ls hP hD hS hl)
theorem a_ldc2 {F : FX} {G : GX} {Q : State → Prop} {nL pc q : Nat} {lv : List (Nat × Value)} {st : List Value} {S : SX} {cc : ByteArray} {own : String} {index : Nat} {v : Int64} (C : Cx F G cc nL own) (hd : decode cc pc = .ok (.ldc2_w index, 3)) (hq : pc + 3 = q) (hc : Cond.constantLong own index v ∈ wsG) (kk : At F G Q nL q lv (.long v :: st) S) : At F G Q nL pc lv (st) S := by
  obtain ⟨p, l, e, R, s, m, args, below, meth, c, ce, sl⟩ := F
  obtain ⟨hx, hb, hml, hown, hts, hlk, hK, hSt⟩ := C
  subst hq
  intro H locs ls hP hD hS hl
  exact lv_ldc2 hx hb hown (hts _ hc) hd (kk H locs ls hP hD hS hl)
theorem a_if_eq {F : FX} {G : GX} {Q : State → Prop} {nL pc q : Nat} {lv : List (Nat × Value)} {st : List Value} {S : SX} {cc : ByteArray} {own : String} {x : Int32} {off : Int} {tgt : Nat} {B : Type} {a b : Option B} {r : B} (C : Cx F G cc nL own) (hd : decode cc pc = .ok (.ifCond .eq off, 3)) (hf : (if x = 0 then a else b) = some r) (ht : (pc : Int) + off = (tgt : Int)) (hq : pc + 3 = q) (kt : a = some r → At F G Q nL tgt lv st S) (kf : b = some r → At F G Q nL q lv st S) : At F G Q nL pc lv (.int x :: st) S := by
  obtain ⟨p, l, e, R, s, m, args, below, meth, c, ce, sl⟩ := F
  obtain ⟨hx, hb, hml, hown, hts, hlk, hK, hSt⟩ := C
  subst hq
  intro H locs ls hP hD hS hl
  exact lv_if_eq hx hb hd ht (fun hc => kt (by rw [if_pos hc] at hf; exact hf) H locs ls hP hD hS hl) (fun hc => kf (by rw [if_neg hc] at hf; exact hf) H locs ls hP hD hS hl)
theorem a_icmp_eq {F : FX} {G : GX} {Q : State → Prop} {nL pc q : Nat} {lv : List (Nat × Value)} {st : List Value} {S : SX} {cc : ByteArray} {own : String} {x y : Int32} {off : Int} {tgt : Nat} {B : Type} {a b : Option B} {r : B} (C : Cx F G cc nL own) (hd : decode cc pc = .ok (.if_icmp .eq off, 3)) (hf : (if x = y then a else b) = some r) (ht : (pc : Int) + off = (tgt : Int)) (hq : pc + 3 = q) (kt : a = some r → At F G Q nL tgt lv st S) (kf : b = some r → At F G Q nL q lv st S) : At F G Q nL pc lv (.int y :: .int x :: st) S := by
  obtain ⟨p, l, e, R, s, m, args, below, meth, c, ce, sl⟩ := F
  obtain ⟨hx, hb, hml, hown, hts, hlk, hK, hSt⟩ := C
  subst hq
  intro H locs ls hP hD hS hl
  exact lv_icmp_eq hx hb hd ht (fun hc => kt (by rw [if_pos hc] at hf; exact hf) H locs ls hP hD hS hl) (fun hc => kf (by rw [if_neg hc] at hf; exact hf) H locs ls hP hD hS hl)
theorem a_if_ne {F : FX} {G : GX} {Q : State → Prop} {nL pc q : Nat} {lv : List (Nat × Value)} {st : List Value} {S : SX} {cc : ByteArray} {own : String} {x : Int32} {off : Int} {tgt : Nat} {B : Type} {a b : Option B} {r : B} (C : Cx F G cc nL own) (hd : decode cc pc = .ok (.ifCond .ne off, 3)) (hf : (if x = 0 then b else a) = some r) (ht : (pc : Int) + off = (tgt : Int)) (hq : pc + 3 = q) (kt : a = some r → At F G Q nL tgt lv st S) (kf : b = some r → At F G Q nL q lv st S) : At F G Q nL pc lv (.int x :: st) S := by
  obtain ⟨p, l, e, R, s, m, args, below, meth, c, ce, sl⟩ := F
  obtain ⟨hx, hb, hml, hown, hts, hlk, hK, hSt⟩ := C
  subst hq
  intro H locs ls hP hD hS hl
  exact lv_if_ne hx hb hd ht (fun hc => kt (by rw [if_neg hc] at hf; exact hf) H locs ls hP hD hS hl) (fun hc => kf (by rw [if_pos hc] at hf; exact hf) H locs ls hP hD hS hl)
theorem a_icmp_ne {F : FX} {G : GX} {Q : State → Prop} {nL pc q : Nat} {lv : List (Nat × Value)} {st : List Value} {S : SX} {cc : ByteArray} {own : String} {x y : Int32} {off : Int} {tgt : Nat} {B : Type} {a b : Option B} {r : B} (C : Cx F G cc nL own) (hd : decode cc pc = .ok (.if_icmp .ne off, 3)) (hf : (if x = y then b else a) = some r) (ht : (pc : Int) + off = (tgt : Int)) (hq : pc + 3 = q) (kt : a = some r → At F G Q nL tgt lv st S) (kf : b = some r → At F G Q nL q lv st S) : At F G Q nL pc lv (.int y :: .int x :: st) S := by
  obtain ⟨p, l, e, R, s, m, args, below, meth, c, ce, sl⟩ := F
  obtain ⟨hx, hb, hml, hown, hts, hlk, hK, hSt⟩ := C
  subst hq
  intro H locs ls hP hD hS hl
  exact lv_icmp_ne hx hb hd ht (fun hc => kt (by rw [if_neg hc] at hf; exact hf) H locs ls hP hD hS hl) (fun hc => kf (by rw [if_pos hc] at hf; exact hf) H locs ls hP hD hS hl)
theorem a_if_lt {F : FX} {G : GX} {Q : State → Prop} {nL pc q : Nat} {lv : List (Nat × Value)} {st : List Value} {S : SX} {cc : ByteArray} {own : String} {x : Int32} {off : Int} {tgt : Nat} {B : Type} {a b : Option B} {r : B} (C : Cx F G cc nL own) (hd : decode cc pc = .ok (.ifCond .lt off, 3)) (hf : (if x < 0 then a else b) = some r) (ht : (pc : Int) + off = (tgt : Int)) (hq : pc + 3 = q) (kt : a = some r → At F G Q nL tgt lv st S) (kf : b = some r → At F G Q nL q lv st S) : At F G Q nL pc lv (.int x :: st) S := by
  obtain ⟨p, l, e, R, s, m, args, below, meth, c, ce, sl⟩ := F
  obtain ⟨hx, hb, hml, hown, hts, hlk, hK, hSt⟩ := C
  subst hq
  intro H locs ls hP hD hS hl
  exact lv_if_lt hx hb hd ht (fun hc => kt (by rw [if_pos hc] at hf; exact hf) H locs ls hP hD hS hl) (fun hc => kf (by rw [if_neg hc] at hf; exact hf) H locs ls hP hD hS hl)
theorem a_icmp_lt {F : FX} {G : GX} {Q : State → Prop} {nL pc q : Nat} {lv : List (Nat × Value)} {st : List Value} {S : SX} {cc : ByteArray} {own : String} {x y : Int32} {off : Int} {tgt : Nat} {B : Type} {a b : Option B} {r : B} (C : Cx F G cc nL own) (hd : decode cc pc = .ok (.if_icmp .lt off, 3)) (hf : (if x < y then a else b) = some r) (ht : (pc : Int) + off = (tgt : Int)) (hq : pc + 3 = q) (kt : a = some r → At F G Q nL tgt lv st S) (kf : b = some r → At F G Q nL q lv st S) : At F G Q nL pc lv (.int y :: .int x :: st) S := by
  obtain ⟨p, l, e, R, s, m, args, below, meth, c, ce, sl⟩ := F
  obtain ⟨hx, hb, hml, hown, hts, hlk, hK, hSt⟩ := C
  subst hq
  intro H locs ls hP hD hS hl
  exact lv_icmp_lt hx hb hd ht (fun hc => kt (by rw [if_pos hc] at hf; exact hf) H locs ls hP hD hS hl) (fun hc => kf (by rw [if_neg hc] at hf; exact hf) H locs ls hP hD hS hl)
theorem a_if_ge {F : FX} {G : GX} {Q : State → Prop} {nL pc q : Nat} {lv : List (Nat × Value)} {st : List Value} {S : SX} {cc : ByteArray} {own : String} {x : Int32} {off : Int} {tgt : Nat} {B : Type} {a b : Option B} {r : B} (C : Cx F G cc nL own) (hd : decode cc pc = .ok (.ifCond .ge off, 3)) (hf : (if 0 ≤ x then a else b) = some r) (ht : (pc : Int) + off = (tgt : Int)) (hq : pc + 3 = q) (kt : a = some r → At F G Q nL tgt lv st S) (kf : b = some r → At F G Q nL q lv st S) : At F G Q nL pc lv (.int x :: st) S := by
  obtain ⟨p, l, e, R, s, m, args, below, meth, c, ce, sl⟩ := F
  obtain ⟨hx, hb, hml, hown, hts, hlk, hK, hSt⟩ := C
  subst hq
  intro H locs ls hP hD hS hl
  exact lv_if_ge hx hb hd ht (fun hc => kt (by rw [if_pos hc] at hf; exact hf) H locs ls hP hD hS hl) (fun hc => kf (by rw [if_neg hc] at hf; exact hf) H locs ls hP hD hS hl)
theorem a_icmp_ge {F : FX} {G : GX} {Q : State → Prop} {nL pc q : Nat} {lv : List (Nat × Value)} {st : List Value} {S : SX} {cc : ByteArray} {own : String} {x y : Int32} {off : Int} {tgt : Nat} {B : Type} {a b : Option B} {r : B} (C : Cx F G cc nL own) (hd : decode cc pc = .ok (.if_icmp .ge off, 3)) (hf : (if y ≤ x then a else b) = some r) (ht : (pc : Int) + off = (tgt : Int)) (hq : pc + 3 = q) (kt : a = some r → At F G Q nL tgt lv st S) (kf : b = some r → At F G Q nL q lv st S) : At F G Q nL pc lv (.int y :: .int x :: st) S := by
  obtain ⟨p, l, e, R, s, m, args, below, meth, c, ce, sl⟩ := F
  obtain ⟨hx, hb, hml, hown, hts, hlk, hK, hSt⟩ := C
  subst hq
  intro H locs ls hP hD hS hl
  exact lv_icmp_ge hx hb hd ht (fun hc => kt (by rw [if_pos hc] at hf; exact hf) H locs ls hP hD hS hl) (fun hc => kf (by rw [if_neg hc] at hf; exact hf) H locs ls hP hD hS hl)
theorem a_if_gt {F : FX} {G : GX} {Q : State → Prop} {nL pc q : Nat} {lv : List (Nat × Value)} {st : List Value} {S : SX} {cc : ByteArray} {own : String} {x : Int32} {off : Int} {tgt : Nat} {B : Type} {a b : Option B} {r : B} (C : Cx F G cc nL own) (hd : decode cc pc = .ok (.ifCond .gt off, 3)) (hf : (if 0 < x then a else b) = some r) (ht : (pc : Int) + off = (tgt : Int)) (hq : pc + 3 = q) (kt : a = some r → At F G Q nL tgt lv st S) (kf : b = some r → At F G Q nL q lv st S) : At F G Q nL pc lv (.int x :: st) S := by
  obtain ⟨p, l, e, R, s, m, args, below, meth, c, ce, sl⟩ := F
  obtain ⟨hx, hb, hml, hown, hts, hlk, hK, hSt⟩ := C
  subst hq
  intro H locs ls hP hD hS hl
  exact lv_if_gt hx hb hd ht (fun hc => kt (by rw [if_pos hc] at hf; exact hf) H locs ls hP hD hS hl) (fun hc => kf (by rw [if_neg hc] at hf; exact hf) H locs ls hP hD hS hl)
theorem a_icmp_gt {F : FX} {G : GX} {Q : State → Prop} {nL pc q : Nat} {lv : List (Nat × Value)} {st : List Value} {S : SX} {cc : ByteArray} {own : String} {x y : Int32} {off : Int} {tgt : Nat} {B : Type} {a b : Option B} {r : B} (C : Cx F G cc nL own) (hd : decode cc pc = .ok (.if_icmp .gt off, 3)) (hf : (if y < x then a else b) = some r) (ht : (pc : Int) + off = (tgt : Int)) (hq : pc + 3 = q) (kt : a = some r → At F G Q nL tgt lv st S) (kf : b = some r → At F G Q nL q lv st S) : At F G Q nL pc lv (.int y :: .int x :: st) S := by
  obtain ⟨p, l, e, R, s, m, args, below, meth, c, ce, sl⟩ := F
  obtain ⟨hx, hb, hml, hown, hts, hlk, hK, hSt⟩ := C
  subst hq
  intro H locs ls hP hD hS hl
  exact lv_icmp_gt hx hb hd ht (fun hc => kt (by rw [if_pos hc] at hf; exact hf) H locs ls hP hD hS hl) (fun hc => kf (by rw [if_neg hc] at hf; exact hf) H locs ls hP hD hS hl)
theorem a_if_le {F : FX} {G : GX} {Q : State → Prop} {nL pc q : Nat} {lv : List (Nat × Value)} {st : List Value} {S : SX} {cc : ByteArray} {own : String} {x : Int32} {off : Int} {tgt : Nat} {B : Type} {a b : Option B} {r : B} (C : Cx F G cc nL own) (hd : decode cc pc = .ok (.ifCond .le off, 3)) (hf : (if x ≤ 0 then a else b) = some r) (ht : (pc : Int) + off = (tgt : Int)) (hq : pc + 3 = q) (kt : a = some r → At F G Q nL tgt lv st S) (kf : b = some r → At F G Q nL q lv st S) : At F G Q nL pc lv (.int x :: st) S := by
  obtain ⟨p, l, e, R, s, m, args, below, meth, c, ce, sl⟩ := F
  obtain ⟨hx, hb, hml, hown, hts, hlk, hK, hSt⟩ := C
  subst hq
  intro H locs ls hP hD hS hl
  exact lv_if_le hx hb hd ht (fun hc => kt (by rw [if_pos hc] at hf; exact hf) H locs ls hP hD hS hl) (fun hc => kf (by rw [if_neg hc] at hf; exact hf) H locs ls hP hD hS hl)
theorem a_icmp_le {F : FX} {G : GX} {Q : State → Prop} {nL pc q : Nat} {lv : List (Nat × Value)} {st : List Value} {S : SX} {cc : ByteArray} {own : String} {x y : Int32} {off : Int} {tgt : Nat} {B : Type} {a b : Option B} {r : B} (C : Cx F G cc nL own) (hd : decode cc pc = .ok (.if_icmp .le off, 3)) (hf : (if x ≤ y then a else b) = some r) (ht : (pc : Int) + off = (tgt : Int)) (hq : pc + 3 = q) (kt : a = some r → At F G Q nL tgt lv st S) (kf : b = some r → At F G Q nL q lv st S) : At F G Q nL pc lv (.int y :: .int x :: st) S := by
  obtain ⟨p, l, e, R, s, m, args, below, meth, c, ce, sl⟩ := F
  obtain ⟨hx, hb, hml, hown, hts, hlk, hK, hSt⟩ := C
  subst hq
  intro H locs ls hP hD hS hl
  exact lv_icmp_le hx hb hd ht (fun hc => kt (by rw [if_pos hc] at hf; exact hf) H locs ls hP hD hS hl) (fun hc => kf (by rw [if_neg hc] at hf; exact hf) H locs ls hP hD hS hl)
theorem a_goto {F : FX} {G : GX} {Q : State → Prop} {nL pc q : Nat} {lv : List (Nat × Value)} {st : List Value} {S : SX} {cc : ByteArray} {own : String} {off : Int} (C : Cx F G cc nL own) (hd : decode cc pc = .ok (.goto off, 3)) (ht : (pc : Int) + off = (q : Int)) (kk : At F G Q nL q lv st S) : At F G Q nL pc lv st S := by
  obtain ⟨p, l, e, R, s, m, args, below, meth, c, ce, sl⟩ := F
  obtain ⟨hx, hb, hml, hown, hts, hlk, hK, hSt⟩ := C
  intro H locs ls hP hD hS hl
  exact lv_goto hx hb hd ht (kk H locs ls hP hD hS hl)
theorem a_sub {F : FX} {G : GX} {Q : State → Prop} {nL pc : Nat} {lv lv' : List (Nat × Value)} {st : List Value} {S : SX} (ks : List Nat) (hl' : lv_pick lv ks = lv') (kk : At F G Q nL pc lv' st S) : At F G Q nL pc lv st S := by
  obtain ⟨p, l, e, R, s, m, args, below, meth, c, ce, sl⟩ := F
  intro H locs ls hP hD hS hl
  exact kk H locs ls hP hD hS (lv_sub hl ks hl')
theorem a_tblIn {F : FX} {G : GX} {Q : State → Prop} {nL pc q : Nat} {lv : List (Nat × Value)} {st : List Value} {S : SX} {cc : ByteArray} {own : String} {dflt lo hi : Int} {offs : Array Int} {len tgt : Nat} {x v : Int32} {off : Int} (C : Cx F G cc nL own) (hd : decode cc pc = .ok (.tableswitch dflt lo hi offs, len)) (hv : x = v) (h1 : ¬ v.toInt < lo) (h2 : ¬ hi < v.toInt) (ho : offs[(v.toInt - lo).toNat]? = some off) (ht : (pc : Int) + off = (tgt : Int)) (hq : pc = q) (kk : At F G Q nL tgt lv st S) : At F G Q nL pc lv (.int x :: st) S := by
  obtain ⟨p, l, e, R, s, m, args, below, meth, c, ce, sl⟩ := F
  obtain ⟨hx, hb, hml, hown, hts, hlk, hK, hSt⟩ := C
  subst hq
  intro H locs ls hP hD hS hl
  subst hv
  exact lv_tableIn hx hb hd h1 h2 ho ht (kk H locs ls hP hD hS hl)
theorem a_tblOut {F : FX} {G : GX} {Q : State → Prop} {nL pc q : Nat} {lv : List (Nat × Value)} {st : List Value} {S : SX} {cc : ByteArray} {own : String} {dflt lo hi : Int} {offs : Array Int} {len tgt : Nat} {x : Int32} (C : Cx F G cc nL own) (hd : decode cc pc = .ok (.tableswitch dflt lo hi offs, len)) (h : x.toInt < lo ∨ hi < x.toInt) (ht : (pc : Int) + dflt = (tgt : Int)) (hq : pc = q) (kk : At F G Q nL tgt lv st S) : At F G Q nL pc lv (.int x :: st) S := by
  obtain ⟨p, l, e, R, s, m, args, below, meth, c, ce, sl⟩ := F
  obtain ⟨hx, hb, hml, hown, hts, hlk, hK, hSt⟩ := C
  subst hq
  intro H locs ls hP hD hS hl
  exact lv_tableOut hx hb hd h ht (kk H locs ls hP hD hS hl)
theorem a_get0 {F : FX} {G : GX} {Q : State → Prop} {nL pc q : Nat} {lv : List (Nat × Value)} {st : List Value} {S : SX} {cc : ByteArray} {own : String} {index k : Nat} {fs : List Value} {v : Value} (C : Cx F G cc nL own) (hd : decode cc pc = .ok (.getfield index, 3)) (j : Nat) (hj : j < 5) (hL : Cond.fieldLink own index RX0 (TX0 j).2.1 (TX0 j).2.2.1 ∈ wsG) (hk : k < 58) (hc : cellE G S k = .inr (0, fs)) (hv : fs[j]? = some v) (hq : pc + 3 = q) (kk : At F G Q nL q lv (v :: st) S) : At F G Q nL pc lv (.ref (G.2.1 k) :: st) S := by
  obtain ⟨p, l, e, R, s, m, args, below, meth, c, ce, sl⟩ := F
  obtain ⟨hx, hb, hml, hown, hts, hlk, hK, hSt⟩ := C
  subst hq
  intro H locs ls hP hD hS hl
  exact va_get (D := G.1) (ci := 0) (C := RX0) (T := TX0) (N := 5) hx hb hts inX0 hown hK hP k (cw_at hk hc) rfl j hj (hts _ hL) (fun _ h9 => by rcases (show j = 0 ∨ j = 1 ∨ j = 2 ∨ j = 3 ∨ j = 4 by omega) with rfl | rfl | rfl | rfl | rfl <;> exact h9) hv hd (kk H locs ls hP hD hS hl)
theorem a_put0N {F : FX} {G : GX} {Q : State → Prop} {nL pc q : Nat} {lv : List (Nat × Value)} {st : List Value} {S : SX} {cc : ByteArray} {own : String} {index k : Nat} {fs : List Value} {v : Value} {T : Type} {mk : T → SX} {z : T} {B : Type} {f : T → Option B} {r : B} (C : Cx F G cc nL own) (hd : decode cc pc = .ok (.putfield index, 3)) (hf : nm z f = some r) (j : Nat) (hj : j < 5) (hL : Cond.fieldLink own index RX0 (TX0 j).2.1 (TX0 j).2.2.1 ∈ wsG) (hk : k < 58) (hc : cellE G S k = .inr (0, fs)) (h2 : cellE G (mk z) k = .inr (0, fs.set j v)) (h3 : ∀ i, i ≠ k → cellE G (mk z) i = cellE G S i) (hfin : (TX0 j).2.2.2 = false) (hn : narrow (tyX0 j) v = v) (hfit : fits (tyX0 j) v = true) (hl' : j < fs.length) (hq : pc + 3 = q) (kk : ∀ z, f z = some r → At F G Q nL q lv st (mk z)) : At F G Q nL pc lv (v :: .ref (G.2.1 k) :: st) S := by
  obtain ⟨p, l, e, R, s, m, args, below, meth, c, ce, sl⟩ := F
  obtain ⟨hx, hb, hml, hown, hts, hlk, hK, hSt⟩ := C
  subst hq
  intro H locs ls hP hD hS hl
  refine va_put (D := G.1) (ci := 0) (v := v) (ty := tyX0 j) (C := RX0) (T := TX0) (N := 5) hx hb hts inX0 tyX0 tyX0_ok nmX0 hown hK hP hD hS k (cw_at hk hc) rfl j hj (hts _ hL) (fun _ h9 => by rcases (show j = 0 ∨ j = 1 ∨ j = 2 ∨ j = 3 ∨ j = 4 by omega) with rfl | rfl | rfl | rfl | rfl <;> exact h9) hfin (tyX0_ok j hj) hn hfit hl' hd (fun H1 locs1 hP1 hD1 hS1 => ?_)
  rw [cw_set' hk h3 h2] at hP1 hD1
  exact kk z hf H1 locs1 ls hP1 hD1 hS1 hl
theorem a_get1 {F : FX} {G : GX} {Q : State → Prop} {nL pc q : Nat} {lv : List (Nat × Value)} {st : List Value} {S : SX} {cc : ByteArray} {own : String} {index k : Nat} {fs : List Value} {v : Value} (C : Cx F G cc nL own) (hd : decode cc pc = .ok (.getfield index, 3)) (j : Nat) (hj : j < 4) (hL : Cond.fieldLink own index RX1 (TX1 j).2.1 (TX1 j).2.2.1 ∈ wsG) (hk : k < 58) (hc : cellE G S k = .inr (1, fs)) (hv : fs[j]? = some v) (hq : pc + 3 = q) (kk : At F G Q nL q lv (v :: st) S) : At F G Q nL pc lv (.ref (G.2.1 k) :: st) S := by
  obtain ⟨p, l, e, R, s, m, args, below, meth, c, ce, sl⟩ := F
  obtain ⟨hx, hb, hml, hown, hts, hlk, hK, hSt⟩ := C
  subst hq
  intro H locs ls hP hD hS hl
  exact va_get (D := G.1) (ci := 1) (C := RX1) (T := TX1) (N := 4) hx hb hts inX1 hown hK hP k (cw_at hk hc) rfl j hj (hts _ hL) (fun _ h9 => by rcases (show j = 0 ∨ j = 1 ∨ j = 2 ∨ j = 3 by omega) with rfl | rfl | rfl | rfl <;> exact h9) hv hd (kk H locs ls hP hD hS hl)
theorem a_put1N {F : FX} {G : GX} {Q : State → Prop} {nL pc q : Nat} {lv : List (Nat × Value)} {st : List Value} {S : SX} {cc : ByteArray} {own : String} {index k : Nat} {fs : List Value} {v : Value} {T : Type} {mk : T → SX} {z : T} {B : Type} {f : T → Option B} {r : B} (C : Cx F G cc nL own) (hd : decode cc pc = .ok (.putfield index, 3)) (hf : nm z f = some r) (j : Nat) (hj : j < 4) (hL : Cond.fieldLink own index RX1 (TX1 j).2.1 (TX1 j).2.2.1 ∈ wsG) (hk : k < 58) (hc : cellE G S k = .inr (1, fs)) (h2 : cellE G (mk z) k = .inr (1, fs.set j v)) (h3 : ∀ i, i ≠ k → cellE G (mk z) i = cellE G S i) (hfin : (TX1 j).2.2.2 = false) (hn : narrow (tyX1 j) v = v) (hfit : fits (tyX1 j) v = true) (hl' : j < fs.length) (hq : pc + 3 = q) (kk : ∀ z, f z = some r → At F G Q nL q lv st (mk z)) : At F G Q nL pc lv (v :: .ref (G.2.1 k) :: st) S := by
  obtain ⟨p, l, e, R, s, m, args, below, meth, c, ce, sl⟩ := F
  obtain ⟨hx, hb, hml, hown, hts, hlk, hK, hSt⟩ := C
  subst hq
  intro H locs ls hP hD hS hl
  refine va_put (D := G.1) (ci := 1) (v := v) (ty := tyX1 j) (C := RX1) (T := TX1) (N := 4) hx hb hts inX1 tyX1 tyX1_ok nmX1 hown hK hP hD hS k (cw_at hk hc) rfl j hj (hts _ hL) (fun _ h9 => by rcases (show j = 0 ∨ j = 1 ∨ j = 2 ∨ j = 3 by omega) with rfl | rfl | rfl | rfl <;> exact h9) hfin (tyX1_ok j hj) hn hfit hl' hd (fun H1 locs1 hP1 hD1 hS1 => ?_)
  rw [cw_set' hk h3 h2] at hP1 hD1
  exact kk z hf H1 locs1 ls hP1 hD1 hS1 hl
theorem a_get2 {F : FX} {G : GX} {Q : State → Prop} {nL pc q : Nat} {lv : List (Nat × Value)} {st : List Value} {S : SX} {cc : ByteArray} {own : String} {index k : Nat} {fs : List Value} {v : Value} (C : Cx F G cc nL own) (hd : decode cc pc = .ok (.getfield index, 3)) (j : Nat) (hj : j < 4) (hL : Cond.fieldLink own index RX2 (TX2 j).2.1 (TX2 j).2.2.1 ∈ wsG) (hk : k < 58) (hc : cellE G S k = .inr (2, fs)) (hv : fs[j]? = some v) (hq : pc + 3 = q) (kk : At F G Q nL q lv (v :: st) S) : At F G Q nL pc lv (.ref (G.2.1 k) :: st) S := by
  obtain ⟨p, l, e, R, s, m, args, below, meth, c, ce, sl⟩ := F
  obtain ⟨hx, hb, hml, hown, hts, hlk, hK, hSt⟩ := C
  subst hq
  intro H locs ls hP hD hS hl
  exact va_get (D := G.1) (ci := 2) (C := RX2) (T := TX2) (N := 4) hx hb hts inX2 hown hK hP k (cw_at hk hc) rfl j hj (hts _ hL) (fun _ h9 => by rcases (show j = 0 ∨ j = 1 ∨ j = 2 ∨ j = 3 by omega) with rfl | rfl | rfl | rfl <;> exact h9) hv hd (kk H locs ls hP hD hS hl)
theorem a_put2N {F : FX} {G : GX} {Q : State → Prop} {nL pc q : Nat} {lv : List (Nat × Value)} {st : List Value} {S : SX} {cc : ByteArray} {own : String} {index k : Nat} {fs : List Value} {v : Value} {T : Type} {mk : T → SX} {z : T} {B : Type} {f : T → Option B} {r : B} (C : Cx F G cc nL own) (hd : decode cc pc = .ok (.putfield index, 3)) (hf : nm z f = some r) (j : Nat) (hj : j < 4) (hL : Cond.fieldLink own index RX2 (TX2 j).2.1 (TX2 j).2.2.1 ∈ wsG) (hk : k < 58) (hc : cellE G S k = .inr (2, fs)) (h2 : cellE G (mk z) k = .inr (2, fs.set j v)) (h3 : ∀ i, i ≠ k → cellE G (mk z) i = cellE G S i) (hfin : (TX2 j).2.2.2 = false) (hn : narrow (tyX2 j) v = v) (hfit : fits (tyX2 j) v = true) (hl' : j < fs.length) (hq : pc + 3 = q) (kk : ∀ z, f z = some r → At F G Q nL q lv st (mk z)) : At F G Q nL pc lv (v :: .ref (G.2.1 k) :: st) S := by
  obtain ⟨p, l, e, R, s, m, args, below, meth, c, ce, sl⟩ := F
  obtain ⟨hx, hb, hml, hown, hts, hlk, hK, hSt⟩ := C
  subst hq
  intro H locs ls hP hD hS hl
  refine va_put (D := G.1) (ci := 2) (v := v) (ty := tyX2 j) (C := RX2) (T := TX2) (N := 4) hx hb hts inX2 tyX2 tyX2_ok nmX2 hown hK hP hD hS k (cw_at hk hc) rfl j hj (hts _ hL) (fun _ h9 => by rcases (show j = 0 ∨ j = 1 ∨ j = 2 ∨ j = 3 by omega) with rfl | rfl | rfl | rfl <;> exact h9) hfin (tyX2_ok j hj) hn hfit hl' hd (fun H1 locs1 hP1 hD1 hS1 => ?_)
  rw [cw_set' hk h3 h2] at hP1 hD1
  exact kk z hf H1 locs1 ls hP1 hD1 hS1 hl
theorem a_get3 {F : FX} {G : GX} {Q : State → Prop} {nL pc q : Nat} {lv : List (Nat × Value)} {st : List Value} {S : SX} {cc : ByteArray} {own : String} {index k : Nat} {fs : List Value} {v : Value} (C : Cx F G cc nL own) (hd : decode cc pc = .ok (.getfield index, 3)) (j : Nat) (hj : j < 4) (hL : Cond.fieldLink own index RX3 (TX3 j).2.1 (TX3 j).2.2.1 ∈ wsG) (hk : k < 58) (hc : cellE G S k = .inr (3, fs)) (hv : fs[j]? = some v) (hq : pc + 3 = q) (kk : At F G Q nL q lv (v :: st) S) : At F G Q nL pc lv (.ref (G.2.1 k) :: st) S := by
  obtain ⟨p, l, e, R, s, m, args, below, meth, c, ce, sl⟩ := F
  obtain ⟨hx, hb, hml, hown, hts, hlk, hK, hSt⟩ := C
  subst hq
  intro H locs ls hP hD hS hl
  exact va_get (D := G.1) (ci := 3) (C := RX3) (T := TX3) (N := 4) hx hb hts inX3 hown hK hP k (cw_at hk hc) rfl j hj (hts _ hL) (fun _ h9 => by rcases (show j = 0 ∨ j = 1 ∨ j = 2 ∨ j = 3 by omega) with rfl | rfl | rfl | rfl <;> exact h9) hv hd (kk H locs ls hP hD hS hl)
theorem a_put3N {F : FX} {G : GX} {Q : State → Prop} {nL pc q : Nat} {lv : List (Nat × Value)} {st : List Value} {S : SX} {cc : ByteArray} {own : String} {index k : Nat} {fs : List Value} {v : Value} {T : Type} {mk : T → SX} {z : T} {B : Type} {f : T → Option B} {r : B} (C : Cx F G cc nL own) (hd : decode cc pc = .ok (.putfield index, 3)) (hf : nm z f = some r) (j : Nat) (hj : j < 4) (hL : Cond.fieldLink own index RX3 (TX3 j).2.1 (TX3 j).2.2.1 ∈ wsG) (hk : k < 58) (hc : cellE G S k = .inr (3, fs)) (h2 : cellE G (mk z) k = .inr (3, fs.set j v)) (h3 : ∀ i, i ≠ k → cellE G (mk z) i = cellE G S i) (hfin : (TX3 j).2.2.2 = false) (hn : narrow (tyX3 j) v = v) (hfit : fits (tyX3 j) v = true) (hl' : j < fs.length) (hq : pc + 3 = q) (kk : ∀ z, f z = some r → At F G Q nL q lv st (mk z)) : At F G Q nL pc lv (v :: .ref (G.2.1 k) :: st) S := by
  obtain ⟨p, l, e, R, s, m, args, below, meth, c, ce, sl⟩ := F
  obtain ⟨hx, hb, hml, hown, hts, hlk, hK, hSt⟩ := C
  subst hq
  intro H locs ls hP hD hS hl
  refine va_put (D := G.1) (ci := 3) (v := v) (ty := tyX3 j) (C := RX3) (T := TX3) (N := 4) hx hb hts inX3 tyX3 tyX3_ok nmX3 hown hK hP hD hS k (cw_at hk hc) rfl j hj (hts _ hL) (fun _ h9 => by rcases (show j = 0 ∨ j = 1 ∨ j = 2 ∨ j = 3 by omega) with rfl | rfl | rfl | rfl <;> exact h9) hfin (tyX3_ok j hj) hn hfit hl' hd (fun H1 locs1 hP1 hD1 hS1 => ?_)
  rw [cw_set' hk h3 h2] at hP1 hD1
  exact kk z hf H1 locs1 ls hP1 hD1 hS1 hl
theorem a_get4 {F : FX} {G : GX} {Q : State → Prop} {nL pc q : Nat} {lv : List (Nat × Value)} {st : List Value} {S : SX} {cc : ByteArray} {own : String} {index k : Nat} {fs : List Value} {v : Value} (C : Cx F G cc nL own) (hd : decode cc pc = .ok (.getfield index, 3)) (j : Nat) (hj : j < 5) (hL : Cond.fieldLink own index RX4 (TX4 j).2.1 (TX4 j).2.2.1 ∈ wsG) (hk : k < 58) (hc : cellE G S k = .inr (4, fs)) (hv : fs[j]? = some v) (hq : pc + 3 = q) (kk : At F G Q nL q lv (v :: st) S) : At F G Q nL pc lv (.ref (G.2.1 k) :: st) S := by
  obtain ⟨p, l, e, R, s, m, args, below, meth, c, ce, sl⟩ := F
  obtain ⟨hx, hb, hml, hown, hts, hlk, hK, hSt⟩ := C
  subst hq
  intro H locs ls hP hD hS hl
  exact va_get (D := G.1) (ci := 4) (C := RX4) (T := TX4) (N := 5) hx hb hts inX4 hown hK hP k (cw_at hk hc) rfl j hj (hts _ hL) (fun _ h9 => by rcases (show j = 0 ∨ j = 1 ∨ j = 2 ∨ j = 3 ∨ j = 4 by omega) with rfl | rfl | rfl | rfl | rfl <;> exact h9) hv hd (kk H locs ls hP hD hS hl)
theorem a_put4N {F : FX} {G : GX} {Q : State → Prop} {nL pc q : Nat} {lv : List (Nat × Value)} {st : List Value} {S : SX} {cc : ByteArray} {own : String} {index k : Nat} {fs : List Value} {v : Value} {T : Type} {mk : T → SX} {z : T} {B : Type} {f : T → Option B} {r : B} (C : Cx F G cc nL own) (hd : decode cc pc = .ok (.putfield index, 3)) (hf : nm z f = some r) (j : Nat) (hj : j < 5) (hL : Cond.fieldLink own index RX4 (TX4 j).2.1 (TX4 j).2.2.1 ∈ wsG) (hk : k < 58) (hc : cellE G S k = .inr (4, fs)) (h2 : cellE G (mk z) k = .inr (4, fs.set j v)) (h3 : ∀ i, i ≠ k → cellE G (mk z) i = cellE G S i) (hfin : (TX4 j).2.2.2 = false) (hn : narrow (tyX4 j) v = v) (hfit : fits (tyX4 j) v = true) (hl' : j < fs.length) (hq : pc + 3 = q) (kk : ∀ z, f z = some r → At F G Q nL q lv st (mk z)) : At F G Q nL pc lv (v :: .ref (G.2.1 k) :: st) S := by
  obtain ⟨p, l, e, R, s, m, args, below, meth, c, ce, sl⟩ := F
  obtain ⟨hx, hb, hml, hown, hts, hlk, hK, hSt⟩ := C
  subst hq
  intro H locs ls hP hD hS hl
  refine va_put (D := G.1) (ci := 4) (v := v) (ty := tyX4 j) (C := RX4) (T := TX4) (N := 5) hx hb hts inX4 tyX4 tyX4_ok nmX4 hown hK hP hD hS k (cw_at hk hc) rfl j hj (hts _ hL) (fun _ h9 => by rcases (show j = 0 ∨ j = 1 ∨ j = 2 ∨ j = 3 ∨ j = 4 by omega) with rfl | rfl | rfl | rfl | rfl <;> exact h9) hfin (tyX4_ok j hj) hn hfit hl' hd (fun H1 locs1 hP1 hD1 hS1 => ?_)
  rw [cw_set' hk h3 h2] at hP1 hD1
  exact kk z hf H1 locs1 ls hP1 hD1 hS1 hl
theorem a_get5 {F : FX} {G : GX} {Q : State → Prop} {nL pc q : Nat} {lv : List (Nat × Value)} {st : List Value} {S : SX} {cc : ByteArray} {own : String} {index k : Nat} {fs : List Value} {v : Value} (C : Cx F G cc nL own) (hd : decode cc pc = .ok (.getfield index, 3)) (j : Nat) (hj : j < 5) (hL : Cond.fieldLink own index RX5 (TX5 j).2.1 (TX5 j).2.2.1 ∈ wsG) (hk : k < 58) (hc : cellE G S k = .inr (5, fs)) (hv : fs[j]? = some v) (hq : pc + 3 = q) (kk : At F G Q nL q lv (v :: st) S) : At F G Q nL pc lv (.ref (G.2.1 k) :: st) S := by
  obtain ⟨p, l, e, R, s, m, args, below, meth, c, ce, sl⟩ := F
  obtain ⟨hx, hb, hml, hown, hts, hlk, hK, hSt⟩ := C
  subst hq
  intro H locs ls hP hD hS hl
  exact va_get (D := G.1) (ci := 5) (C := RX5) (T := TX5) (N := 5) hx hb hts inX5 hown hK hP k (cw_at hk hc) rfl j hj (hts _ hL) (fun _ h9 => by rcases (show j = 0 ∨ j = 1 ∨ j = 2 ∨ j = 3 ∨ j = 4 by omega) with rfl | rfl | rfl | rfl | rfl <;> exact h9) hv hd (kk H locs ls hP hD hS hl)
theorem a_put5N {F : FX} {G : GX} {Q : State → Prop} {nL pc q : Nat} {lv : List (Nat × Value)} {st : List Value} {S : SX} {cc : ByteArray} {own : String} {index k : Nat} {fs : List Value} {v : Value} {T : Type} {mk : T → SX} {z : T} {B : Type} {f : T → Option B} {r : B} (C : Cx F G cc nL own) (hd : decode cc pc = .ok (.putfield index, 3)) (hf : nm z f = some r) (j : Nat) (hj : j < 5) (hL : Cond.fieldLink own index RX5 (TX5 j).2.1 (TX5 j).2.2.1 ∈ wsG) (hk : k < 58) (hc : cellE G S k = .inr (5, fs)) (h2 : cellE G (mk z) k = .inr (5, fs.set j v)) (h3 : ∀ i, i ≠ k → cellE G (mk z) i = cellE G S i) (hfin : (TX5 j).2.2.2 = false) (hn : narrow (tyX5 j) v = v) (hfit : fits (tyX5 j) v = true) (hl' : j < fs.length) (hq : pc + 3 = q) (kk : ∀ z, f z = some r → At F G Q nL q lv st (mk z)) : At F G Q nL pc lv (v :: .ref (G.2.1 k) :: st) S := by
  obtain ⟨p, l, e, R, s, m, args, below, meth, c, ce, sl⟩ := F
  obtain ⟨hx, hb, hml, hown, hts, hlk, hK, hSt⟩ := C
  subst hq
  intro H locs ls hP hD hS hl
  refine va_put (D := G.1) (ci := 5) (v := v) (ty := tyX5 j) (C := RX5) (T := TX5) (N := 5) hx hb hts inX5 tyX5 tyX5_ok nmX5 hown hK hP hD hS k (cw_at hk hc) rfl j hj (hts _ hL) (fun _ h9 => by rcases (show j = 0 ∨ j = 1 ∨ j = 2 ∨ j = 3 ∨ j = 4 by omega) with rfl | rfl | rfl | rfl | rfl <;> exact h9) hfin (tyX5_ok j hj) hn hfit hl' hd (fun H1 locs1 hP1 hD1 hS1 => ?_)
  rw [cw_set' hk h3 h2] at hP1 hD1
  exact kk z hf H1 locs1 ls hP1 hD1 hS1 hl
theorem a_get6 {F : FX} {G : GX} {Q : State → Prop} {nL pc q : Nat} {lv : List (Nat × Value)} {st : List Value} {S : SX} {cc : ByteArray} {own : String} {index k : Nat} {fs : List Value} {v : Value} (C : Cx F G cc nL own) (hd : decode cc pc = .ok (.getfield index, 3)) (j : Nat) (hj : j < 8) (hL : Cond.fieldLink own index RX6 (TX6 j).2.1 (TX6 j).2.2.1 ∈ wsG) (hk : k < 58) (hc : cellE G S k = .inr (6, fs)) (hv : fs[j]? = some v) (hq : pc + 3 = q) (kk : At F G Q nL q lv (v :: st) S) : At F G Q nL pc lv (.ref (G.2.1 k) :: st) S := by
  obtain ⟨p, l, e, R, s, m, args, below, meth, c, ce, sl⟩ := F
  obtain ⟨hx, hb, hml, hown, hts, hlk, hK, hSt⟩ := C
  subst hq
  intro H locs ls hP hD hS hl
  exact va_get (D := G.1) (ci := 6) (C := RX6) (T := TX6) (N := 8) hx hb hts inX6 hown hK hP k (cw_at hk hc) rfl j hj (hts _ hL) (fun _ h9 => by rcases (show j = 0 ∨ j = 1 ∨ j = 2 ∨ j = 3 ∨ j = 4 ∨ j = 5 ∨ j = 6 ∨ j = 7 by omega) with rfl | rfl | rfl | rfl | rfl | rfl | rfl | rfl <;> exact h9) hv hd (kk H locs ls hP hD hS hl)
theorem a_put6N {F : FX} {G : GX} {Q : State → Prop} {nL pc q : Nat} {lv : List (Nat × Value)} {st : List Value} {S : SX} {cc : ByteArray} {own : String} {index k : Nat} {fs : List Value} {v : Value} {T : Type} {mk : T → SX} {z : T} {B : Type} {f : T → Option B} {r : B} (C : Cx F G cc nL own) (hd : decode cc pc = .ok (.putfield index, 3)) (hf : nm z f = some r) (j : Nat) (hj : j < 8) (hL : Cond.fieldLink own index RX6 (TX6 j).2.1 (TX6 j).2.2.1 ∈ wsG) (hk : k < 58) (hc : cellE G S k = .inr (6, fs)) (h2 : cellE G (mk z) k = .inr (6, fs.set j v)) (h3 : ∀ i, i ≠ k → cellE G (mk z) i = cellE G S i) (hfin : (TX6 j).2.2.2 = false) (hn : narrow (tyX6 j) v = v) (hfit : fits (tyX6 j) v = true) (hl' : j < fs.length) (hq : pc + 3 = q) (kk : ∀ z, f z = some r → At F G Q nL q lv st (mk z)) : At F G Q nL pc lv (v :: .ref (G.2.1 k) :: st) S := by
  obtain ⟨p, l, e, R, s, m, args, below, meth, c, ce, sl⟩ := F
  obtain ⟨hx, hb, hml, hown, hts, hlk, hK, hSt⟩ := C
  subst hq
  intro H locs ls hP hD hS hl
  refine va_put (D := G.1) (ci := 6) (v := v) (ty := tyX6 j) (C := RX6) (T := TX6) (N := 8) hx hb hts inX6 tyX6 tyX6_ok nmX6 hown hK hP hD hS k (cw_at hk hc) rfl j hj (hts _ hL) (fun _ h9 => by rcases (show j = 0 ∨ j = 1 ∨ j = 2 ∨ j = 3 ∨ j = 4 ∨ j = 5 ∨ j = 6 ∨ j = 7 by omega) with rfl | rfl | rfl | rfl | rfl | rfl | rfl | rfl <;> exact h9) hfin (tyX6_ok j hj) hn hfit hl' hd (fun H1 locs1 hP1 hD1 hS1 => ?_)
  rw [cw_set' hk h3 h2] at hP1 hD1
  exact kk z hf H1 locs1 ls hP1 hD1 hS1 hl
theorem a_get7 {F : FX} {G : GX} {Q : State → Prop} {nL pc q : Nat} {lv : List (Nat × Value)} {st : List Value} {S : SX} {cc : ByteArray} {own : String} {index k : Nat} {fs : List Value} {v : Value} (C : Cx F G cc nL own) (hd : decode cc pc = .ok (.getfield index, 3)) (j : Nat) (hj : j < 10) (hL : Cond.fieldLink own index RX7 (TX7 j).2.1 (TX7 j).2.2.1 ∈ wsG) (hk : k < 58) (hc : cellE G S k = .inr (7, fs)) (hv : fs[j]? = some v) (hq : pc + 3 = q) (kk : At F G Q nL q lv (v :: st) S) : At F G Q nL pc lv (.ref (G.2.1 k) :: st) S := by
  obtain ⟨p, l, e, R, s, m, args, below, meth, c, ce, sl⟩ := F
  obtain ⟨hx, hb, hml, hown, hts, hlk, hK, hSt⟩ := C
  subst hq
  intro H locs ls hP hD hS hl
  exact va_get (D := G.1) (ci := 7) (C := RX7) (T := TX7) (N := 10) hx hb hts inX7 hown hK hP k (cw_at hk hc) rfl j hj (hts _ hL) (fun _ h9 => by rcases (show j = 0 ∨ j = 1 ∨ j = 2 ∨ j = 3 ∨ j = 4 ∨ j = 5 ∨ j = 6 ∨ j = 7 ∨ j = 8 ∨ j = 9 by omega) with rfl | rfl | rfl | rfl | rfl | rfl | rfl | rfl | rfl | rfl <;> exact h9) hv hd (kk H locs ls hP hD hS hl)
theorem a_put7N {F : FX} {G : GX} {Q : State → Prop} {nL pc q : Nat} {lv : List (Nat × Value)} {st : List Value} {S : SX} {cc : ByteArray} {own : String} {index k : Nat} {fs : List Value} {v : Value} {T : Type} {mk : T → SX} {z : T} {B : Type} {f : T → Option B} {r : B} (C : Cx F G cc nL own) (hd : decode cc pc = .ok (.putfield index, 3)) (hf : nm z f = some r) (j : Nat) (hj : j < 10) (hL : Cond.fieldLink own index RX7 (TX7 j).2.1 (TX7 j).2.2.1 ∈ wsG) (hk : k < 58) (hc : cellE G S k = .inr (7, fs)) (h2 : cellE G (mk z) k = .inr (7, fs.set j v)) (h3 : ∀ i, i ≠ k → cellE G (mk z) i = cellE G S i) (hfin : (TX7 j).2.2.2 = false) (hn : narrow (tyX7 j) v = v) (hfit : fits (tyX7 j) v = true) (hl' : j < fs.length) (hq : pc + 3 = q) (kk : ∀ z, f z = some r → At F G Q nL q lv st (mk z)) : At F G Q nL pc lv (v :: .ref (G.2.1 k) :: st) S := by
  obtain ⟨p, l, e, R, s, m, args, below, meth, c, ce, sl⟩ := F
  obtain ⟨hx, hb, hml, hown, hts, hlk, hK, hSt⟩ := C
  subst hq
  intro H locs ls hP hD hS hl
  refine va_put (D := G.1) (ci := 7) (v := v) (ty := tyX7 j) (C := RX7) (T := TX7) (N := 10) hx hb hts inX7 tyX7 tyX7_ok nmX7 hown hK hP hD hS k (cw_at hk hc) rfl j hj (hts _ hL) (fun _ h9 => by rcases (show j = 0 ∨ j = 1 ∨ j = 2 ∨ j = 3 ∨ j = 4 ∨ j = 5 ∨ j = 6 ∨ j = 7 ∨ j = 8 ∨ j = 9 by omega) with rfl | rfl | rfl | rfl | rfl | rfl | rfl | rfl | rfl | rfl <;> exact h9) hfin (tyX7_ok j hj) hn hfit hl' hd (fun H1 locs1 hP1 hD1 hS1 => ?_)
  rw [cw_set' hk h3 h2] at hP1 hD1
  exact kk z hf H1 locs1 ls hP1 hD1 hS1 hl
theorem a_get8 {F : FX} {G : GX} {Q : State → Prop} {nL pc q : Nat} {lv : List (Nat × Value)} {st : List Value} {S : SX} {cc : ByteArray} {own : String} {index k : Nat} {fs : List Value} {v : Value} (C : Cx F G cc nL own) (hd : decode cc pc = .ok (.getfield index, 3)) (j : Nat) (hj : j < 35) (hL : Cond.fieldLink own index RX8 (TX8 j).2.1 (TX8 j).2.2.1 ∈ wsG) (hk : k < 58) (hc : cellE G S k = .inr (8, fs)) (hv : fs[j]? = some v) (hq : pc + 3 = q) (kk : At F G Q nL q lv (v :: st) S) : At F G Q nL pc lv (.ref (G.2.1 k) :: st) S := by
  obtain ⟨p, l, e, R, s, m, args, below, meth, c, ce, sl⟩ := F
  obtain ⟨hx, hb, hml, hown, hts, hlk, hK, hSt⟩ := C
  subst hq
  intro H locs ls hP hD hS hl
  exact va_get (D := G.1) (ci := 8) (C := RX8) (T := TX8) (N := 35) hx hb hts inX8 hown hK hP k (cw_at hk hc) rfl j hj (hts _ hL) (fun _ h9 => by rcases (show j = 0 ∨ j = 1 ∨ j = 2 ∨ j = 3 ∨ j = 4 ∨ j = 5 ∨ j = 6 ∨ j = 7 ∨ j = 8 ∨ j = 9 ∨ j = 10 ∨ j = 11 ∨ j = 12 ∨ j = 13 ∨ j = 14 ∨ j = 15 ∨ j = 16 ∨ j = 17 ∨ j = 18 ∨ j = 19 ∨ j = 20 ∨ j = 21 ∨ j = 22 ∨ j = 23 ∨ j = 24 ∨ j = 25 ∨ j = 26 ∨ j = 27 ∨ j = 28 ∨ j = 29 ∨ j = 30 ∨ j = 31 ∨ j = 32 ∨ j = 33 ∨ j = 34 by omega) with rfl | rfl | rfl | rfl | rfl | rfl | rfl | rfl | rfl | rfl | rfl | rfl | rfl | rfl | rfl | rfl | rfl | rfl | rfl | rfl | rfl | rfl | rfl | rfl | rfl | rfl | rfl | rfl | rfl | rfl | rfl | rfl | rfl | rfl | rfl <;> exact h9) hv hd (kk H locs ls hP hD hS hl)
theorem a_put8N {F : FX} {G : GX} {Q : State → Prop} {nL pc q : Nat} {lv : List (Nat × Value)} {st : List Value} {S : SX} {cc : ByteArray} {own : String} {index k : Nat} {fs : List Value} {v : Value} {T : Type} {mk : T → SX} {z : T} {B : Type} {f : T → Option B} {r : B} (C : Cx F G cc nL own) (hd : decode cc pc = .ok (.putfield index, 3)) (hf : nm z f = some r) (j : Nat) (hj : j < 35) (hL : Cond.fieldLink own index RX8 (TX8 j).2.1 (TX8 j).2.2.1 ∈ wsG) (hk : k < 58) (hc : cellE G S k = .inr (8, fs)) (h2 : cellE G (mk z) k = .inr (8, fs.set j v)) (h3 : ∀ i, i ≠ k → cellE G (mk z) i = cellE G S i) (hfin : (TX8 j).2.2.2 = false) (hn : narrow (tyX8 j) v = v) (hfit : fits (tyX8 j) v = true) (hl' : j < fs.length) (hq : pc + 3 = q) (kk : ∀ z, f z = some r → At F G Q nL q lv st (mk z)) : At F G Q nL pc lv (v :: .ref (G.2.1 k) :: st) S := by
  obtain ⟨p, l, e, R, s, m, args, below, meth, c, ce, sl⟩ := F
  obtain ⟨hx, hb, hml, hown, hts, hlk, hK, hSt⟩ := C
  subst hq
  intro H locs ls hP hD hS hl
  refine va_put (D := G.1) (ci := 8) (v := v) (ty := tyX8 j) (C := RX8) (T := TX8) (N := 35) hx hb hts inX8 tyX8 tyX8_ok nmX8 hown hK hP hD hS k (cw_at hk hc) rfl j hj (hts _ hL) (fun _ h9 => by rcases (show j = 0 ∨ j = 1 ∨ j = 2 ∨ j = 3 ∨ j = 4 ∨ j = 5 ∨ j = 6 ∨ j = 7 ∨ j = 8 ∨ j = 9 ∨ j = 10 ∨ j = 11 ∨ j = 12 ∨ j = 13 ∨ j = 14 ∨ j = 15 ∨ j = 16 ∨ j = 17 ∨ j = 18 ∨ j = 19 ∨ j = 20 ∨ j = 21 ∨ j = 22 ∨ j = 23 ∨ j = 24 ∨ j = 25 ∨ j = 26 ∨ j = 27 ∨ j = 28 ∨ j = 29 ∨ j = 30 ∨ j = 31 ∨ j = 32 ∨ j = 33 ∨ j = 34 by omega) with rfl | rfl | rfl | rfl | rfl | rfl | rfl | rfl | rfl | rfl | rfl | rfl | rfl | rfl | rfl | rfl | rfl | rfl | rfl | rfl | rfl | rfl | rfl | rfl | rfl | rfl | rfl | rfl | rfl | rfl | rfl | rfl | rfl | rfl | rfl <;> exact h9) hfin (tyX8_ok j hj) hn hfit hl' hd (fun H1 locs1 hP1 hD1 hS1 => ?_)
  rw [cw_set' hk h3 h2] at hP1 hD1
  exact kk z hf H1 locs1 ls hP1 hD1 hS1 hl
theorem a_iald {F : FX} {G : GX} {Q : State → Prop} {nL pc q : Nat} {lv : List (Nat × Value)} {st : List Value} {S : SX} {cc : ByteArray} {own : String} {k N : Nat} {g : Nat → Int32} {i : Int32} {B : Type} {a : Option B} {r : B} (C : Cx F G cc nL own) (hd : decode cc pc = .ok (.iaload, 1)) (hf : ix i N a = some r) (hk : k < 58) (hc : cellE G S k = .inl (G.2.2.1 1, N, .inl g)) (hq : pc + 1 = q) (kk : a = some r → At F G Q nL q lv (.int (g i.toNatClampNeg) :: st) S) : At F G Q nL pc lv (.int i :: .ref (G.2.1 k) :: st) S := by
  obtain ⟨p, l, e, R, s, m, args, below, meth, c, ce, sl⟩ := F
  obtain ⟨hx, hb, hml, hown, hts, hlk, hK, hSt⟩ := C
  subst hq
  intro H locs ls hP hD hS hl
  obtain ⟨hin, hf⟩ := ix_some hf
  exact va_iald hx hb hK hP k 1 (cw_at hk hc) rfl hin hd (kk hf H locs ls hP hD hS hl)
theorem a_bald {F : FX} {G : GX} {Q : State → Prop} {nL pc q : Nat} {lv : List (Nat × Value)} {st : List Value} {S : SX} {cc : ByteArray} {own : String} {k N : Nat} {g : Nat → Int32} {i : Int32} {B : Type} {a : Option B} {r : B} (C : Cx F G cc nL own) (hd : decode cc pc = .ok (.baload, 1)) (hf : ix i N a = some r) (hk : k < 58) (hc : cellE G S k = .inl (G.2.2.1 0, N, .inl g)) (hq : pc + 1 = q) (kk : a = some r → At F G Q nL q lv (.int (g i.toNatClampNeg) :: st) S) : At F G Q nL pc lv (.int i :: .ref (G.2.1 k) :: st) S := by
  obtain ⟨p, l, e, R, s, m, args, below, meth, c, ce, sl⟩ := F
  obtain ⟨hx, hb, hml, hown, hts, hlk, hK, hSt⟩ := C
  subst hq
  intro H locs ls hP hD hS hl
  obtain ⟨hin, hf⟩ := ix_some hf
  exact va_bald hx hb hK hP k 0 (cw_at hk hc) rfl hin hd (kk hf H locs ls hP hD hS hl)
theorem a_zald {F : FX} {G : GX} {Q : State → Prop} {nL pc q : Nat} {lv : List (Nat × Value)} {st : List Value} {S : SX} {cc : ByteArray} {own : String} {k N : Nat} {g : Nat → Int32} {i : Int32} {B : Type} {a : Option B} {r : B} (C : Cx F G cc nL own) (hd : decode cc pc = .ok (.baload, 1)) (hf : ix i N a = some r) (hk : k < 58) (hc : cellE G S k = .inl (G.2.2.1 2, N, .inl g)) (hq : pc + 1 = q) (kk : a = some r → At F G Q nL q lv (.int (g i.toNatClampNeg) :: st) S) : At F G Q nL pc lv (.int i :: .ref (G.2.1 k) :: st) S := by
  obtain ⟨p, l, e, R, s, m, args, below, meth, c, ce, sl⟩ := F
  obtain ⟨hx, hb, hml, hown, hts, hlk, hK, hSt⟩ := C
  subst hq
  intro H locs ls hP hD hS hl
  obtain ⟨hin, hf⟩ := ix_some hf
  exact va_zald hx hb hK hP k 2 (cw_at hk hc) rfl hin hd (kk hf H locs ls hP hD hS hl)
theorem a_iastN {F : FX} {G : GX} {Q : State → Prop} {nL pc q : Nat} {lv : List (Nat × Value)} {st : List Value} {S : SX} {cc : ByteArray} {own : String} {k N : Nat} {g : Nat → Int32} {i x : Int32} {T : Type} {mk : T → SX} {z : T} {B : Type} {f : T → Option B} {r : B} (C : Cx F G cc nL own) (hd : decode cc pc = .ok (.iastore, 1)) (hf : ix i N (nm z f) = some r) (hk : k < 58) (hc : cellE G S k = .inl (G.2.2.1 1, N, .inl g)) (h2 : cellE G (mk z) k = .inl (G.2.2.1 1, N, .inl (upd g i.toNatClampNeg x))) (h3 : ∀ i, i ≠ k → cellE G (mk z) i = cellE G S i) (hq : pc + 1 = q) (kk : ∀ z, f z = some r → At F G Q nL q lv st (mk z)) : At F G Q nL pc lv (.int x :: .int i :: .ref (G.2.1 k) :: st) S := by
  obtain ⟨p, l, e, R, s, m, args, below, meth, c, ce, sl⟩ := F
  obtain ⟨hx, hb, hml, hown, hts, hlk, hK, hSt⟩ := C
  subst hq
  intro H locs ls hP hD hS hl
  obtain ⟨hin, hf⟩ := ix_some hf
  refine va_iast hx hb hK hP hD hS k 1 (cw_at hk hc) rfl hin hd (fun H1 locs1 hP1 hD1 hS1 => ?_)
  rw [cw_set' hk h3 h2] at hP1 hD1
  exact kk z hf H1 locs1 ls hP1 hD1 hS1 hl
theorem a_bastN {F : FX} {G : GX} {Q : State → Prop} {nL pc q : Nat} {lv : List (Nat × Value)} {st : List Value} {S : SX} {cc : ByteArray} {own : String} {k N : Nat} {g : Nat → Int32} {i x : Int32} {T : Type} {mk : T → SX} {z : T} {B : Type} {f : T → Option B} {r : B} (C : Cx F G cc nL own) (hd : decode cc pc = .ok (.bastore, 1)) (hf : ix i N (nm z f) = some r) (hk : k < 58) (hc : cellE G S k = .inl (G.2.2.1 0, N, .inl g)) (h2 : cellE G (mk z) k = .inl (G.2.2.1 0, N, .inl (upd g i.toNatClampNeg (vp_nar .byte x)))) (h3 : ∀ i, i ≠ k → cellE G (mk z) i = cellE G S i) (hq : pc + 1 = q) (kk : ∀ z, f z = some r → At F G Q nL q lv st (mk z)) : At F G Q nL pc lv (.int x :: .int i :: .ref (G.2.1 k) :: st) S := by
  obtain ⟨p, l, e, R, s, m, args, below, meth, c, ce, sl⟩ := F
  obtain ⟨hx, hb, hml, hown, hts, hlk, hK, hSt⟩ := C
  subst hq
  intro H locs ls hP hD hS hl
  obtain ⟨hin, hf⟩ := ix_some hf
  refine va_bast hx hb hK hP hD hS k 0 (cw_at hk hc) rfl hin hd (fun H1 locs1 hP1 hD1 hS1 => ?_)
  rw [cw_set' hk h3 h2] at hP1 hD1
  exact kk z hf H1 locs1 ls hP1 hD1 hS1 hl
theorem a_zastN {F : FX} {G : GX} {Q : State → Prop} {nL pc q : Nat} {lv : List (Nat × Value)} {st : List Value} {S : SX} {cc : ByteArray} {own : String} {k N : Nat} {g : Nat → Int32} {i x : Int32} {T : Type} {mk : T → SX} {z : T} {B : Type} {f : T → Option B} {r : B} (C : Cx F G cc nL own) (hd : decode cc pc = .ok (.bastore, 1)) (hf : ix i N (nm z f) = some r) (hk : k < 58) (hc : cellE G S k = .inl (G.2.2.1 2, N, .inl g)) (h2 : cellE G (mk z) k = .inl (G.2.2.1 2, N, .inl (upd g i.toNatClampNeg (vp_nar .boolean x)))) (h3 : ∀ i, i ≠ k → cellE G (mk z) i = cellE G S i) (hq : pc + 1 = q) (kk : ∀ z, f z = some r → At F G Q nL q lv st (mk z)) : At F G Q nL pc lv (.int x :: .int i :: .ref (G.2.1 k) :: st) S := by
  obtain ⟨p, l, e, R, s, m, args, below, meth, c, ce, sl⟩ := F
  obtain ⟨hx, hb, hml, hown, hts, hlk, hK, hSt⟩ := C
  subst hq
  intro H locs ls hP hD hS hl
  obtain ⟨hin, hf⟩ := ix_some hf
  refine va_zast hx hb hK hP hD hS k 2 (cw_at hk hc) rfl hin hd (fun H1 locs1 hP1 hD1 hS1 => ?_)
  rw [cw_set' hk h3 h2] at hP1 hD1
  exact kk z hf H1 locs1 ls hP1 hD1 hS1 hl
theorem a_aald {F : FX} {G : GX} {Q : State → Prop} {nL pc q : Nat} {lv : List (Nat × Value)} {st : List Value} {S : SX} {cc : ByteArray} {own : String} {i : Int32} {B : Type} {a : Option B} {r : B} (C : Cx F G cc nL own) (hd : decode cc pc = .ok (.aaload, 1)) (hf : ix i 4 a = some r) (hq : pc + 1 = q) (kk : vp_in i 4 → a = some r → At F G Q nL q lv (.ref (G.2.1 (30 + 2 * i.toNatClampNeg)) :: st) S) : At F G Q nL pc lv (.int i :: .ref (G.2.1 29) :: st) S := by
  obtain ⟨p, l, e, R, s, m, args, below, meth, c, ce, sl⟩ := F
  obtain ⟨hx, hb, hml, hown, hts, hlk, hK, hSt⟩ := C
  subst hq
  intro H locs ls hP hD hS hl
  obtain ⟨hin, hf⟩ := ix_some hf
  exact va_aldq (C := "TwelveCars$Sheet") hx hb hK hP 29 3 (cw_at (k := 29) (by decide) rfl) rfl hin hd (kk hin hf H locs ls hP hD hS hl)
theorem a_getsSEATS {F : FX} {G : GX} {Q : State → Prop} {nL pc q : Nat} {lv : List (Nat × Value)} {st : List Value} {S : SX} {cc : ByteArray} {own : String} {index : Nat} (C : Cx F G cc nL own) (hd : decode cc pc = .ok (.getstatic index, 3)) (hL : Cond.fieldLink own index "TwelveCars$Wheel" "SEATS" "[I" ∈ wsG) (hq : pc + 3 = q) (kk : At F G Q nL q lv (.ref (G.2.2.2 0) :: st) S) : At F G Q nL pc lv st S := by
  obtain ⟨p, l, e, R, s, m, args, below, meth, c, ce, sl⟩ := F
  obtain ⟨hx, hb, hml, hown, hts, hlk, hK, hSt⟩ := C
  subst hq
  intro H locs ls hP hD hS hl
  exact va_gets hx hb hSt.1.1 hS hown (hts _ hL) (fun _ h9 => h9) hd (kk H locs ls hP hD hS hl)
theorem a_tldSEATS {F : FX} {G : GX} {Q : State → Prop} {nL pc q : Nat} {lv : List (Nat × Value)} {st : List Value} {S : SX} {cc : ByteArray} {own : String} {i : Int32} {B : Type} {a : Option B} {r : B} (C : Cx F G cc nL own) (hd : decode cc pc = .ok (.iaload, 1)) (hf : ix i 4 a = some r) (hq : pc + 1 = q) (kk : a = some r → At F G Q nL q lv (.int (tabv 0 i.toNatClampNeg) :: st) S) : At F G Q nL pc lv (.int i :: .ref (G.2.2.2 0) :: st) S := by
  obtain ⟨p, l, e, R, s, m, args, below, meth, c, ce, sl⟩ := F
  obtain ⟨hx, hb, hml, hown, hts, hlk, hK, hSt⟩ := C
  subst hq
  intro H locs ls hP hD hS hl
  obtain ⟨hin, hf⟩ := ix_some hf
  exact va_ti hx hb hSt.1.2 hS hin rfl hd (kk hf H locs ls hP hD hS hl)
theorem a_getsCW {F : FX} {G : GX} {Q : State → Prop} {nL pc q : Nat} {lv : List (Nat × Value)} {st : List Value} {S : SX} {cc : ByteArray} {own : String} {index : Nat} (C : Cx F G cc nL own) (hd : decode cc pc = .ok (.getstatic index, 3)) (hL : Cond.fieldLink own index "TwelveCars$Balance" "COSINE_WHOLE" "[I" ∈ wsG) (hq : pc + 3 = q) (kk : At F G Q nL q lv (.ref (G.2.2.2 1) :: st) S) : At F G Q nL pc lv st S := by
  obtain ⟨p, l, e, R, s, m, args, below, meth, c, ce, sl⟩ := F
  obtain ⟨hx, hb, hml, hown, hts, hlk, hK, hSt⟩ := C
  subst hq
  intro H locs ls hP hD hS hl
  exact va_gets hx hb hSt.2.1.1 hS hown (hts _ hL) (fun _ h9 => h9) hd (kk H locs ls hP hD hS hl)
theorem a_tldCW {F : FX} {G : GX} {Q : State → Prop} {nL pc q : Nat} {lv : List (Nat × Value)} {st : List Value} {S : SX} {cc : ByteArray} {own : String} {i : Int32} {B : Type} {a : Option B} {r : B} (C : Cx F G cc nL own) (hd : decode cc pc = .ok (.iaload, 1)) (hf : ix i 12 a = some r) (hq : pc + 1 = q) (kk : a = some r → At F G Q nL q lv (.int (tabv 1 i.toNatClampNeg) :: st) S) : At F G Q nL pc lv (.int i :: .ref (G.2.2.2 1) :: st) S := by
  obtain ⟨p, l, e, R, s, m, args, below, meth, c, ce, sl⟩ := F
  obtain ⟨hx, hb, hml, hown, hts, hlk, hK, hSt⟩ := C
  subst hq
  intro H locs ls hP hD hS hl
  obtain ⟨hin, hf⟩ := ix_some hf
  exact va_ti hx hb hSt.2.1.2 hS hin rfl hd (kk hf H locs ls hP hD hS hl)
theorem a_getsCR {F : FX} {G : GX} {Q : State → Prop} {nL pc q : Nat} {lv : List (Nat × Value)} {st : List Value} {S : SX} {cc : ByteArray} {own : String} {index : Nat} (C : Cx F G cc nL own) (hd : decode cc pc = .ok (.getstatic index, 3)) (hL : Cond.fieldLink own index "TwelveCars$Balance" "COSINE_ROOT" "[I" ∈ wsG) (hq : pc + 3 = q) (kk : At F G Q nL q lv (.ref (G.2.2.2 2) :: st) S) : At F G Q nL pc lv st S := by
  obtain ⟨p, l, e, R, s, m, args, below, meth, c, ce, sl⟩ := F
  obtain ⟨hx, hb, hml, hown, hts, hlk, hK, hSt⟩ := C
  subst hq
  intro H locs ls hP hD hS hl
  exact va_gets hx hb hSt.2.2.1.1 hS hown (hts _ hL) (fun _ h9 => h9) hd (kk H locs ls hP hD hS hl)
theorem a_tldCR {F : FX} {G : GX} {Q : State → Prop} {nL pc q : Nat} {lv : List (Nat × Value)} {st : List Value} {S : SX} {cc : ByteArray} {own : String} {i : Int32} {B : Type} {a : Option B} {r : B} (C : Cx F G cc nL own) (hd : decode cc pc = .ok (.iaload, 1)) (hf : ix i 12 a = some r) (hq : pc + 1 = q) (kk : a = some r → At F G Q nL q lv (.int (tabv 2 i.toNatClampNeg) :: st) S) : At F G Q nL pc lv (.int i :: .ref (G.2.2.2 2) :: st) S := by
  obtain ⟨p, l, e, R, s, m, args, below, meth, c, ce, sl⟩ := F
  obtain ⟨hx, hb, hml, hown, hts, hlk, hK, hSt⟩ := C
  subst hq
  intro H locs ls hP hD hS hl
  obtain ⟨hin, hf⟩ := ix_some hf
  exact va_ti hx hb hSt.2.2.1.2 hS hin rfl hd (kk hf H locs ls hP hD hS hl)
theorem a_getsSW {F : FX} {G : GX} {Q : State → Prop} {nL pc q : Nat} {lv : List (Nat × Value)} {st : List Value} {S : SX} {cc : ByteArray} {own : String} {index : Nat} (C : Cx F G cc nL own) (hd : decode cc pc = .ok (.getstatic index, 3)) (hL : Cond.fieldLink own index "TwelveCars$Balance" "SINE_WHOLE" "[I" ∈ wsG) (hq : pc + 3 = q) (kk : At F G Q nL q lv (.ref (G.2.2.2 3) :: st) S) : At F G Q nL pc lv st S := by
  obtain ⟨p, l, e, R, s, m, args, below, meth, c, ce, sl⟩ := F
  obtain ⟨hx, hb, hml, hown, hts, hlk, hK, hSt⟩ := C
  subst hq
  intro H locs ls hP hD hS hl
  exact va_gets hx hb hSt.2.2.2.1.1 hS hown (hts _ hL) (fun _ h9 => h9) hd (kk H locs ls hP hD hS hl)
theorem a_tldSW {F : FX} {G : GX} {Q : State → Prop} {nL pc q : Nat} {lv : List (Nat × Value)} {st : List Value} {S : SX} {cc : ByteArray} {own : String} {i : Int32} {B : Type} {a : Option B} {r : B} (C : Cx F G cc nL own) (hd : decode cc pc = .ok (.iaload, 1)) (hf : ix i 12 a = some r) (hq : pc + 1 = q) (kk : a = some r → At F G Q nL q lv (.int (tabv 3 i.toNatClampNeg) :: st) S) : At F G Q nL pc lv (.int i :: .ref (G.2.2.2 3) :: st) S := by
  obtain ⟨p, l, e, R, s, m, args, below, meth, c, ce, sl⟩ := F
  obtain ⟨hx, hb, hml, hown, hts, hlk, hK, hSt⟩ := C
  subst hq
  intro H locs ls hP hD hS hl
  obtain ⟨hin, hf⟩ := ix_some hf
  exact va_ti hx hb hSt.2.2.2.1.2 hS hin rfl hd (kk hf H locs ls hP hD hS hl)
theorem a_getsSRt {F : FX} {G : GX} {Q : State → Prop} {nL pc q : Nat} {lv : List (Nat × Value)} {st : List Value} {S : SX} {cc : ByteArray} {own : String} {index : Nat} (C : Cx F G cc nL own) (hd : decode cc pc = .ok (.getstatic index, 3)) (hL : Cond.fieldLink own index "TwelveCars$Balance" "SINE_ROOT" "[I" ∈ wsG) (hq : pc + 3 = q) (kk : At F G Q nL q lv (.ref (G.2.2.2 4) :: st) S) : At F G Q nL pc lv st S := by
  obtain ⟨p, l, e, R, s, m, args, below, meth, c, ce, sl⟩ := F
  obtain ⟨hx, hb, hml, hown, hts, hlk, hK, hSt⟩ := C
  subst hq
  intro H locs ls hP hD hS hl
  exact va_gets hx hb hSt.2.2.2.2.1.1 hS hown (hts _ hL) (fun _ h9 => h9) hd (kk H locs ls hP hD hS hl)
theorem a_tldSRt {F : FX} {G : GX} {Q : State → Prop} {nL pc q : Nat} {lv : List (Nat × Value)} {st : List Value} {S : SX} {cc : ByteArray} {own : String} {i : Int32} {B : Type} {a : Option B} {r : B} (C : Cx F G cc nL own) (hd : decode cc pc = .ok (.iaload, 1)) (hf : ix i 12 a = some r) (hq : pc + 1 = q) (kk : a = some r → At F G Q nL q lv (.int (tabv 4 i.toNatClampNeg) :: st) S) : At F G Q nL pc lv (.int i :: .ref (G.2.2.2 4) :: st) S := by
  obtain ⟨p, l, e, R, s, m, args, below, meth, c, ce, sl⟩ := F
  obtain ⟨hx, hb, hml, hown, hts, hlk, hK, hSt⟩ := C
  subst hq
  intro H locs ls hP hD hS hl
  obtain ⟨hin, hf⟩ := ix_some hf
  exact va_ti hx hb hSt.2.2.2.2.1.2 hS hin rfl hd (kk hf H locs ls hP hD hS hl)
def RetI (F : FX) (G : GX) (Q : State → Prop) (cc : ByteArray) (nL : Nat) (ty : FieldType) (r : Int32) (S : SX) : Prop := narrow ty (.int r) = .int r → ∀ (pc : Nat) (lv : List (Nat × Value)), decode cc pc = .ok (.ireturn, 1) → At F G Q nL pc lv [.int r] S
def RetL (F : FX) (G : GX) (Q : State → Prop) (cc : ByteArray) (nL : Nat) (r : Int64) (S : SX) : Prop := ∀ (pc : Nat) (lv : List (Nat × Value)), decode cc pc = .ok (.lreturn, 1) → At F G Q nL pc lv [.long r] S
def RetV (F : FX) (G : GX) (Q : State → Prop) (cc : ByteArray) (nL : Nat) (S : SX) : Prop := ∀ (pc : Nat) (lv : List (Nat × Value)), decode cc pc = .ok (.return_, 1) → At F G Q nL pc lv [] S
/-! a method's contract out of the walk of its body -/
abbrev Fx0 (p : Program) (l : Launch) (e : Env) (R : Room) (s : State) (m : MethodId) (args : Array Value) (below : List Frame) (meth : Method) (c : Code) : FX := (p, l, e, R, s, m, args, below, meth, c, 0, 0)
theorem m_I {l : Launch} {G : GX} {y : MethodName} {b : ByteArray} {nL d : Nat} {ty : FieldType} {S S' : SX} {As : List Value} {r : Int32} (hy : plainName y.cls = true) (hA : (lg_sl As).length ≤ nL)
    (body : ∀ (F : FX) (Q : State → Prop), Cx F G b nL y.cls → F.2.2.2.1 = rmD d → F.2.1 = l → F.2.2.2.2.2.2.2.2.2.2 = (0, 0) → RetI F G Q b nL ty r S' → At F G Q nL 0 (lv_args 0 As) [] S) :
    MetC l G y b nL (some ty) d S As (PostI G r S') := by
  refine Met.ofW (cc := b) (maxL := nL) (ret := some ty) hy rfl ?_
  intro p e s m args below meth c s₁ B hml hv
  obtain ⟨rfl, hP, hD, hK, hSt⟩ := hv
  have hts := atoms_spec (ws := Cond.code y b nL (some ty) :: wsG) B.pre
  have hlk := B.notSynchronized
  have hr := B.returns
  have C : Cx (Fx0 p l e (rmD d) s m As.toArray below meth c) G b nL y.cls := ⟨B.exec, B.bytes, hml, findClass_of_methodNamed B.named, fun w hw => hts w (List.mem_cons_of_mem _ hw), hlk, hK, hSt⟩
  have hl := lv_entry As (n := nL) hA
  rw [lg_entry_eq]
  refine body (Fx0 p l e (rmD d) s m As.toArray below meth c) _ C rfl rfl rfl ?_ s.heap [] _ hP hD va_S.rf hl
  intro hnr pc lv hd H locs ls hP hD hS hl
  exact W.zret B.exec B.bytes hr hnr (fun t ht hW => ⟨⟨r, (), rfl, rfl, by rw [ht]; exact hP, hD⟩, hS.F ht⟩) hS.2.2 hd
theorem m_L {l : Launch} {G : GX} {y : MethodName} {b : ByteArray} {nL d : Nat} {S S' : SX} {As : List Value} {r : Int64} (hy : plainName y.cls = true) (hA : (lg_sl As).length ≤ nL)
    (body : ∀ (F : FX) (Q : State → Prop), Cx F G b nL y.cls → F.2.2.2.1 = rmD d → F.2.1 = l → F.2.2.2.2.2.2.2.2.2.2 = (0, 0) → RetL F G Q b nL r S' → At F G Q nL 0 (lv_args 0 As) [] S) :
    MetC l G y b nL (some .long) d S As (PostL G r S') := by
  refine Met.ofW (cc := b) (maxL := nL) (ret := some .long) hy rfl ?_
  intro p e s m args below meth c s₁ B hml hv
  obtain ⟨rfl, hP, hD, hK, hSt⟩ := hv
  have hts := atoms_spec (ws := Cond.code y b nL (some .long) :: wsG) B.pre
  have hlk := B.notSynchronized
  have hr := B.returns
  have C : Cx (Fx0 p l e (rmD d) s m As.toArray below meth c) G b nL y.cls := ⟨B.exec, B.bytes, hml, findClass_of_methodNamed B.named, fun w hw => hts w (List.mem_cons_of_mem _ hw), hlk, hK, hSt⟩
  have hl := lv_entry As (n := nL) hA
  rw [lg_entry_eq]
  refine body (Fx0 p l e (rmD d) s m As.toArray below meth c) _ C rfl rfl rfl ?_ s.heap [] _ hP hD va_S.rf hl
  intro pc lv hd H locs ls hP hD hS hl
  exact W.lret B.exec B.bytes hr (fun t ht hW => ⟨⟨r, (), rfl, rfl, by rw [ht]; exact hP, hD⟩, hS.F ht⟩) hS.2.2 hd
theorem m_V {l : Launch} {G : GX} {y : MethodName} {b : ByteArray} {nL d : Nat} {S S' : SX} {As : List Value} (hy : plainName y.cls = true) (hA : (lg_sl As).length ≤ nL)
    (body : ∀ (F : FX) (Q : State → Prop), Cx F G b nL y.cls → F.2.2.2.1 = rmD d → F.2.1 = l → F.2.2.2.2.2.2.2.2.2.2 = (0, 0) → RetV F G Q b nL S' → At F G Q nL 0 (lv_args 0 As) [] S) :
    MetC l G y b nL none d S As (PostV G S') := by
  refine Met.ofW (cc := b) (maxL := nL) (ret := none) hy rfl ?_
  intro p e s m args below meth c s₁ B hml hv
  obtain ⟨rfl, hP, hD, hK, hSt⟩ := hv
  have hts := atoms_spec (ws := Cond.code y b nL none :: wsG) B.pre
  have hlk := B.notSynchronized
  have hr := B.returns
  have C : Cx (Fx0 p l e (rmD d) s m As.toArray below meth c) G b nL y.cls := ⟨B.exec, B.bytes, hml, findClass_of_methodNamed B.named, fun w hw => hts w (List.mem_cons_of_mem _ hw), hlk, hK, hSt⟩
  have hl := lv_entry As (n := nL) hA
  rw [lg_entry_eq]
  refine body (Fx0 p l e (rmD d) s m As.toArray below meth c) _ C rfl rfl rfl ?_ s.heap [] _ hP hD va_S.rf hl
  intro pc lv hd H locs ls hP hD hS hl
  exact W.vret B.exec B.bytes hr (fun t ht hW => ⟨⟨(), rfl, trivial, by rw [ht]; exact hP, hD⟩, hS.F ht⟩) hS.2.2 hd
theorem wsG_code {y : MethodName} {b : ByteArray} {nL : Nat} {ret : Option FieldType} (h : Cond.code y b nL ret ∈ wsG) : GoodIn wsG (Cond.code y b nL ret :: wsG) := by
  intro w hw
  rcases List.mem_cons.mp hw with rfl | hw
  · exact ⟨h, good_of_word (wsG_good _ h)⟩
  · exact ⟨hw, good_of_word (wsG_good _ hw)⟩
theorem goodV {y : MethodName} {b : ByteArray} {nL index : Nat} {ret : Option FieldType} {own C : String} (h : Cond.code y b nL ret ∈ wsG) (h1 : Cond.methodLink own index y ∈ wsG) (h2 : Cond.instanceMethod y ∈ wsG) (h3 : Cond.selects C y y ∈ wsG) (h4 : Cond.initialized C ∈ wsG) : GoodIn wsG (wsV own index C y (Cond.code y b nL ret :: wsG)) := by
  intro w hw
  unfold wsV at hw
  rcases List.mem_append.mp hw with hw | hw
  · simp only [List.mem_cons, List.not_mem_nil, or_false] at hw
    rcases hw with rfl | rfl | rfl | rfl
    · exact ⟨h1, good_of_word (wsG_good _ h1)⟩
    · exact ⟨h2, good_of_word (wsG_good _ h2)⟩
    · exact ⟨h3, good_of_word (wsG_good _ h3)⟩
    · exact ⟨h4, good_of_word (wsG_good _ h4)⟩
  · exact wsG_code h w hw
theorem goodS {y : MethodName} {b : ByteArray} {nL index : Nat} {ret : Option FieldType} {own : String} (h : Cond.code y b nL ret ∈ wsG) (h1 : Cond.methodLink own index y ∈ wsG) (h2 : Cond.static y ∈ wsG) (h4 : Cond.initialized y.cls ∈ wsG) : GoodIn wsG (va_wsS own index y (Cond.code y b nL ret :: wsG)) := by
  intro w hw
  unfold va_wsS at hw
  rcases List.mem_append.mp hw with hw | hw
  · simp only [List.mem_cons, List.not_mem_nil, or_false] at hw
    rcases hw with rfl | rfl | rfl
    · exact ⟨h1, good_of_word (wsG_good _ h1)⟩
    · exact ⟨h2, good_of_word (wsG_good _ h2)⟩
    · exact ⟨h4, good_of_word (wsG_good _ h4)⟩
  · exact wsG_code h w hw
/-- what a method's words say, once for each method -/
def CwV (C : String) (y : MethodName) (b : ByteArray) (nL n : Nat) (ret : Option FieldType) : Prop := Cond.code y b nL ret ∈ wsG ∧ Cond.instanceMethod y ∈ wsG ∧ Cond.selects C y y ∈ wsG ∧ Cond.initialized C ∈ wsG ∧ (y.cls = C ∧ y.cls ≠ "java/lang/invoke/MethodHandle" ∧ y.cls ≠ "java/lang/invoke/VarHandle" ∧ (parseMethodDescriptor y.desc).map (fun d => d.parameters.length) = some n) ∧ nL ≤ 21
def CwS (y : MethodName) (b : ByteArray) (nL n : Nat) (ret : Option FieldType) : Prop := Cond.code y b nL ret ∈ wsG ∧ Cond.static y ∈ wsG ∧ Cond.initialized y.cls ∈ wsG ∧ (y.cls ≠ "java/lang/invoke/MethodHandle" ∧ y.cls ≠ "java/lang/invoke/VarHandle" ∧ (parseMethodDescriptor y.desc).map (fun d => d.parameters.length) = some n) ∧ nL ≤ 21
/-- the room of a frame at depth d: callees of lesser depth fit -/
def Rm (F : FX) (d : Nat) : Prop := d ≤ F.2.2.2.1.frames ∧ 48 * d ≤ F.2.2.2.1.locals ∧ F.2.2.2.2.2.2.2.2.2.2.1 ≤ F.2.2.2.1.cells ∧ F.2.2.2.2.2.2.2.2.2.2.2 ≤ F.2.2.2.1.slots
theorem Rm.of {F : FX} {d : Nat} (h : F.2.2.2.1 = rmD d) (h2 : F.2.2.2.2.2.2.2.2.2.2 = (0, 0)) : Rm F d := by
  unfold Rm
  rw [h, h2]
  exact ⟨Nat.le_refl _, Nat.le_refl _, Nat.le_refl _, Nat.le_refl _⟩
theorem a_callVI {F : FX} {G : GX} {Q : State → Prop} {nL pc q : Nat} {lv : List (Nat × Value)} {st : List Value} {S : SX} {cc : ByteArray} {own : String} {k ci : Nat} {Cn : String} {Tn : u_T} {Nn : Nat} {fs : List Value} {index n nl d d' : Nat} {y : MethodName} {bb : ByteArray} {rt : Option FieldType} {As : List Value} {st0 : List Value} {T : Type} {x : Option T} {A : Type} {kf : T → Option A} {res : A} (C : Cx F G cc nL own) (hd : decode cc pc = .ok (.invokevirtual index, 3)) (hR : Rm F d) (hdd : d' < d) (hf : b1 x kf = some res) (val : T → Int32) (nxt : T → SX) (hk : k < 58) (hc : cellE G S k = .inr (ci, fs)) (hcl : vwCl[ci]? = some (Cn, Tn, Nn)) (cw1 : CwV Cn y bb nl n rt) (hM : ∀ b, x = some b → MetC F.2.1 G y bb nl rt d' S (.ref (G.2.1 k) :: As) (PostI G (val b) (nxt b))) (hn : As.length = n) (hst : st0 = As.reverse ++ .ref (G.2.1 k) :: st) (hW : (st.map fun v => v.category).sum ≤ 8) (hL : Cond.methodLink own index y ∈ wsG) (hq : pc + 3 = q) (kk : ∀ b, kf b = some res → At F G Q nL q lv (.int (val b) :: st) (nxt b)) : At F G Q nL pc lv st0 S := by
  obtain ⟨b, hb0, hf⟩ := b1_some hf
  have hM := hM b hb0
  have kk := kk b hf
  obtain ⟨p, l, e, R, s, m, args, below, meth, c, ce, sl⟩ := F
  obtain ⟨hx, hb, hml, hown, hts, hlk, hK, hSt⟩ := C
  subst hq
  intro H locs ls hP hD hS hl
  obtain ⟨hR1, hR2, hR3, hR4⟩ := hR
  dsimp only at hR1 hR2 hR3 hR4 hM
  subst hst
  obtain ⟨w1, w2, w3, w4, w5, w6⟩ := cw1
  refine va_calli (va_runV (As := As) (rest := st) ⟨hx, hb, hml, hown, hts⟩ hM (cwV n hts (goodV w1 hL w2 w3 w4) rfl rfl rfl w5 ⟨by show d' + 1 ≤ _; omega, by show 8 + (nl + 11) + 48 * d' ≤ _; omega⟩) ⟨PreC.blind, va_recv hK hP hcl (cw_at hk hc), fun U hU hW => ⟨rfl, by rw [hU]; exact hP, hD, va_K.moved hW.alike hK, by rw [hU]; exact hSt.go hW hS.2.1⟩⟩ rfl hn hl.1 rfl (lv_room hW) hd ⟨hR3, hR4⟩) hS (fun _ _ h => h) (fun _ h => h) (fun r u t H1 locs1 ht hvm hw hB hz1 hk1 hS1 => ?_)
  have hw : r = val b := hw
  subst hw
  obtain ⟨hP1, hD1⟩ := hB
  rw [ht] at hP1
  exact kk H1 locs1 ls hP1 hD1 hS1 hl
theorem a_callVL {F : FX} {G : GX} {Q : State → Prop} {nL pc q : Nat} {lv : List (Nat × Value)} {st : List Value} {S : SX} {cc : ByteArray} {own : String} {k ci : Nat} {Cn : String} {Tn : u_T} {Nn : Nat} {fs : List Value} {index n nl d d' : Nat} {y : MethodName} {bb : ByteArray} {rt : Option FieldType} {As : List Value} {st0 : List Value} {T : Type} {x : Option T} {A : Type} {kf : T → Option A} {res : A} (C : Cx F G cc nL own) (hd : decode cc pc = .ok (.invokevirtual index, 3)) (hR : Rm F d) (hdd : d' < d) (hf : b1 x kf = some res) (val : T → Int64) (nxt : T → SX) (hk : k < 58) (hc : cellE G S k = .inr (ci, fs)) (hcl : vwCl[ci]? = some (Cn, Tn, Nn)) (cw1 : CwV Cn y bb nl n rt) (hM : ∀ b, x = some b → MetC F.2.1 G y bb nl rt d' S (.ref (G.2.1 k) :: As) (PostL G (val b) (nxt b))) (hn : As.length = n) (hst : st0 = As.reverse ++ .ref (G.2.1 k) :: st) (hW : (st.map fun v => v.category).sum ≤ 8) (hL : Cond.methodLink own index y ∈ wsG) (hq : pc + 3 = q) (kk : ∀ b, kf b = some res → At F G Q nL q lv (.long (val b) :: st) (nxt b)) : At F G Q nL pc lv st0 S := by
  obtain ⟨b, hb0, hf⟩ := b1_some hf
  have hM := hM b hb0
  have kk := kk b hf
  obtain ⟨p, l, e, R, s, m, args, below, meth, c, ce, sl⟩ := F
  obtain ⟨hx, hb, hml, hown, hts, hlk, hK, hSt⟩ := C
  subst hq
  intro H locs ls hP hD hS hl
  obtain ⟨hR1, hR2, hR3, hR4⟩ := hR
  dsimp only at hR1 hR2 hR3 hR4 hM
  subst hst
  obtain ⟨w1, w2, w3, w4, w5, w6⟩ := cw1
  refine va_calll (va_runV (As := As) (rest := st) ⟨hx, hb, hml, hown, hts⟩ hM (cwV n hts (goodV w1 hL w2 w3 w4) rfl rfl rfl w5 ⟨by show d' + 1 ≤ _; omega, by show 8 + (nl + 11) + 48 * d' ≤ _; omega⟩) ⟨PreC.blind, va_recv hK hP hcl (cw_at hk hc), fun U hU hW => ⟨rfl, by rw [hU]; exact hP, hD, va_K.moved hW.alike hK, by rw [hU]; exact hSt.go hW hS.2.1⟩⟩ rfl hn hl.1 rfl (lv_room hW) hd ⟨hR3, hR4⟩) hS (fun _ _ h => h) (fun _ h => h) (fun r u t H1 locs1 ht hvm hw hB hz1 hk1 hS1 => ?_)
  have hw : r = val b := hw
  subst hw
  obtain ⟨hP1, hD1⟩ := hB
  rw [ht] at hP1
  exact kk H1 locs1 ls hP1 hD1 hS1 hl
theorem a_callVV {F : FX} {G : GX} {Q : State → Prop} {nL pc q : Nat} {lv : List (Nat × Value)} {st : List Value} {S : SX} {cc : ByteArray} {own : String} {k ci : Nat} {Cn : String} {Tn : u_T} {Nn : Nat} {fs : List Value} {index n nl d d' : Nat} {y : MethodName} {bb : ByteArray} {rt : Option FieldType} {As : List Value} {st0 : List Value} {T : Type} {x : Option T} {A : Type} {kf : T → Option A} {res : A} (C : Cx F G cc nL own) (hd : decode cc pc = .ok (.invokevirtual index, 3)) (hR : Rm F d) (hdd : d' < d) (hf : b1 x kf = some res) (nxt : T → SX) (hk : k < 58) (hc : cellE G S k = .inr (ci, fs)) (hcl : vwCl[ci]? = some (Cn, Tn, Nn)) (cw1 : CwV Cn y bb nl n rt) (hM : ∀ b, x = some b → MetC F.2.1 G y bb nl rt d' S (.ref (G.2.1 k) :: As) (PostV G (nxt b))) (hn : As.length = n) (hst : st0 = As.reverse ++ .ref (G.2.1 k) :: st) (hW : (st.map fun v => v.category).sum ≤ 8) (hL : Cond.methodLink own index y ∈ wsG) (hq : pc + 3 = q) (kk : ∀ b, kf b = some res → At F G Q nL q lv (st) (nxt b)) : At F G Q nL pc lv st0 S := by
  obtain ⟨b, hb0, hf⟩ := b1_some hf
  have hM := hM b hb0
  have kk := kk b hf
  obtain ⟨p, l, e, R, s, m, args, below, meth, c, ce, sl⟩ := F
  obtain ⟨hx, hb, hml, hown, hts, hlk, hK, hSt⟩ := C
  subst hq
  intro H locs ls hP hD hS hl
  obtain ⟨hR1, hR2, hR3, hR4⟩ := hR
  dsimp only at hR1 hR2 hR3 hR4 hM
  subst hst
  obtain ⟨w1, w2, w3, w4, w5, w6⟩ := cw1
  refine va_callv (va_runV (As := As) (rest := st) ⟨hx, hb, hml, hown, hts⟩ hM (cwV n hts (goodV w1 hL w2 w3 w4) rfl rfl rfl w5 ⟨by show d' + 1 ≤ _; omega, by show 8 + (nl + 11) + 48 * d' ≤ _; omega⟩) ⟨PreC.blind, va_recv hK hP hcl (cw_at hk hc), fun U hU hW => ⟨rfl, by rw [hU]; exact hP, hD, va_K.moved hW.alike hK, by rw [hU]; exact hSt.go hW hS.2.1⟩⟩ rfl hn hl.1 rfl (lv_room hW) hd ⟨hR3, hR4⟩) hS (fun _ _ h => h) (fun _ h => h) (fun u t H1 locs1 ht hvm hw hB hz1 hk1 hS1 => ?_)
  obtain ⟨hP1, hD1⟩ := hB
  rw [ht] at hP1
  exact kk H1 locs1 ls hP1 hD1 hS1 hl
theorem a_callSI {F : FX} {G : GX} {Q : State → Prop} {nL pc q : Nat} {lv : List (Nat × Value)} {st : List Value} {S : SX} {cc : ByteArray} {own : String} {index n nl d d' : Nat} {y : MethodName} {bb : ByteArray} {rt : Option FieldType} {As : List Value} {st0 : List Value} {T : Type} {x : Option T} {A : Type} {kf : T → Option A} {res : A} (C : Cx F G cc nL own) (hd : decode cc pc = .ok (.invokestatic index, 3)) (hR : Rm F d) (hdd : d' < d) (hf : b1 x kf = some res) (val : T → Int32) (nxt : T → SX) (cw1 : CwS y bb nl n rt) (hM : ∀ b, x = some b → MetC F.2.1 G y bb nl rt d' S (As) (PostI G (val b) (nxt b))) (hn : As.length = n) (hst : st0 = As.reverse ++ st) (hW : (st.map fun v => v.category).sum ≤ 8) (hL : Cond.methodLink own index y ∈ wsG) (hq : pc + 3 = q) (kk : ∀ b, kf b = some res → At F G Q nL q lv (.int (val b) :: st) (nxt b)) : At F G Q nL pc lv st0 S := by
  obtain ⟨b, hb0, hf⟩ := b1_some hf
  have hM := hM b hb0
  have kk := kk b hf
  obtain ⟨p, l, e, R, s, m, args, below, meth, c, ce, sl⟩ := F
  obtain ⟨hx, hb, hml, hown, hts, hlk, hK, hSt⟩ := C
  subst hq
  intro H locs ls hP hD hS hl
  obtain ⟨hR1, hR2, hR3, hR4⟩ := hR
  dsimp only at hR1 hR2 hR3 hR4 hM
  subst hst
  obtain ⟨w1, w2, w4, w5, w6⟩ := cw1
  refine va_calli (va_runS (As := As) (rest := st) ⟨hx, hb, hml, hown, hts⟩ hM (va_cwS n hts (goodS w1 hL w2 w4) rfl rfl rfl w5 ⟨by show d' + 1 ≤ _; omega, by show 8 + (nl + 11) + 48 * d' ≤ _; omega⟩) ⟨PreC.blind, fun U hU hW => ⟨rfl, by rw [hU]; exact hP, hD, va_K.moved hW.alike hK, by rw [hU]; exact hSt.go hW hS.2.1⟩⟩ rfl hn hl.1 rfl (lv_room hW) hd ⟨hR3, hR4⟩) hS (fun _ _ h => h) (fun _ h => h) (fun r u t H1 locs1 ht hvm hw hB hz1 hk1 hS1 => ?_)
  have hw : r = val b := hw
  subst hw
  obtain ⟨hP1, hD1⟩ := hB
  rw [ht] at hP1
  exact kk H1 locs1 ls hP1 hD1 hS1 hl
theorem a_callSL {F : FX} {G : GX} {Q : State → Prop} {nL pc q : Nat} {lv : List (Nat × Value)} {st : List Value} {S : SX} {cc : ByteArray} {own : String} {index n nl d d' : Nat} {y : MethodName} {bb : ByteArray} {rt : Option FieldType} {As : List Value} {st0 : List Value} {T : Type} {x : Option T} {A : Type} {kf : T → Option A} {res : A} (C : Cx F G cc nL own) (hd : decode cc pc = .ok (.invokestatic index, 3)) (hR : Rm F d) (hdd : d' < d) (hf : b1 x kf = some res) (val : T → Int64) (nxt : T → SX) (cw1 : CwS y bb nl n rt) (hM : ∀ b, x = some b → MetC F.2.1 G y bb nl rt d' S (As) (PostL G (val b) (nxt b))) (hn : As.length = n) (hst : st0 = As.reverse ++ st) (hW : (st.map fun v => v.category).sum ≤ 8) (hL : Cond.methodLink own index y ∈ wsG) (hq : pc + 3 = q) (kk : ∀ b, kf b = some res → At F G Q nL q lv (.long (val b) :: st) (nxt b)) : At F G Q nL pc lv st0 S := by
  obtain ⟨b, hb0, hf⟩ := b1_some hf
  have hM := hM b hb0
  have kk := kk b hf
  obtain ⟨p, l, e, R, s, m, args, below, meth, c, ce, sl⟩ := F
  obtain ⟨hx, hb, hml, hown, hts, hlk, hK, hSt⟩ := C
  subst hq
  intro H locs ls hP hD hS hl
  obtain ⟨hR1, hR2, hR3, hR4⟩ := hR
  dsimp only at hR1 hR2 hR3 hR4 hM
  subst hst
  obtain ⟨w1, w2, w4, w5, w6⟩ := cw1
  refine va_calll (va_runS (As := As) (rest := st) ⟨hx, hb, hml, hown, hts⟩ hM (va_cwS n hts (goodS w1 hL w2 w4) rfl rfl rfl w5 ⟨by show d' + 1 ≤ _; omega, by show 8 + (nl + 11) + 48 * d' ≤ _; omega⟩) ⟨PreC.blind, fun U hU hW => ⟨rfl, by rw [hU]; exact hP, hD, va_K.moved hW.alike hK, by rw [hU]; exact hSt.go hW hS.2.1⟩⟩ rfl hn hl.1 rfl (lv_room hW) hd ⟨hR3, hR4⟩) hS (fun _ _ h => h) (fun _ h => h) (fun r u t H1 locs1 ht hvm hw hB hz1 hk1 hS1 => ?_)
  have hw : r = val b := hw
  subst hw
  obtain ⟨hP1, hD1⟩ := hB
  rw [ht] at hP1
  exact kk H1 locs1 ls hP1 hD1 hS1 hl
theorem a_callSV {F : FX} {G : GX} {Q : State → Prop} {nL pc q : Nat} {lv : List (Nat × Value)} {st : List Value} {S : SX} {cc : ByteArray} {own : String} {index n nl d d' : Nat} {y : MethodName} {bb : ByteArray} {rt : Option FieldType} {As : List Value} {st0 : List Value} {T : Type} {x : Option T} {A : Type} {kf : T → Option A} {res : A} (C : Cx F G cc nL own) (hd : decode cc pc = .ok (.invokestatic index, 3)) (hR : Rm F d) (hdd : d' < d) (hf : b1 x kf = some res) (nxt : T → SX) (cw1 : CwS y bb nl n rt) (hM : ∀ b, x = some b → MetC F.2.1 G y bb nl rt d' S (As) (PostV G (nxt b))) (hn : As.length = n) (hst : st0 = As.reverse ++ st) (hW : (st.map fun v => v.category).sum ≤ 8) (hL : Cond.methodLink own index y ∈ wsG) (hq : pc + 3 = q) (kk : ∀ b, kf b = some res → At F G Q nL q lv (st) (nxt b)) : At F G Q nL pc lv st0 S := by
  obtain ⟨b, hb0, hf⟩ := b1_some hf
  have hM := hM b hb0
  have kk := kk b hf
  obtain ⟨p, l, e, R, s, m, args, below, meth, c, ce, sl⟩ := F
  obtain ⟨hx, hb, hml, hown, hts, hlk, hK, hSt⟩ := C
  subst hq
  intro H locs ls hP hD hS hl
  obtain ⟨hR1, hR2, hR3, hR4⟩ := hR
  dsimp only at hR1 hR2 hR3 hR4 hM
  subst hst
  obtain ⟨w1, w2, w4, w5, w6⟩ := cw1
  refine va_callv (va_runS (As := As) (rest := st) ⟨hx, hb, hml, hown, hts⟩ hM (va_cwS n hts (goodS w1 hL w2 w4) rfl rfl rfl w5 ⟨by show d' + 1 ≤ _; omega, by show 8 + (nl + 11) + 48 * d' ≤ _; omega⟩) ⟨PreC.blind, fun U hU hW => ⟨rfl, by rw [hU]; exact hP, hD, va_K.moved hW.alike hK, by rw [hU]; exact hSt.go hW hS.2.1⟩⟩ rfl hn hl.1 rfl (lv_room hW) hd ⟨hR3, hR4⟩) hS (fun _ _ h => h) (fun _ h => h) (fun u t H1 locs1 ht hvm hw hB hz1 hk1 hS1 => ?_)
  obtain ⟨hP1, hD1⟩ := hB
  rw [ht] at hP1
  exact kk H1 locs1 ls hP1 hD1 hS1 hl
theorem a_callTI {F : FX} {G : GX} {Q : State → Prop} {nL pc q : Nat} {lv : List (Nat × Value)} {st : List Value} {S : SX} {cc : ByteArray} {own : String} {t : Nat} {index n nl d d' : Nat} {y : MethodName} {bb : ByteArray} {rt : Option FieldType} {As : List Value} {st0 : List Value} {T : Type} {x : Option T} {A : Type} {kf : T → Option A} {res : A} (C : Cx F G cc nL own) (hd : decode cc pc = .ok (.invokevirtual index, 3)) (hR : Rm F d) (hdd : d' < d) (hf : b1 x kf = some res) (val : T → Int32) (nxt : T → SX) (ht2 : t < 2) (cw1 : CwV "java/lang/String" y bb nl n rt) (hM : ∀ b, x = some b → MetC F.2.1 G y bb nl rt d' S (.ref (G.2.2.2 (5 + t)) :: As) (PostI G (val b) (nxt b))) (hn : As.length = n) (hst : st0 = As.reverse ++ .ref (G.2.2.2 (5 + t)) :: st) (hW : (st.map fun v => v.category).sum ≤ 8) (hL : Cond.methodLink own index y ∈ wsG) (hq : pc + 3 = q) (kk : ∀ b, kf b = some res → At F G Q nL q lv (.int (val b) :: st) (nxt b)) : At F G Q nL pc lv st0 S := by
  obtain ⟨b, hb0, hf⟩ := b1_some hf
  have hM := hM b hb0
  have kk := kk b hf
  obtain ⟨p, l, e, R, s, m, args, below, meth, c, ce, sl⟩ := F
  obtain ⟨hx, hb, hml, hown, hts, hlk, hK, hSt⟩ := C
  subst hq
  intro H locs ls hP hD hS hl
  obtain ⟨hR1, hR2, hR3, hR4⟩ := hR
  dsimp only at hR1 hR2 hR3 hR4 hM
  subst hst
  obtain ⟨w1, w2, w3, w4, w5, w6⟩ := cw1
  refine va_calli (va_runV (As := As) (rest := st) ⟨hx, hb, hml, hown, hts⟩ hM (cwV n hts (goodV w1 hL w2 w3 w4) rfl rfl rfl w5 ⟨by show d' + 1 ≤ _; omega, by show 8 + (nl + 11) + 48 * d' ≤ _; omega⟩) ⟨PreC.blind, vk_recv hSt.2.2.2.2.2.2.1 ht2 hS, fun U hU hW => ⟨rfl, by rw [hU]; exact hP, hD, va_K.moved hW.alike hK, by rw [hU]; exact hSt.go hW hS.2.1⟩⟩ rfl hn hl.1 rfl (lv_room hW) hd ⟨hR3, hR4⟩) hS (fun _ _ h => h) (fun _ h => h) (fun r u t H1 locs1 ht hvm hw hB hz1 hk1 hS1 => ?_)
  have hw : r = val b := hw
  subst hw
  obtain ⟨hP1, hD1⟩ := hB
  rw [ht] at hP1
  exact kk H1 locs1 ls hP1 hD1 hS1 hl
theorem kMinS : Cond.static Lib.Math.min.name ∈ wsG := wsG_in 411 (by decide +kernel) (by decide +kernel)
theorem kMinC : Cond.code Lib.Math.min.name Lib.Math.min.code 2 (some .int) ∈ wsG := wsG_in 412 (by decide +kernel) (by decide +kernel)
theorem kMaxS : Cond.static Lib.Math.max.name ∈ wsG := wsG_in 408 (by decide +kernel) (by decide +kernel)
theorem kMaxC : Cond.code Lib.Math.max.name Lib.Math.max.code 2 (some .int) ∈ wsG := wsG_in 409 (by decide +kernel) (by decide +kernel)
theorem kMathI : Cond.initialized "java/lang/Math" ∈ wsG := wsG_in 12 (by decide +kernel) (by decide +kernel)
theorem a_mmin {F : FX} {G : GX} {Q : State → Prop} {nL pc q : Nat} {lv : List (Nat × Value)} {st : List Value} {S : SX} {cc : ByteArray} {own : String} {index d : Nat} {x y : Int32} (C : Cx F G cc nL own) (hd : decode cc pc = .ok (.invokestatic index, 3)) (hR : Rm F d) (hd1 : 1 ≤ d) (hW : (st.map fun v => v.category).sum ≤ 8) (hL : Cond.methodLink own index Lib.Math.min.name ∈ wsG) (hq : pc + 3 = q) (kk : At F G Q nL q lv (.int (if y < x then y else x) :: st) S) : At F G Q nL pc lv (.int y :: .int x :: st) S := by
  obtain ⟨p, l, e, R, s, m, args, below, meth, c, ce, sl⟩ := F
  obtain ⟨hx, hb, hml, hown, hts, hlk, hK, hSt⟩ := C
  subst hq
  intro H locs ls hP hD hS hl
  obtain ⟨hR1, hR2, hR3, hR4⟩ := hR
  dsimp only at hR1 hR2 hR3 hR4
  exact va_mmin hx hb (by rw [hml]; exact hl.1.symm) hown (hts _ hL) (hts _ kMinS) (hts _ kMathI) (hts _ kMinC) (by omega) (by omega) hR3 hR4 hd (kk H locs ls hP hD hS hl)
theorem a_mmax {F : FX} {G : GX} {Q : State → Prop} {nL pc q : Nat} {lv : List (Nat × Value)} {st : List Value} {S : SX} {cc : ByteArray} {own : String} {index d : Nat} {x y : Int32} (C : Cx F G cc nL own) (hd : decode cc pc = .ok (.invokestatic index, 3)) (hR : Rm F d) (hd1 : 1 ≤ d) (hW : (st.map fun v => v.category).sum ≤ 8) (hL : Cond.methodLink own index Lib.Math.max.name ∈ wsG) (hq : pc + 3 = q) (kk : At F G Q nL q lv (.int (if x < y then y else x) :: st) S) : At F G Q nL pc lv (.int y :: .int x :: st) S := by
  obtain ⟨p, l, e, R, s, m, args, below, meth, c, ce, sl⟩ := F
  obtain ⟨hx, hb, hml, hown, hts, hlk, hK, hSt⟩ := C
  subst hq
  intro H locs ls hP hD hS hl
  obtain ⟨hR1, hR2, hR3, hR4⟩ := hR
  dsimp only at hR1 hR2 hR3 hR4
  exact va_mmax hx hb (by rw [hml]; exact hl.1.symm) hown (hts _ hL) (hts _ kMaxS) (hts _ kMathI) (hts _ kMaxC) (by omega) (by omega) hR3 hR4 hd (kk H locs ls hP hD hS hl)
theorem nfw7 : nativeFrameWords "java/lang/System" "arraycopy" 5 = 7 := by decide
theorem a_copyN {F : FX} {G : GX} {Q : State → Prop} {nL pc q : Nat} {lv : List (Nat × Value)} {st : List Value} {S : SX} {cc : ByteArray} {own : String} {index d k0 k1 N0 N1 : Nat} {f0 f1 : Nat → Int32} {sp dp n : Int32} {T : Type} {mk : T → SX} {z : T} {B : Type} {f : T → Option B} {r : B} (C : Cx F G cc nL own) (hd : decode cc pc = .ok (.invokestatic index, 3)) (hR : Rm F d) (hd1 : 2 ≤ d) (hf : cpk sp dp n N0 N1 (nm z f) = some r) (hW : (st.map fun v => v.category).sum ≤ 8) (hL : Cond.methodLink own index arraycopyName ∈ wsG) (hk0 : k0 < 58) (hk1 : k1 < 58) (hc0 : cellE G S k0 = .inl (G.2.2.1 1, N0, .inl f0)) (hc1 : cellE G S k1 = .inl (G.2.2.1 1, N1, .inl f1)) (h2 : cellE G (mk z) k1 = .inl (G.2.2.1 1, N1, .inl (va_cpy f0 f1 sp.toNatClampNeg dp.toNatClampNeg n.toNatClampNeg))) (h3 : ∀ i, i ≠ k1 → cellE G (mk z) i = cellE G S i) (hq : pc + 3 = q) (kk : ∀ z, f z = some r → At F G Q nL q lv st (mk z)) : At F G Q nL pc lv (.int n :: .int dp :: .ref (G.2.1 k1) :: .int sp :: .ref (G.2.1 k0) :: st) S := by
  obtain ⟨p, l, e, R, s, m, args, below, meth, c, ce, sl⟩ := F
  obtain ⟨hx, hb, hml, hown, hts, hlk, hK, hSt⟩ := C
  subst hq
  intro H locs ls hP hD hS hl
  obtain ⟨hR1, hR2, hR3, hR4⟩ := hR
  dsimp only at hR1 hR2 hR3 hR4
  obtain ⟨⟨g1, g2, g3, g4, g5⟩, hf⟩ := cpk_some hf
  refine va_copyi hx hb (by rw [hml]; exact hl.1.symm) hown (hts _ hL) (hts _ k_709) (hts _ k_708) (hts _ k_17) hK hP hD hS k0 k1 1 1 (cw_at hk0 hc0) (cw_at hk1 hc1) rfl rfl rfl g1 g2 g3 g4 g5 (fun _ _ => rfl) (by omega) (by rw [nfw7]; omega) hd (fun H1 locs1 hP1 hD1 hS1 => ?_)
  rw [cw_set' hk1 h3 h2] at hP1 hD1
  exact kk z hf H1 locs1 ls hP1 hD1 hS1 hl
theorem a_strval {F : FX} {G : GX} {Q : State → Prop} {nL pc q : Nat} {lv : List (Nat × Value)} {st : List Value} {S : SX} {cc : ByteArray} {own : String} {index t : Nat} (C : Cx F G cc nL own) (hd : decode cc pc = .ok (.getfield index, 3)) (ht : t < 2) (hL : Cond.fieldLink own index "java/lang/String" "value" "[B" ∈ wsG) (hq : pc + 3 = q) (kk : At F G Q nL q lv (.ref (G.2.2.2 (7 + t)) :: st) S) : At F G Q nL pc lv (.ref (G.2.2.2 (5 + t)) :: st) S := by
  obtain ⟨p, l, e, R, s, m, args, below, meth, c, ce, sl⟩ := F
  obtain ⟨hx, hb, hml, hown, hts, hlk, hK, hSt⟩ := C
  subst hq
  intro H locs ls hP hD hS hl
  exact vk_getf hx hb (hSt.2.2.2.2.2.2.1.1 t ht).2.2.1 hS hown (hts _ hL) (fun _ h9 => h9) hd (kk H locs ls hP hD hS hl)
theorem a_strcod {F : FX} {G : GX} {Q : State → Prop} {nL pc q : Nat} {lv : List (Nat × Value)} {st : List Value} {S : SX} {cc : ByteArray} {own : String} {index t : Nat} (C : Cx F G cc nL own) (hd : decode cc pc = .ok (.getfield index, 3)) (ht : t < 2) (hL : Cond.fieldLink own index "java/lang/String" "coder" "B" ∈ wsG) (hq : pc + 3 = q) (kk : At F G Q nL q lv (.int 0 :: st) S) : At F G Q nL pc lv (.ref (G.2.2.2 (5 + t)) :: st) S := by
  obtain ⟨p, l, e, R, s, m, args, below, meth, c, ce, sl⟩ := F
  obtain ⟨hx, hb, hml, hown, hts, hlk, hK, hSt⟩ := C
  subst hq
  intro H locs ls hP hD hS hl
  exact vk_getf hx hb (hSt.2.2.2.2.2.2.1.1 t ht).2.1 hS hown (hts _ hL) (fun _ h9 => h9) hd (kk H locs ls hP hD hS hl)
theorem a_getsCS {F : FX} {G : GX} {Q : State → Prop} {nL pc q : Nat} {lv : List (Nat × Value)} {st : List Value} {S : SX} {cc : ByteArray} {own : String} {index : Nat} (C : Cx F G cc nL own) (hd : decode cc pc = .ok (.getstatic index, 3)) (hL : Cond.fieldLink own index "java/lang/String" "COMPACT_STRINGS" "Z" ∈ wsG) (hq : pc + 3 = q) (kk : At F G Q nL q lv (.int 1 :: st) S) : At F G Q nL pc lv st S := by
  obtain ⟨p, l, e, R, s, m, args, below, meth, c, ce, sl⟩ := F
  obtain ⟨hx, hb, hml, hown, hts, hlk, hK, hSt⟩ := C
  subst hq
  intro H locs ls hP hD hS hl
  exact va_gets hx hb hSt.2.2.2.2.2.1 hS hown (hts _ hL) (fun _ h9 => h9) hd (kk H locs ls hP hD hS hl)
theorem tx4 {t : Nat} (ht : t < 2) : txl.getD t 0 = 4 := by rcases (show t = 0 ∨ t = 1 by omega) with rfl | rfl <;> rfl
def txv (t i : Nat) : Int32 := (txb.getD t []).getD i 0
theorem a_strlen {F : FX} {G : GX} {Q : State → Prop} {nL pc q : Nat} {lv : List (Nat × Value)} {st : List Value} {S : SX} {cc : ByteArray} {own : String} {t : Nat} (C : Cx F G cc nL own) (hd : decode cc pc = .ok (.arraylength, 1)) (ht : t < 2) (hq : pc + 1 = q) (kk : At F G Q nL q lv (.int 4 :: st) S) : At F G Q nL pc lv (.ref (G.2.2.2 (7 + t)) :: st) S := by
  obtain ⟨p, l, e, R, s, m, args, below, meth, c, ce, sl⟩ := F
  obtain ⟨hx, hb, hml, hown, hts, hlk, hK, hSt⟩ := C
  subst hq
  intro H locs ls hP hD hS hl
  exact va_tlen hx hb (hSt.2.2.2.2.2.2.1.1 t ht).2.2.2 hS (by rw [tx4 ht]; rfl) hd (kk H locs ls hP hD hS hl)
theorem a_strld {F : FX} {G : GX} {Q : State → Prop} {nL pc q : Nat} {lv : List (Nat × Value)} {st : List Value} {S : SX} {cc : ByteArray} {own : String} {t : Nat} {i : Int32} {B : Type} {a : Option B} {r : B} (C : Cx F G cc nL own) (hd : decode cc pc = .ok (.baload, 1)) (hf : ix i 4 a = some r) (ht : t < 2) (hq : pc + 1 = q) (kk : a = some r → At F G Q nL q lv (.int (txv t i.toNatClampNeg) :: st) S) : At F G Q nL pc lv (.int i :: .ref (G.2.2.2 (7 + t)) :: st) S := by
  obtain ⟨p, l, e, R, s, m, args, below, meth, c, ce, sl⟩ := F
  obtain ⟨hx, hb, hml, hown, hts, hlk, hK, hSt⟩ := C
  subst hq
  intro H locs ls hP hD hS hl
  obtain ⟨hin, hf⟩ := ix_some hf
  exact va_tb hx hb (hSt.2.2.2.2.2.2.1.1 t ht).2.2.2 hS (by rw [tx4 ht]; exact hin) rfl hd (kk hf H locs ls hP hD hS hl)
theorem b_ldcS0 {F : FX} {G : GX} {Q : State → Prop} {nL pc q : Nat} {lv : List (Nat × Value)} {st : List Value} {S : SX} {cc : ByteArray} (C : Cx F G cc nL RX5) (hd : decode cc pc = .ok (.ldc 26, 2)) (hq : pc + 2 = q) (kk : At F G Q nL q lv (.ref (G.2.2.2 (5 + 0)) :: st) S) : At F G Q nL pc lv st S := by
  obtain ⟨p, l, e, R, s, m, args, below, meth, c, ce, sl⟩ := F
  obtain ⟨hx, hb, hml, hown, hts, hlk, hK, hSt⟩ := C
  subst hq
  intro H locs ls hP hD hS hl
  exact va_ldcS hx hb hown hSt.2.2.2.2.2.2.2.1 hd (kk H locs ls hP hD hS hl)
theorem b_ldcS1 {F : FX} {G : GX} {Q : State → Prop} {nL pc q : Nat} {lv : List (Nat × Value)} {st : List Value} {S : SX} {cc : ByteArray} (C : Cx F G cc nL RX5) (hd : decode cc pc = .ok (.ldc 32, 2)) (hq : pc + 2 = q) (kk : At F G Q nL q lv (.ref (G.2.2.2 (5 + 1)) :: st) S) : At F G Q nL pc lv st S := by
  obtain ⟨p, l, e, R, s, m, args, below, meth, c, ce, sl⟩ := F
  obtain ⟨hx, hb, hml, hown, hts, hlk, hK, hSt⟩ := C
  subst hq
  intro H locs ls hP hD hS hl
  exact va_ldcS hx hb hown hSt.2.2.2.2.2.2.2.2 hd (kk H locs ls hP hD hS hl)
/-! cells told by a kind -/
def isBal (b : Nat) : Prop := b = 18 ∨ b = 20 ∨ b = 21 ∨ b = 24 ∨ b = 25 ∨ b = 27 ∨ b = 28
def isSh (k : Nat) : Prop := k = 30 ∨ k = 32 ∨ k = 34 ∨ k = 36
def isWh (k : Nat) : Prop := k = 1 ∨ k = 7
theorem isBal.lt {b : Nat} (h : isBal b) : b < 58 := by unfold isBal at h; omega
theorem isSh.lt {b : Nat} (h : isSh b) : b < 58 := by unfold isSh at h; omega
theorem isSh.lt1 {b : Nat} (h : isSh b) : b + 1 < 58 := by unfold isSh at h; omega
theorem isWh.lt {b : Nat} (h : isWh b) : b < 58 := by unfold isWh at h; omega
theorem isWh.lt5 {b i : Nat} (h : isWh b) (hi : i ≤ 5) : b + i < 58 := by unfold isWh at h; omega
theorem isBal.at {b : Nat} (h : isBal b) (G : GX) (s : MM) (r : SR) : cellE G (s, r) b = .inr (2, [.int (s b 0), .int (s b 1), .int (s b 2), .int (s b 3)]) := by
  rcases h with rfl | rfl | rfl | rfl | rfl | rfl | rfl <;> rfl
theorem isSh.at {k : Nat} (h : isSh k) (G : GX) (s : MM) (r : SR) : cellE G (s, r) k = .inr (3, [.ref (G.2.1 (k + 1)), .int (s k 1), .int (s k 2), .int (s k 3)]) := by
  rcases h with rfl | rfl | rfl | rfl <;> rfl
theorem isSh.items {k : Nat} (h : isSh k) (G : GX) (s : MM) (r : SR) : cellE G (s, r) (k + 1) = .inl (G.2.2.1 1, 24, .inl (s (k + 1))) := by
  rcases h with rfl | rfl | rfl | rfl <;> rfl
theorem isWh.at {k : Nat} (h : isWh k) (G : GX) (s : MM) (r : SR) : cellE G (s, r) k = .inr (6, [.ref (G.2.1 (k + 1)), .ref (G.2.1 (k + 2)), .ref (G.2.1 (k + 3)), .ref (G.2.1 (k + 4)), .ref (G.2.1 (k + 5)), .int (s k 5), .int (s k 6), .int (s k 7)]) := by
  rcases h with rfl | rfl <;> rfl
theorem isWh.arr {k i : Nat} (h : isWh k) (h1 : 1 ≤ i) (h2 : i ≤ 4) (G : GX) (s : MM) (r : SR) : cellE G (s, r) (k + i) = .inl (G.2.2.1 1, 10, .inl (s (k + i))) := by
  rcases (show i = 1 ∨ i = 2 ∨ i = 3 ∨ i = 4 by omega) with rfl | rfl | rfl | rfl <;> rcases h with rfl | rfl <;> rfl
theorem isWh.sand {k : Nat} (h : isWh k) (G : GX) (s : MM) (r : SR) : cellE G (s, r) (k + 5) = .inl (G.2.2.1 1, 12, .inl (s (k + 5))) := by
  rcases h with rfl | rfl <;> rfl
theorem isBal.put {b : Nat} (h : isBal b) {j : Nat} (hj : j < 4) (G : GX) (s : MM) (r : SR) (v : Int32) : cellE G (st1 s b j v, r) b = .inr (2, [Value.int (s b 0), .int (s b 1), .int (s b 2), .int (s b 3)].set j (.int v)) := by
  rw [h.at]
  rcases (show j = 0 ∨ j = 1 ∨ j = 2 ∨ j = 3 by omega) with rfl | rfl | rfl | rfl <;> simp [st1, stA, upd]
theorem isSh.put {k : Nat} (h : isSh k) {j : Nat} (hj : j < 4) (hj0 : 0 < j) (G : GX) (s : MM) (r : SR) (v : Int32) : cellE G (st1 s k j v, r) k = .inr (3, [Value.ref (G.2.1 (k + 1)), .int (s k 1), .int (s k 2), .int (s k 3)].set j (.int v)) := by
  rw [h.at]
  rcases (show j = 1 ∨ j = 2 ∨ j = 3 by omega) with rfl | rfl | rfl <;> simp [st1, stA, upd]
theorem isSh.itput {k : Nat} (h : isSh k) (G : GX) (s : MM) (r : SR) (f : Nat → Int32) : cellE G (stA s (k + 1) f, r) (k + 1) = .inl (G.2.2.1 1, 24, .inl f) := by
  rw [h.items]
  simp [stA]
theorem isWh.put {k : Nat} (h : isWh k) {j : Nat} (hj : j < 8) (hj0 : 5 ≤ j) (G : GX) (s : MM) (r : SR) (v : Int32) : cellE G (st1 s k j v, r) k = .inr (6, [Value.ref (G.2.1 (k + 1)), .ref (G.2.1 (k + 2)), .ref (G.2.1 (k + 3)), .ref (G.2.1 (k + 4)), .ref (G.2.1 (k + 5)), .int (s k 5), .int (s k 6), .int (s k 7)].set j (.int v)) := by
  rw [h.at]
  rcases (show j = 5 ∨ j = 6 ∨ j = 7 by omega) with rfl | rfl | rfl <;> simp [st1, stA, upd]
theorem isWh.arrput {k i : Nat} (h : isWh k) (h1 : 1 ≤ i) (h2 : i ≤ 4) (G : GX) (s : MM) (r : SR) (f : Nat → Int32) : cellE G (stA s (k + i) f, r) (k + i) = .inl (G.2.2.1 1, 10, .inl f) := by
  rw [h.arr h1 h2]
  simp [stA]
theorem isWh.sandput {k : Nat} (h : isWh k) (G : GX) (s : MM) (r : SR) (f : Nat → Int32) : cellE G (stA s (k + 5) f, r) (k + 5) = .inl (G.2.2.1 1, 12, .inl f) := by
  rw [h.sand]
  simp [stA]
theorem isSh_of {i : Int32} (h : vp_in i 4) : isSh (30 + 2 * i.toNatClampNeg) := by
  obtain ⟨j, hj, rfl⟩ := vp_in_of h (by decide)
  rw [nI_clamp (by omega)]
  unfold isSh
  omega
