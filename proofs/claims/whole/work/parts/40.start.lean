/-! THE CLAIM OUT OF ONE WALK OF THE LAW'S BODY. Your part is whole_start (and what it stands on); all else here is the same for every law, but numbers. -/
def R_law : String := "TwelveCarsLaw"
def lw_P (b : Addr) (xs : List Int32) (args : Array Value) (s : State) : Prop := args = #[.ref b] ∧ s.IntsAt b xs ∧ xs.length ≤ 3072 ∧ (Jvm.Cond.and given_1 narrow_1).before args s = true
def lw_Q (_ : Array Value) (s : State) (o : Outcome) (t : State) : Prop := o = .returned (some (.int 1)) ∧ Framed s o t [] 600000 7302250
def lw_Z (below : List Frame) (a : Array Value) (s : State) : State → Prop := fun t => ∃ o, t.status = .running ∧ Ended t below o ∧ lw_Q a s o t
/-- the law's own end, with 1 on the stack, nothing written that was there before, its room as the claim has it -/
theorem lw_ret {p : Program} {l : Launch} {e : Env} {s : State} {m : MethodId} {below : List Frame} {meth : Method} {c : Code} {b : Nat} (hx : p.tables.exec = Jvm.exec) (hb : c.code = code) (hr : meth.sig.returnType = ret) (hlocks : meth.locks = false) {pc : Nat} {H : Heap} {ls : Array Slot} (hdg : decode code pc = .ok (.ireturn, 1)) : W p l e room_1 s m #[Value.ref b] below meth c H [] 600000 7302250 (lw_Z below #[Value.ref b] s) (F0 m pc ls [.int 1]) := by
  intro T hT X
  obtain ⟨fs, hret, hrun, hended, hW, hframe⟩ := X.leave (v := some (.int 1)) (hlocks := hlocks) (fun h => by rw [hr] at h; cases h)
  have hmeth' : T.vm.method? m = some meth := X.method'
  refine ⟨T.setFrames fs, ?_, .returned (some (.int 1)), hrun, hended, rfl, ⟨_, rfl⟩, hW, hframe⟩
  jvm_step X.here [X.here.top, hx, hb, hdg, hmeth', hr, ret, narrow_b1]
  (try refine ⟨rfl, ?_⟩); (try refine ⟨rfl, ?_⟩)
  first | (intro acts; rw [hret _ acts rfl rfl rfl]) | rw [hret _ _ rfl rfl rfl]
  exact Steps.refl _
/-- what holds at the law's entry: the machine, the code, the tables' words (any of lw_tbl by 'hts w (by decide +kernel)'), the script of L ints xs at the cell b, what the Statement gives of the start (any of its parts by flat_of_before) -/
def lw_At (p : Program) (s : State) (m : MethodId) (meth : Method) (c : Code) (b L : Nat) (xs : Nat → Int32) : Prop :=
  p.tables.exec = Jvm.exec ∧ c.code = code ∧ meth.sig.returnType = ret ∧ c.maxLocals = 4 ∧ s.vm.findClass R_law = some m.cls ∧ (∀ w ∈ lw_tbl, w.before #[Value.ref b] s = true) ∧ va_X b L xs s s.heap ∧ b < s.heap.size ∧ meth.locks = false ∧ (Jvm.Cond.and given_1 narrow_1).before #[Value.ref b] s = true

def t00 : MM := st1 (st1 (fun _ _ => 0) 1 7 20) 7 7 20
def u00 : SR := (stA (st1 (fun _ _ => 0) 39 6 20) 54 (upd (upd (upd (upd (fun _ => 0) 0 (-1)) 1 (-1)) 2 (-1)) 3 (-1)), fun _ => 0)
theorem st_SEATS {args : Array Value} {s : State} {A : Nat → Prop} (hs : ∀ c ∈ flatC (Jvm.Cond.and given_1 narrow_1), c.before args s = true) (hts : ∀ w ∈ lw_tbl, w.before args s = true) (hA : ∀ a : Nat, a < s.heap.size → ¬ A a) : ∃ t : Nat, va_Z "TwelveCars$Wheel" "SEATS" "[I" (.ref t) A s s.heap ∧ va_T .int t 4 (fun j => .int (tabv 0 j)) A s s.heap := by
  obtain ⟨t, ht, hT⟩ := va_Tof (tm := .static "TwelveCars$Wheel" "SEATS" "[I") (ty := .int) (N := 4) (f := fun j => .int (tabv 0 j)) (A := A) (by decide) (hs _ (by decide +kernel)) (va_eqt (hs _ (by decide +kernel))) (fun j hj => by
    rcases (show j = 0 ∨ j = 1 ∨ j = 2 ∨ j = 3 by omega) with rfl | rfl | rfl | rfl
    · exact va_eqt (hs _ (by decide +kernel))
    · exact va_eqt (hs _ (by decide +kernel))
    · exact va_eqt (hs _ (by decide +kernel))
    · exact va_eqt (hs _ (by decide +kernel))) hA
  exact ⟨t, va_Zref (hts _ k_282) (hts _ (wsG_tbl _ k_2)) ht hA, hT⟩
theorem st_COSINE_WHOLE {args : Array Value} {s : State} {A : Nat → Prop} (hs : ∀ c ∈ flatC (Jvm.Cond.and given_1 narrow_1), c.before args s = true) (hts : ∀ w ∈ lw_tbl, w.before args s = true) (hA : ∀ a : Nat, a < s.heap.size → ¬ A a) : ∃ t : Nat, va_Z "TwelveCars$Balance" "COSINE_WHOLE" "[I" (.ref t) A s s.heap ∧ va_T .int t 12 (fun j => .int (tabv 1 j)) A s s.heap := by
  obtain ⟨t, ht, hT⟩ := va_Tof (tm := .static "TwelveCars$Balance" "COSINE_WHOLE" "[I") (ty := .int) (N := 12) (f := fun j => .int (tabv 1 j)) (A := A) (by decide) (hs _ (by decide +kernel)) (va_eqt (hs _ (by decide +kernel))) (fun j hj => by
    rcases (show j = 0 ∨ j = 1 ∨ j = 2 ∨ j = 3 ∨ j = 4 ∨ j = 5 ∨ j = 6 ∨ j = 7 ∨ j = 8 ∨ j = 9 ∨ j = 10 ∨ j = 11 by omega) with rfl | rfl | rfl | rfl | rfl | rfl | rfl | rfl | rfl | rfl | rfl | rfl
    · exact va_eqt (hs _ (by decide +kernel))
    · exact va_eqt (hs _ (by decide +kernel))
    · exact va_eqt (hs _ (by decide +kernel))
    · exact va_eqt (hs _ (by decide +kernel))
    · exact va_eqt (hs _ (by decide +kernel))
    · exact va_eqt (hs _ (by decide +kernel))
    · exact va_eqt (hs _ (by decide +kernel))
    · exact va_eqt (hs _ (by decide +kernel))
    · exact va_eqt (hs _ (by decide +kernel))
    · exact va_eqt (hs _ (by decide +kernel))
    · exact va_eqt (hs _ (by decide +kernel))
    · exact va_eqt (hs _ (by decide +kernel))) hA
  exact ⟨t, va_Zref (hts _ k_304) (hts _ (wsG_tbl _ k_5)) ht hA, hT⟩
theorem st_COSINE_ROOT {args : Array Value} {s : State} {A : Nat → Prop} (hs : ∀ c ∈ flatC (Jvm.Cond.and given_1 narrow_1), c.before args s = true) (hts : ∀ w ∈ lw_tbl, w.before args s = true) (hA : ∀ a : Nat, a < s.heap.size → ¬ A a) : ∃ t : Nat, va_Z "TwelveCars$Balance" "COSINE_ROOT" "[I" (.ref t) A s s.heap ∧ va_T .int t 12 (fun j => .int (tabv 2 j)) A s s.heap := by
  obtain ⟨t, ht, hT⟩ := va_Tof (tm := .static "TwelveCars$Balance" "COSINE_ROOT" "[I") (ty := .int) (N := 12) (f := fun j => .int (tabv 2 j)) (A := A) (by decide) (hs _ (by decide +kernel)) (va_eqt (hs _ (by decide +kernel))) (fun j hj => by
    rcases (show j = 0 ∨ j = 1 ∨ j = 2 ∨ j = 3 ∨ j = 4 ∨ j = 5 ∨ j = 6 ∨ j = 7 ∨ j = 8 ∨ j = 9 ∨ j = 10 ∨ j = 11 by omega) with rfl | rfl | rfl | rfl | rfl | rfl | rfl | rfl | rfl | rfl | rfl | rfl
    · exact va_eqt (hs _ (by decide +kernel))
    · exact va_eqt (hs _ (by decide +kernel))
    · exact va_eqt (hs _ (by decide +kernel))
    · exact va_eqt (hs _ (by decide +kernel))
    · exact va_eqt (hs _ (by decide +kernel))
    · exact va_eqt (hs _ (by decide +kernel))
    · exact va_eqt (hs _ (by decide +kernel))
    · exact va_eqt (hs _ (by decide +kernel))
    · exact va_eqt (hs _ (by decide +kernel))
    · exact va_eqt (hs _ (by decide +kernel))
    · exact va_eqt (hs _ (by decide +kernel))
    · exact va_eqt (hs _ (by decide +kernel))) hA
  exact ⟨t, va_Zref (hts _ k_306) (hts _ (wsG_tbl _ k_5)) ht hA, hT⟩
theorem st_SINE_WHOLE {args : Array Value} {s : State} {A : Nat → Prop} (hs : ∀ c ∈ flatC (Jvm.Cond.and given_1 narrow_1), c.before args s = true) (hts : ∀ w ∈ lw_tbl, w.before args s = true) (hA : ∀ a : Nat, a < s.heap.size → ¬ A a) : ∃ t : Nat, va_Z "TwelveCars$Balance" "SINE_WHOLE" "[I" (.ref t) A s s.heap ∧ va_T .int t 12 (fun j => .int (tabv 3 j)) A s s.heap := by
  obtain ⟨t, ht, hT⟩ := va_Tof (tm := .static "TwelveCars$Balance" "SINE_WHOLE" "[I") (ty := .int) (N := 12) (f := fun j => .int (tabv 3 j)) (A := A) (by decide) (hs _ (by decide +kernel)) (va_eqt (hs _ (by decide +kernel))) (fun j hj => by
    rcases (show j = 0 ∨ j = 1 ∨ j = 2 ∨ j = 3 ∨ j = 4 ∨ j = 5 ∨ j = 6 ∨ j = 7 ∨ j = 8 ∨ j = 9 ∨ j = 10 ∨ j = 11 by omega) with rfl | rfl | rfl | rfl | rfl | rfl | rfl | rfl | rfl | rfl | rfl | rfl
    · exact va_eqt (hs _ (by decide +kernel))
    · exact va_eqt (hs _ (by decide +kernel))
    · exact va_eqt (hs _ (by decide +kernel))
    · exact va_eqt (hs _ (by decide +kernel))
    · exact va_eqt (hs _ (by decide +kernel))
    · exact va_eqt (hs _ (by decide +kernel))
    · exact va_eqt (hs _ (by decide +kernel))
    · exact va_eqt (hs _ (by decide +kernel))
    · exact va_eqt (hs _ (by decide +kernel))
    · exact va_eqt (hs _ (by decide +kernel))
    · exact va_eqt (hs _ (by decide +kernel))
    · exact va_eqt (hs _ (by decide +kernel))) hA
  exact ⟨t, va_Zref (hts _ k_308) (hts _ (wsG_tbl _ k_5)) ht hA, hT⟩
theorem st_SINE_ROOT {args : Array Value} {s : State} {A : Nat → Prop} (hs : ∀ c ∈ flatC (Jvm.Cond.and given_1 narrow_1), c.before args s = true) (hts : ∀ w ∈ lw_tbl, w.before args s = true) (hA : ∀ a : Nat, a < s.heap.size → ¬ A a) : ∃ t : Nat, va_Z "TwelveCars$Balance" "SINE_ROOT" "[I" (.ref t) A s s.heap ∧ va_T .int t 12 (fun j => .int (tabv 4 j)) A s s.heap := by
  obtain ⟨t, ht, hT⟩ := va_Tof (tm := .static "TwelveCars$Balance" "SINE_ROOT" "[I") (ty := .int) (N := 12) (f := fun j => .int (tabv 4 j)) (A := A) (by decide) (hs _ (by decide +kernel)) (va_eqt (hs _ (by decide +kernel))) (fun j hj => by
    rcases (show j = 0 ∨ j = 1 ∨ j = 2 ∨ j = 3 ∨ j = 4 ∨ j = 5 ∨ j = 6 ∨ j = 7 ∨ j = 8 ∨ j = 9 ∨ j = 10 ∨ j = 11 by omega) with rfl | rfl | rfl | rfl | rfl | rfl | rfl | rfl | rfl | rfl | rfl | rfl
    · exact va_eqt (hs _ (by decide +kernel))
    · exact va_eqt (hs _ (by decide +kernel))
    · exact va_eqt (hs _ (by decide +kernel))
    · exact va_eqt (hs _ (by decide +kernel))
    · exact va_eqt (hs _ (by decide +kernel))
    · exact va_eqt (hs _ (by decide +kernel))
    · exact va_eqt (hs _ (by decide +kernel))
    · exact va_eqt (hs _ (by decide +kernel))
    · exact va_eqt (hs _ (by decide +kernel))
    · exact va_eqt (hs _ (by decide +kernel))
    · exact va_eqt (hs _ (by decide +kernel))
    · exact va_eqt (hs _ (by decide +kernel))) hA
  exact ⟨t, va_Zref (hts _ k_310) (hts _ (wsG_tbl _ k_5)) ht hA, hT⟩
theorem st_txt {args : Array Value} {s : State} {A : Nat → Prop} (hs : ∀ c ∈ flatC (Jvm.Cond.and given_1 narrow_1), c.before args s = true) (hts : ∀ w ∈ lw_tbl, w.before args s = true) (hA : ∀ a : Nat, a < s.heap.size → ¬ A a) : va_Z "java/lang/String" "COMPACT_STRINGS" "Z" (.int 1) A s s.heap ∧ ∃ adK adV : Nat → Nat, vk_S 2 txl txb adK adV A s s.heap ∧ vk_R "TwelveCars$Tape" 26 "gcsb" (adK 0) s ∧ vk_R "TwelveCars$Tape" 32 "iost" (adK 1) s := by
  refine ⟨va_Zof (hts _ k_392) (hts _ (wsG_tbl _ k_10)) (va_eqi (hs _ (by decide +kernel))) hA, ?_⟩
  obtain ⟨adK, adV, hS, he⟩ := vk_Sof (args := args) (s := s) (N := 2) (tm := fun i => .string "TwelveCars$Tape" (if i = 0 then 26 else 32)) (len := txl) (byt := txb) (A := A)
    (fun i hi => by rcases (show i = 0 ∨ i = 1 by omega) with rfl | rfl <;> decide)
    (fun i hi => by rcases (show i = 0 ∨ i = 1 by omega) with rfl | rfl <;> exact hs _ (by decide +kernel))
    (fun i hi => by rcases (show i = 0 ∨ i = 1 by omega) with rfl | rfl <;> exact hs _ (by decide +kernel))
    (fun i hi => by rcases (show i = 0 ∨ i = 1 by omega) with rfl | rfl <;> exact hs _ (by decide +kernel))
    (fun i hi => by rcases (show i = 0 ∨ i = 1 by omega) with rfl | rfl <;> exact hs _ (by decide +kernel))
    (fun i hi j hj => by
      rcases (show i = 0 ∨ i = 1 by omega) with rfl | rfl
      · rcases (show j = 0 ∨ j = 1 ∨ j = 2 ∨ j = 3 by have : j < 4 := hj; omega) with rfl | rfl | rfl | rfl <;> exact hs _ (by decide +kernel)
      · rcases (show j = 0 ∨ j = 1 ∨ j = 2 ∨ j = 3 by have : j < 4 := hj; omega) with rfl | rfl | rfl | rfl <;> exact hs _ (by decide +kernel))
    (fun i j hi hj hij => by
      rcases (show i = 0 ∨ i = 1 by omega) with rfl | rfl <;> rcases (show j = 0 ∨ j = 1 by omega) with rfl | rfl
      · exact absurd rfl hij
      · exact Or.inl (hs _ (by decide +kernel))
      · exact Or.inr (hs _ (by decide +kernel))
      · exact absurd rfl hij) hA
  exact ⟨adK, adV, hS, vk_R.of (hts _ k_366) (he 0 (by decide)), vk_R.of (hts _ k_493) (he 1 (by decide))⟩
theorem cy_of {args : Array Value} {s : State} {ty : FieldType} (hp : ∀ C, ty ≠ .object C) (h : (Cond.arrayClass ty).before args s = true) : ∃ cA : ClassId, ArrOfT s cA ty ∧ va_RA s cA ty := by
  obtain ⟨c, k, comp, h1, h2, h3⟩ := Cond.arrayClass_spec (args := args) (first := s) (o := none) (s := s) (idx := []) h
  refine ⟨c, fun n z => ⟨fun k h => (by cases h), k, h2, comp, h3⟩, ?_⟩
  cases ty with
  | object C => exact absurd rfl (hp C)
  | _ => exact h1
theorem cy_ofS {args : Array Value} {s : State} (h : (Cond.arrayOver (.object "TwelveCars$Sheet")).before args s = true) : ∃ cA : ClassId, ArrOfT s cA (.object "TwelveCars$Sheet") ∧ va_RA s cA (.object "TwelveCars$Sheet") := by
  obtain ⟨comp, c, k, h1, h2, h3, h4, h5⟩ := Cond.arrayOver_spec (args := args) (first := s) (o := none) (s := s) (idx := []) h
  exact ⟨c, fun n z => ⟨fun k h => (by cases h), k, h3, comp, h4⟩, k, comp, h3, h4, h1, h5⟩
theorem dd_of {args : Array Value} {s : State} (hts : ∀ w ∈ wsG, w.before args s = true) : ∃ D : va_G, ∀ (c : Nat) (q : vw_C), vwCl[c]? = some q → u_Kn s q.1 q.2.1 q.2.2 (D.1 c) (D.2 c) := by
  obtain ⟨c0, i0, h0⟩ := u_known (C := RX0) (T := TX0) (N := 5) (n := 5) hts inX0 (hts _ k_97)
  obtain ⟨c1, i1, h1⟩ := u_known (C := RX1) (T := TX1) (N := 4) (n := 4) hts inX1 (hts _ k_142)
  obtain ⟨c2, i2, h2⟩ := u_known (C := RX2) (T := TX2) (N := 4) (n := 4) hts inX2 (hts _ k_103)
  obtain ⟨c3, i3, h3⟩ := u_known (C := RX3) (T := TX3) (N := 4) (n := 4) hts inX3 (hts _ k_191)
  obtain ⟨c4, i4, h4⟩ := u_known (C := RX4) (T := TX4) (N := 5) (n := 5) hts inX4 (hts _ k_163)
  obtain ⟨c5, i5, h5⟩ := u_known (C := RX5) (T := TX5) (N := 5) (n := 5) hts inX5 (hts _ k_71)
  obtain ⟨c6, i6, h6⟩ := u_known (C := RX6) (T := TX6) (N := 8) (n := 8) hts inX6 (hts _ k_27)
  obtain ⟨c7, i7, h7⟩ := u_known (C := RX7) (T := TX7) (N := 10) (n := 10) hts inX7 (hts _ k_19)
  obtain ⟨c8, i8, h8⟩ := u_known (C := RX8) (T := TX8) (N := 35) (n := 35) hts inX8 (hts _ k_763)
  refine ⟨(fun k => match k with | 0 => c0 | 1 => c1 | 2 => c2 | 3 => c3 | 4 => c4 | 5 => c5 | 6 => c6 | 7 => c7 | _ => c8, fun k => match k with | 0 => i0 | 1 => i1 | 2 => i2 | 3 => i3 | 4 => i4 | 5 => i5 | 6 => i6 | 7 => i7 | _ => i8), ?_⟩
  intro c q hq
  match c, hq with
  | 0, hq => cases hq; exact h0
  | 1, hq => cases hq; exact h1
  | 2, hq => cases hq; exact h2
  | 3, hq => cases hq; exact h3
  | 4, hq => cases hq; exact h4
  | 5, hq => cases hq; exact h5
  | 6, hq => cases hq; exact h6
  | 7, hq => cases hq; exact h7
  | 8, hq => cases hq; exact h8
  | c + 9, hq => simp [vwCl] at hq
theorem tys_of {args : Array Value} {s : State} (hts : ∀ w ∈ lw_tbl, w.before args s = true) : ∃ (D : va_G) (cy : Nat → ClassId), va_K D vwCl (tysC cy) s := by
  obtain ⟨D, hD⟩ := dd_of (fun w h => hts w (wsG_tbl w h))
  obtain ⟨cB, b1, b2⟩ := cy_of (ty := .byte) (fun _ h => by cases h) (hts _ (wsG_tbl _ k_95))
  obtain ⟨cI, i1, i2⟩ := cy_of (ty := .int) (fun _ h => by cases h) (hts _ (wsG_tbl _ k_69))
  obtain ⟨cZ, z1, z2⟩ := cy_of (ty := .boolean) (fun _ h => by cases h) (hts _ (wsG_tbl _ k_874))
  obtain ⟨cS, s1, s2⟩ := cy_ofS (hts _ k_190)
  refine ⟨D, fun k => match k with | 0 => cB | 1 => cI | 2 => cZ | _ => cS, hD, ?_⟩
  intro k q hq
  match k, hq with
  | 0, hq => cases hq; exact ⟨b1, b2⟩
  | 1, hq => cases hq; exact ⟨i1, i2⟩
  | 2, hq => cases hq; exact ⟨z1, z2⟩
  | 3, hq => cases hq; exact ⟨s1, s2⟩
  | k + 4, hq => simp at hq
def adr (a a' : Nat) (u v : Nat → Nat) (k : Nat) : Nat := if k = 0 then a else if k < 39 then u (k - 1) else if k = 39 then a' else v (k - 40)
theorem row4 {c : ClassId} {f g : Nat → Option Nat} (h : ∀ i, i < 4 → f i = g i) : vp_cell c (4, .inr (.inr (.inr (.inr f)))) = vp_cell c (4, .inr (.inr (.inr (.inr g)))) := by
  rw [vp_cell_q, vp_cell_q]
  unfold arrV
  congr 1
  apply Array.ext
  · simp
  · intro i h1 h2
    have h3 : i < 4 := by simpa using h1
    simp [h i h3]
set_option maxRecDepth 100000 in
set_option maxHeartbeats 8000000 in
theorem cw_start {D : va_G} {cy : Nat → ClassId} {sa : Nat → Nat} {a a' : Nat} {u v : Nat → Nat} {H : Heap} (hP : va_P D vwCl (mk_X7 cy a u ++ mk_X8 cy a' v) H) : va_P D vwCl (cw (D, adr a a' u v, cy, sa) (t00, u00)) H := by
  intro k q hk
  have hlt : k < 58 := by
    have h := (List.getElem?_eq_some_iff.mp hk).1
    simpa [cw] using h
  rw [cw_get hlt] at hk
  have hq := Option.some.inj hk
  subst hq
  match k, hlt with
  | 0, _ => exact hP 0 _ rfl
  | 1, _ => exact hP 1 _ rfl
  | 2, _ => exact hP 2 _ rfl
  | 3, _ => exact hP 3 _ rfl
  | 4, _ => exact hP 4 _ rfl
  | 5, _ => exact hP 5 _ rfl
  | 6, _ => exact hP 6 _ rfl
  | 7, _ => exact hP 7 _ rfl
  | 8, _ => exact hP 8 _ rfl
  | 9, _ => exact hP 9 _ rfl
  | 10, _ => exact hP 10 _ rfl
  | 11, _ => exact hP 11 _ rfl
  | 12, _ => exact hP 12 _ rfl
  | 13, _ => exact hP 13 _ rfl
  | 14, _ => exact hP 14 _ rfl
  | 15, _ => exact hP 15 _ rfl
  | 16, _ => exact hP 16 _ rfl
  | 17, _ => exact hP 17 _ rfl
  | 18, _ => exact hP 18 _ rfl
  | 19, _ => exact hP 19 _ rfl
  | 20, _ => exact hP 20 _ rfl
  | 21, _ => exact hP 21 _ rfl
  | 22, _ => exact hP 22 _ rfl
  | 23, _ => exact hP 23 _ rfl
  | 24, _ => exact hP 24 _ rfl
  | 25, _ => exact hP 25 _ rfl
  | 26, _ => exact hP 26 _ rfl
  | 27, _ => exact hP 27 _ rfl
  | 28, _ => exact hP 28 _ rfl
  | 29, _ =>
    have h := hP 29 _ rfl
    exact Eq.trans h (congrArg some (row4 (fun i hi => by rcases (show i = 0 ∨ i = 1 ∨ i = 2 ∨ i = 3 by omega) with rfl | rfl | rfl | rfl <;> rfl)))
  | 30, _ => exact hP 30 _ rfl
  | 31, _ => exact hP 31 _ rfl
  | 32, _ => exact hP 32 _ rfl
  | 33, _ => exact hP 33 _ rfl
  | 34, _ => exact hP 34 _ rfl
  | 35, _ => exact hP 35 _ rfl
  | 36, _ => exact hP 36 _ rfl
  | 37, _ => exact hP 37 _ rfl
  | 38, _ => exact hP 38 _ rfl
  | 39, _ => exact hP 39 _ rfl
  | 40, _ => exact hP 40 _ rfl
  | 41, _ => exact hP 41 _ rfl
  | 42, _ => exact hP 42 _ rfl
  | 43, _ => exact hP 43 _ rfl
  | 44, _ => exact hP 44 _ rfl
  | 45, _ => exact hP 45 _ rfl
  | 46, _ => exact hP 46 _ rfl
  | 47, _ => exact hP 47 _ rfl
  | 48, _ => exact hP 48 _ rfl
  | 49, _ => exact hP 49 _ rfl
  | 50, _ => exact hP 50 _ rfl
  | 51, _ => exact hP 51 _ rfl
  | 52, _ => exact hP 52 _ rfl
  | 53, _ => exact hP 53 _ rfl
  | 54, _ => exact hP 54 _ rfl
  | 55, _ => exact hP 55 _ rfl
  | 56, _ => exact hP 56 _ rfl
  | 57, _ => exact hP 57 _ rfl
  | k + 58, h => exact absurd h (by omega)
set_option maxRecDepth 100000 in
theorem ad_start {cy : Nat → ClassId} {a a' : Nat} {u v : Nat → Nat} : (mk_X7 cy a u ++ mk_X8 cy a' v).map Prod.fst = (List.range 58).map (adr a a' u v) := rfl
theorem cw_startD {A : Nat → Prop} {D : va_G} {cy : Nat → ClassId} {sa : Nat → Nat} {a a' : Nat} {u v : Nat → Nat} {S : SX} (hD : va_D A (mk_X7 cy a u ++ mk_X8 cy a' v)) : va_D (Af (D, adr a a' u v, cy, sa)) (cw (D, adr a a' u v, cy, sa) S) ∧ ∀ k, k < 58 → A (adr a a' u v k) := by
  have key : ∀ k, k < 58 → ∃ e, (mk_X7 cy a u ++ mk_X8 cy a' v)[k]? = some (adr a a' u v k, e) := by
    intro k hk
    have h : ((mk_X7 cy a u ++ mk_X8 cy a' v).map Prod.fst)[k]? = some (adr a a' u v k) := by
      rw [ad_start, List.getElem?_map, List.getElem?_range hk]
      rfl
    rw [List.getElem?_map] at h
    cases hx : (mk_X7 cy a u ++ mk_X8 cy a' v)[k]? with
    | none => rw [hx] at h; cases h
    | some x =>
      rw [hx] at h
      obtain ⟨x1, x2⟩ := x
      have : x1 = adr a a' u v k := Option.some.inj h
      subst this
      exact ⟨x2, rfl⟩
  have lt : ∀ k q, (cw (D, adr a a' u v, cy, sa) S)[k]? = some q → k < 58 ∧ q.1 = adr a a' u v k := by
    intro k q hk
    have hlt : k < 58 := by
      have h := (List.getElem?_eq_some_iff.mp hk).1
      simpa [cw] using h
    rw [cw_get hlt] at hk
    have hq := Option.some.inj hk
    subst hq
    exact ⟨hlt, rfl⟩
  refine ⟨⟨fun i j p q hi hj hpq => ?_, fun k q hk => ?_⟩, fun k hk => ?_⟩
  · obtain ⟨hi1, hi2⟩ := lt i p hi
    obtain ⟨hj1, hj2⟩ := lt j q hj
    obtain ⟨e1, h1⟩ := key i hi1
    obtain ⟨e2, h2⟩ := key j hj1
    exact hD.1 i j _ _ h1 h2 (hi2.symm.trans (hpq.trans hj2))
  · obtain ⟨h1, h2⟩ := lt k q hk
    exact ⟨k, h1, h2⟩
  · obtain ⟨e, h⟩ := key k hk
    exact hD.2 k _ h
set_option maxHeartbeats 8000000 in
set_option maxRecDepth 100000 in
/-- the law from its entry, if its loop, as a function, comes to its end -/
theorem whole_open (hpure : ∀ (L : Nat) (xs : Nat → Int32), L ≤ 3072 → ∃ (n : Nat) (x : Unit), it3 (lb_law n L xs) n 0 t00 u00 = some x) {p : Program} {e : Env} {s : State} {m : MethodId} {below : List Frame} {meth : Method} {c : Code} (l : Launch) {b L : Nat} {xs : Nat → Int32} (hL : L ≤ 3072) (C0 : lw_At p s m meth c b L xs) : W p l e room_1 s m #[Value.ref b] below meth c s.heap [] 0 0 (lw_Z below #[Value.ref b] s) (entryFrame m ([Value.ref b] : List Value).toArray 4) := by
  obtain ⟨hx, hb, hr, hml, hown, hts, hX, hbl, hlocks, hgv⟩ := id C0
  have hs := flat_of_before _ hgv
  have hwG : ∀ w ∈ wsG, w.before #[Value.ref b] s = true := fun w h => hts w (wsG_tbl w h)
  obtain ⟨D, cy, hK⟩ := tys_of hts
  have hA0 : ∀ a : Nat, a < s.heap.size → ¬ (fun q : Nat => s.heap.size ≤ q) a := fun a h1 h2 => Nat.lt_irrefl _ (Nat.lt_of_lt_of_le h1 h2)
  obtain ⟨s0, z0, T0⟩ := st_SEATS hs hts hA0
  obtain ⟨s1, z1, T1⟩ := st_COSINE_WHOLE hs hts hA0
  obtain ⟨s2, z2, T2⟩ := st_COSINE_ROOT hs hts hA0
  obtain ⟨s3, z3, T3⟩ := st_SINE_WHOLE hs hts hA0
  obtain ⟨s4, z4, T4⟩ := st_SINE_ROOT hs hts hA0
  obtain ⟨zC, adK, adV, hvS, r0, r1⟩ := st_txt hs hts hA0
  have hN : Nst s := ⟨va_Nw.of rfl (hts _ k_28), va_Nw.of rfl (hts _ k_72), va_Nw.of rfl (hts _ k_104), va_Nw.of rfl (hts _ k_148), va_Nw.of rfl (hts _ k_169), va_Nw.of rfl (hts _ k_188), va_Nw.of rfl (hts _ k_192), va_AO.of (hts _ k_190)⟩
  have C : Dx (p, l, e, room_1, s, m, #[Value.ref b], below, meth, c, 58, 4290) D cy (fun q : Nat => s.heap.size ≤ q) cL_law 4 RL 40 600000 7302250 := ⟨hx, hb, hml, hown, hwG, hlocks, hK, fun _ h => h, hN, Nat.le_of_ble_eq_true rfl, Nat.le_of_ble_eq_true rfl, rfl, rfl⟩
  have hl := lv_entry ([.ref b]) (n := 4) (Nat.le_of_ble_eq_true rfl)
  rw [lg_entry_eq]
  generalize (lg_sl ([.ref b]) ++ List.replicate (4 - (lg_sl ([.ref b])).length) Slot.unset).toArray = ls at hl ⊢
  have hl : lv_has ls 4 [(0, .ref b)] := hl
  have hP : va_P D vwCl [] s.heap := fun k q h => by simp at h
  have hD : va_D (fun q : Nat => s.heap.size ≤ q) [] := ⟨fun i j p q h => by simp at h, fun k q h => by simp at h⟩
  have K : Bt (p, l, e, room_1, s, m, #[Value.ref b], below, meth, c, 58, 4290) D (fun q : Nat => s.heap.size ≤ q) (lw_Z below #[Value.ref b] s) 4 0 [(0, .ref b)] [] [] 0 0 := by
    refine e_new7 C (q := 3) (fs := [.null, .null, .null, .null, .null, .null, .null, .null, .null, .int 0]) dL_law_0 rfl k_18 (fun j hj => by rcases (show j = 0 ∨ j = 1 ∨ j = 2 ∨ j = 3 ∨ j = 4 ∨ j = 5 ∨ j = 6 ∨ j = 7 ∨ j = 8 ∨ j = 9 by omega) with rfl | rfl | rfl | rfl | rfl | rfl | rfl | rfl | rfl | rfl <;> rfl) (Nat.le_of_ble_eq_true rfl) (Nat.le_of_ble_eq_true rfl) (fun a => ?_)
    refine e_dup C (q := 4) dL_law_3 rfl rfl ?_
    refine e_ctor C (n := 0) (ce := 1) (sl := 10) (q := 7) (As := []) (st := [.ref a]) (ws := []) (mkw := (mk_X7 cy)) dL_law_4 rfl (by decide) (by decide) k_22 k_1 k_21 rfl (by decide +kernel) k_20 (fun sz => k_X7_init _ D cy _ sz) rfl rfl (Nat.le_of_ble_eq_true rfl) (Nat.le_of_ble_eq_true rfl) (Nat.le_of_ble_eq_true rfl) (fun u => ?_)
    refine e_astore_n C (i := 1) (q := 8) (lv' := [(1, .ref a), (0, .ref b)]) dL_law_7 rfl rfl (by decide) rfl ?_
    refine e_new8 C (q := 11) (fs := [.null, .null, .null, .null, .int 0, .null, .int 0, .int 0, .int 0, .null, .int 0, .int 0, .int 0, .int 0, .long 0, .long 0, .null, .int 0, .int 0, .int 0, .null, .null, .null, .null, .int 0, .null, .null, .long 0, .long 0, .int 0, .null, .null, .null, .null, .null]) dL_law_8 rfl k_762 (fun j hj => by rcases (show j = 0 ∨ j = 1 ∨ j = 2 ∨ j = 3 ∨ j = 4 ∨ j = 5 ∨ j = 6 ∨ j = 7 ∨ j = 8 ∨ j = 9 ∨ j = 10 ∨ j = 11 ∨ j = 12 ∨ j = 13 ∨ j = 14 ∨ j = 15 ∨ j = 16 ∨ j = 17 ∨ j = 18 ∨ j = 19 ∨ j = 20 ∨ j = 21 ∨ j = 22 ∨ j = 23 ∨ j = 24 ∨ j = 25 ∨ j = 26 ∨ j = 27 ∨ j = 28 ∨ j = 29 ∨ j = 30 ∨ j = 31 ∨ j = 32 ∨ j = 33 ∨ j = 34 by omega) with rfl | rfl | rfl | rfl | rfl | rfl | rfl | rfl | rfl | rfl | rfl | rfl | rfl | rfl | rfl | rfl | rfl | rfl | rfl | rfl | rfl | rfl | rfl | rfl | rfl | rfl | rfl | rfl | rfl | rfl | rfl | rfl | rfl | rfl | rfl <;> rfl) (Nat.le_of_ble_eq_true rfl) (Nat.le_of_ble_eq_true rfl) (fun a' => ?_)
    refine e_dup C (q := 12) dL_law_11 rfl rfl ?_
    refine e_ctor C (n := 0) (q := 15) (As := []) (st := [.ref a']) (ws := [] ++ mk_X7 cy a u) (mkw := (mk_X8 cy)) dL_law_12 rfl (by decide) (by decide) k_766 k_9 k_765 rfl (by decide +kernel) k_764 (fun sz => k_X8_init _ D cy _ sz) rfl rfl (Nat.le_of_ble_eq_true rfl) (Nat.le_of_ble_eq_true rfl) (Nat.le_of_ble_eq_true rfl) (fun v => ?_)
    refine e_astore_n C (i := 2) (q := 16) (lv' := [(2, .ref a'), (1, .ref a), (0, .ref b)]) dL_law_15 rfl rfl (by decide) rfl ?_
    refine e_iconst C (v := (0 : Int32)) (q := 17) dL_law_16 rfl (by decide) ?_
    refine e_istore_n C (i := 3) (q := 18) (lv' := [(3, .int 0), (2, .ref a'), (1, .ref a), (0, .ref b)]) dL_law_17 rfl rfl (by decide) rfl ?_
    intro H locs ls hP hD hS hl
    have hP : va_P D vwCl (mk_X7 cy a u ++ mk_X8 cy a' v) H := hP
    have hD : va_D (fun q : Nat => s.heap.size ≤ q) (mk_X7 cy a u ++ mk_X8 cy a' v) := hD
    obtain ⟨G, hG⟩ : ∃ G : GX, G = (D, adr a a' u v, cy, fun i => if i = 0 then s0 else if i = 1 then s1 else if i = 2 then s2 else if i = 3 then s3 else if i = 4 then s4 else if i = 5 then adK 0 else if i = 6 then adK 1 else adV (i - 7)) := ⟨_, rfl⟩
    have hP2 := cw_start (sa := G.2.2.2) hP
    obtain ⟨hD2, hAd⟩ := cw_startD (D := D) (sa := G.2.2.2) (S := (t00, u00)) hD
    have eG : (D, adr a a' u v, cy, G.2.2.2) = G := by rw [hG]
    rw [eG] at hP2 hD2
    have hAf : ∀ q, Af G q → s.heap.size ≤ q := by
      rintro q ⟨k, hk, rfl⟩
      rw [hG]
      exact hAd k hk
    have hS2 : va_S (Af G) s.heap H [] := ⟨hS.1, fun q h1 _ => hS.2.1 q h1 (hA0 q h1), fun l h => by cases h⟩
    have nar : ∀ q, Af G q → (fun q : Nat => s.heap.size ≤ q) q := hAf
    have hvS2 : vk_S 2 txl txb (fun i => G.2.2.2 (5 + i)) (fun i => G.2.2.2 (7 + i)) (fun q : Nat => s.heap.size ≤ q) s s.heap := by
      rw [hG]
      refine ⟨fun i hi => ?_, fun i j hi hj h => ?_⟩
      · rcases (show i = 0 ∨ i = 1 by omega) with rfl | rfl
        · exact hvS.1 0 hi
        · exact hvS.1 1 hi
      · rcases (show i = 0 ∨ i = 1 by omega) with rfl | rfl <;> rcases (show j = 0 ∨ j = 1 by omega) with rfl | rfl
        · rfl
        · exact hvS.2 0 1 hi hj h
        · exact hvS.2 1 0 hi hj h
        · rfl
    have hSt : Stt G s s.heap := by
      refine ⟨?_, ?_, ?_, ?_, ?_, zC.narrow nar, hvS2.narrow nar, ?_, ?_⟩
      · rw [hG] at nar ⊢; exact ⟨z0.narrow nar, T0.narrow nar⟩
      · rw [hG] at nar ⊢; exact ⟨z1.narrow nar, T1.narrow nar⟩
      · rw [hG] at nar ⊢; exact ⟨z2.narrow nar, T2.narrow nar⟩
      · rw [hG] at nar ⊢; exact ⟨z3.narrow nar, T3.narrow nar⟩
      · rw [hG] at nar ⊢; exact ⟨z4.narrow nar, T4.narrow nar⟩
      · rw [hG]; exact r0
      · rw [hG]; exact r1
    have hK2 : va_K G.1 vwCl (tysG G) s := by rw [hG]; exact hK
    have C2 : Cx (p, l, e, room_1, s, m, #[Value.ref b], below, meth, c, 58, 4290) G cL_law 4 RL := ⟨hx, hb, hml, hown, hwG, hlocks, hK2, hSt⟩
    have hR : Rm (p, l, e, room_1, s, m, #[Value.ref b], below, meth, c, 58, 4290) 34 := ⟨Nat.le_of_ble_eq_true rfl, Nat.le_of_ble_eq_true rfl, Nat.le_of_ble_eq_true rfl, Nat.le_of_ble_eq_true rfl⟩
    have hSc : ScrOk (p, l, e, room_1, s, m, #[Value.ref b], below, meth, c, 58, 4290) G b L xs := ⟨hX, hbl, fun h => Nat.lt_irrefl _ (Nat.lt_of_lt_of_le hbl (hAf b h))⟩
    have hE : ∀ S : SX, At (p, l, e, room_1, s, m, #[Value.ref b], below, meth, c, 58, 4290) G (lw_Z below #[Value.ref b] s) 4 1010 [] [] S := by
      intro S
      refine a_iconst C2 (v := (1 : Int32)) (q := 1011) dL_law_1010 rfl (by decide) ?_
      intro H locs ls hP hD hS hl
      refine va_forget (fun q hq => hAf _ (hS.2.2 q hq)) ?_
      refine W.widen (k := 600000) (n := 7302250) (Nat.le_of_ble_eq_true rfl) (Nat.le_of_ble_eq_true rfl) ?_
      exact lw_ret hx hb hr hlocks dL_law_1011
    obtain ⟨n, x, hn⟩ := hpure L xs hL
    have hlaw := lp_law (b := b) C2 hR hSc hE n 0 t00 u00 x hn
    refine va_forget (fun q hq => hS.2.2 q hq) ?_
    have ea : G.2.1 0 = a := by rw [hG]; rfl
    have ea' : G.2.1 39 = a' := by rw [hG]; rfl
    have hl2 : lv_has ls 4 [(0, .ref b), (1, .ref (G.2.1 0)), (2, .ref (G.2.1 39)), (3, .int 0)] := by
      rw [ea, ea']
      exact lv_sub hl [3, 2, 1, 0] rfl
    have e1 : G.1 = D := by rw [hG]
    rw [← e1] at hP2
    exact hlaw H [] ls hP2 hD2 hS2 hl2
  exact K s.heap [] ls hP hD va_S.rf hl
