/-! pure rows: numbers, bits, loops -/
def iI (zz : Int) : Int32 := Int32.ofInt zz
def lI (zz : Int) : Int64 := Int64.ofInt zz
theorem iI_nat (ii : Nat) : iI (ii : Int) = nI ii := Int32.ofInt_eq_ofNat
theorem iI_add (aa bb : Int) : iI aa + iI bb = iI (aa + bb) := (Int32.ofInt_add aa bb).symm
theorem iI_sub (aa bb : Int) : iI aa - iI bb = iI (aa - bb) := (Int32.ofInt_sub aa bb).symm
theorem iI_mul (aa bb : Int) : iI aa * iI bb = iI (aa * bb) := (Int32.ofInt_mul aa bb).symm
theorem iI_neg (aa : Int) : -iI aa = iI (-aa) := (Int32.ofInt_neg aa).symm
theorem lI_add (aa bb : Int) : lI aa + lI bb = lI (aa + bb) := (Int64.ofInt_add aa bb).symm
theorem lI_sub (aa bb : Int) : lI aa - lI bb = lI (aa - bb) := (Int64.ofInt_sub aa bb).symm
theorem lI_mul (aa bb : Int) : lI aa * lI bb = lI (aa * bb) := (Int64.ofInt_mul aa bb).symm
theorem lit32 (kk : Nat) : (OfNat.ofNat kk : Int32) = nI kk := rfl
theorem wid {zz : Int} (h1 : -2000000000 ≤ zz) (h2 : zz ≤ 2000000000) : (iI zz).toInt64 = lI zz := by
  unfold iI lI
  refine Int32.toInt64_ofInt ?_ ?_
  · rw [show Int32.minValue.toInt = -2147483648 by decide]; omega
  · rw [show Int32.maxValue.toInt = 2147483647 by decide]; omega
theorem iI_toInt {zz : Int} (h1 : -2000000000 ≤ zz) (h2 : zz ≤ 2000000000) : (iI zz).toInt = zz := Int32.toInt_ofInt_of_le (by omega) (by omega)
theorem lI_toInt {zz : Int} (h1 : -4611686018427387904 ≤ zz) (h2 : zz ≤ 4611686018427387904) : (lI zz).toInt = zz := Int64.toInt_ofInt_of_le (by omega) (by omega)
theorem nI_wid {kk : Nat} (h : kk < 2 ^ 31) : (nI kk).toInt64 = lI (kk : Int) := by
  apply Int64.toInt_inj.mp
  rw [Int32.toInt_toInt64, nI_toInt h, lI_toInt (by omega) (by omega)]
theorem lI_32 {zz : Int} : (lI zz).toInt32 = iI zz := by
  unfold lI iI
  apply Int32.toInt_inj.mp
  simp
def rg (zz : Int) : Prop := -4611686018427387904 ≤ zz ∧ zz ≤ 4611686018427387904
theorem lg_val {aa bb : Int} (h1 : rg aa) (h2 : rg bb) : lg_cmp (lI aa) (lI bb) = if bb < aa then 1 else if aa = bb then 0 else -1 := by
  have e1 : (lI aa).toInt = aa := lI_toInt h1.1 h1.2
  have e2 : (lI bb).toInt = bb := lI_toInt h2.1 h2.2
  unfold lg_cmp
  have q1 : (lI aa > lI bb) ↔ bb < aa := by
    show lI bb < lI aa ↔ _
    rw [Int64.lt_iff_toInt_lt, e1, e2]
  have q2 : (lI aa = lI bb) ↔ aa = bb := by rw [← Int64.toInt_inj, e1, e2]
  simp only [q1, q2]
theorem lg_lt {aa bb : Int} (h1 : rg aa) (h2 : rg bb) : lg_cmp (lI aa) (lI bb) < 0 ↔ aa < bb := by
  rw [lg_val h1 h2]
  rcases Int.lt_trichotomy aa bb with h | h | h
  · rw [if_neg (by omega), if_neg (by omega)]
    exact ⟨fun _ => h, fun _ => by decide⟩
  · rw [if_neg (by omega), if_pos h]
    exact ⟨fun z => absurd z (by decide), fun z => by omega⟩
  · rw [if_pos h]
    exact ⟨fun z => absurd z (by decide), fun z => by omega⟩
theorem lg_le {aa bb : Int} (h1 : rg aa) (h2 : rg bb) : lg_cmp (lI aa) (lI bb) ≤ 0 ↔ aa ≤ bb := by
  rw [lg_val h1 h2]
  rcases Int.lt_trichotomy aa bb with h | h | h
  · rw [if_neg (by omega), if_neg (by omega)]
    exact ⟨fun _ => by omega, fun _ => by decide⟩
  · rw [if_neg (by omega), if_pos h]
    exact ⟨fun z => by omega, fun z => by decide⟩
  · rw [if_pos h]
    exact ⟨fun z => absurd z (by decide), fun z => by omega⟩
theorem lg_gt {aa bb : Int} (h1 : rg aa) (h2 : rg bb) : 0 < lg_cmp (lI aa) (lI bb) ↔ bb < aa := by
  rw [lg_val h1 h2]
  rcases Int.lt_trichotomy aa bb with h | h | h
  · rw [if_neg (by omega), if_neg (by omega)]
    exact ⟨fun z => absurd z (by decide), fun z => by omega⟩
  · rw [if_neg (by omega), if_pos h]
    exact ⟨fun z => absurd z (by decide), fun z => by omega⟩
  · rw [if_pos h]
    exact ⟨fun _ => h, fun _ => by decide⟩
theorem ix_nI {B : Type} {ii nn : Nat} {aa : Option B} (h1 : ii < nn) (h2 : nn < 2 ^ 31) : ix (nI ii) nn aa = aa := by
  unfold ix
  rw [if_neg]
  have h3 := nI_in h1 h2
  exact h3
theorem nm_eq {A B : Type} (ee : A) (ff : A → Option B) : nm ee ff = ff ee := rfl
theorem b1_eq {A B : Type} (aa : A) (kk : A → Option B) : b1 (some aa) kk = kk aa := rfl
theorem b2_eq {A1 A2 B : Type} (a1 : A1) (a2 : A2) (kk : A1 → A2 → Option B) : b2 (some (a1, a2)) kk = kk a1 a2 := rfl
theorem b3_eq {A1 A2 A3 B : Type} (a1 : A1) (a2 : A2) (a3 : A3) (kk : A1 → A2 → A3 → Option B) : b3 (some (a1, a2, a3)) kk = kk a1 a2 a3 := rfl
theorem b4_eq {A1 A2 A3 A4 B : Type} (a1 : A1) (a2 : A2) (a3 : A3) (a4 : A4) (kk : A1 → A2 → A3 → A4 → Option B) : b4 (some (a1, a2, a3, a4)) kk = kk a1 a2 a3 a4 := rfl
theorem bR_r {Y T B : Type} (yy : Y) (rr : Y → Option B) (kk : T → Option B) : bR (some (.inl yy)) rr kk = rr yy := rfl
theorem bR_k {Y T B : Type} (xx : T) (rr : Y → Option B) (kk : T → Option B) : bR (some (.inr xx)) rr kk = kk xx := rfl
theorem bz_01 {B : Type} {bb : Bool} {aa : Option B} : bz (if bb then 1 else 0) aa = aa := by
  cases bb <;> rfl
theorem bz_0 {B : Type} {aa : Option B} : bz 0 aa = aa := rfl
theorem bz_1 {B : Type} {aa : Option B} : bz 1 aa = aa := rfl
theorem st1_stA (tt : MM) (kk jj : Nat) (gg : Nat → Int32) (vv : Int32) : st1 (stA tt kk gg) kk jj vv = stA tt kk (upd gg jj vv) := by
  funext aa
  by_cases h : aa = kk <;> simp [st1, stA, h]
theorem stA_same (tt : MM) (kk : Nat) (gg : Nat → Int32) : stA tt kk gg kk = gg := by simp [stA]
theorem stA_ne (tt : MM) {kk jj : Nat} (gg : Nat → Int32) (h : jj ≠ kk) : stA tt kk gg jj = tt jj := by simp [stA, h]
theorem stA_stA (tt : MM) (kk : Nat) (gg hh : Nat → Int32) : stA (stA tt kk gg) kk hh = stA tt kk hh := by
  funext aa
  by_cases h : aa = kk <;> simp [stA, h]
theorem stA_self (tt : MM) (kk : Nat) : stA tt kk (tt kk) = tt := by
  funext aa
  by_cases h : aa = kk
  · subst h; simp [stA]
  · simp [stA, h]
theorem st1_stA' (tt : MM) (kk jj : Nat) (vv : Int32) : st1 tt kk jj vv = stA tt kk (upd (tt kk) jj vv) := rfl
theorem s_l : ∀ kk, kk < 32 → ((nI kk &&& 31).toBitVec.smod 32).toNat = kk := by decide +kernel
theorem bit_sh {ii : Nat} (h : ii < 31) : (1 : Int32) <<< (nI ii &&& 31) = nI (2 ^ ii) := by
  have h1 : (2 : Nat) ^ ii < 2 ^ 32 := Nat.pow_lt_pow_right (by decide) (by omega)
  have h2 := pk_shlN (n := 1) (nI ii &&& 31) ii (s_l ii (by omega)) (by rw [Nat.one_mul]; exact h1)
  rw [Nat.one_mul] at h2
  exact h2
theorem bit_at {mm ii : Nat} (hm : mm < 2 ^ 31) (h : ii < 31) : (nI mm >>> (nI ii &&& 31)) &&& (1 : Int32) = if mm.testBit ii then 1 else 0 := by
  rw [pk_shrN hm _ ii (s_l ii (by omega)), pk_andN (m := 1) (by have := Nat.div_le_self mm (2 ^ ii); omega) 1 (by decide)]
  rw [Nat.testBit_eq_decide_div_mod_eq]
  have h2 := Nat.mod_two_eq_zero_or_one (mm / 2 ^ ii)
  rcases h2 with h2 | h2
  · rw [show (2:Nat) ^ 1 = 2 from rfl, h2]; rfl
  · rw [show (2:Nat) ^ 1 = 2 from rfl, h2]; rfl
theorem bit_z {mm ii : Nat} (hm : mm < 2 ^ 31) (h : ii < 31) : ((nI mm >>> (nI ii &&& 31)) &&& (1 : Int32) = 0) ↔ mm.testBit ii = false := by
  rw [bit_at hm h]
  cases mm.testBit ii <;> simp
theorem bit_1 {mm ii : Nat} (hm : mm < 2 ^ 31) (h : ii < 31) : ((nI mm >>> (nI ii &&& 31)) &&& (1 : Int32) = (1 : Int32)) ↔ mm.testBit ii = true := by
  rw [bit_at hm h]
  cases mm.testBit ii <;> simp
theorem it1_inv {A1 X : Type} {bb : A1 → Option (X ⊕ (A1))} (II : Nat → A1 → Prop) (ee : Nat) (PX : X → Prop) (hstep : ∀ ii a1, ii ≤ ee → II ii a1 → (ii < ee ∧ ∃ c1, bb a1 = some (.inr (c1)) ∧ II (ii + 1) c1) ∨ (∃ xx, bb a1 = some (.inl xx) ∧ PX xx)) : ∀ nn a1, ee < nn → II 0 a1 → ∃ xx, it1 bb nn a1 = some xx ∧ PX xx := by
  have key : ∀ (mm ii : Nat) a1, ii + mm = ee → II ii a1 → ∀ nn, mm < nn → ∃ xx, it1 bb nn a1 = some xx ∧ PX xx := by
    intro mm
    induction mm with
    | zero =>
      intro ii a1 h1 h2 nn h3
      cases nn with
      | zero => omega
      | succ nn =>
        rcases hstep ii a1 (by omega) h2 with ⟨h4, _⟩ | ⟨xx, h4, h5⟩
        · omega
        · exact ⟨xx, by simp [it1, h4], h5⟩
    | succ mm ih2 =>
      intro ii a1 h1 h2 nn h3
      cases nn with
      | zero => omega
      | succ nn =>
        rcases hstep ii a1 (by omega) h2 with ⟨h4, c1, h5, h6⟩ | ⟨xx, h4, h5⟩
        · obtain ⟨xx, h7, h8⟩ := ih2 (ii + 1) c1 (by omega) h6 nn (by omega)
          exact ⟨xx, by simp [it1, h5, h7], h8⟩
        · exact ⟨xx, by simp [it1, h4], h5⟩
  intro nn a1 h1 h2
  exact key ee 0 a1 (by omega) h2 nn h1
theorem it2_inv {A1 A2 X : Type} {bb : A1 → A2 → Option (X ⊕ (A1 × A2))} (II : Nat → A1 → A2 → Prop) (ee : Nat) (PX : X → Prop) (hstep : ∀ ii a1 a2, ii ≤ ee → II ii a1 a2 → (ii < ee ∧ ∃ c1 c2, bb a1 a2 = some (.inr (c1, c2)) ∧ II (ii + 1) c1 c2) ∨ (∃ xx, bb a1 a2 = some (.inl xx) ∧ PX xx)) : ∀ nn a1 a2, ee < nn → II 0 a1 a2 → ∃ xx, it2 bb nn a1 a2 = some xx ∧ PX xx := by
  have key : ∀ (mm ii : Nat) a1 a2, ii + mm = ee → II ii a1 a2 → ∀ nn, mm < nn → ∃ xx, it2 bb nn a1 a2 = some xx ∧ PX xx := by
    intro mm
    induction mm with
    | zero =>
      intro ii a1 a2 h1 h2 nn h3
      cases nn with
      | zero => omega
      | succ nn =>
        rcases hstep ii a1 a2 (by omega) h2 with ⟨h4, _⟩ | ⟨xx, h4, h5⟩
        · omega
        · exact ⟨xx, by simp [it2, h4], h5⟩
    | succ mm ih2 =>
      intro ii a1 a2 h1 h2 nn h3
      cases nn with
      | zero => omega
      | succ nn =>
        rcases hstep ii a1 a2 (by omega) h2 with ⟨h4, c1, c2, h5, h6⟩ | ⟨xx, h4, h5⟩
        · obtain ⟨xx, h7, h8⟩ := ih2 (ii + 1) c1 c2 (by omega) h6 nn (by omega)
          exact ⟨xx, by simp [it2, h5, h7], h8⟩
        · exact ⟨xx, by simp [it2, h4], h5⟩
  intro nn a1 a2 h1 h2
  exact key ee 0 a1 a2 (by omega) h2 nn h1
theorem it3_inv {A1 A2 A3 X : Type} {bb : A1 → A2 → A3 → Option (X ⊕ (A1 × A2 × A3))} (II : Nat → A1 → A2 → A3 → Prop) (ee : Nat) (PX : X → Prop) (hstep : ∀ ii a1 a2 a3, ii ≤ ee → II ii a1 a2 a3 → (ii < ee ∧ ∃ c1 c2 c3, bb a1 a2 a3 = some (.inr (c1, c2, c3)) ∧ II (ii + 1) c1 c2 c3) ∨ (∃ xx, bb a1 a2 a3 = some (.inl xx) ∧ PX xx)) : ∀ nn a1 a2 a3, ee < nn → II 0 a1 a2 a3 → ∃ xx, it3 bb nn a1 a2 a3 = some xx ∧ PX xx := by
  have key : ∀ (mm ii : Nat) a1 a2 a3, ii + mm = ee → II ii a1 a2 a3 → ∀ nn, mm < nn → ∃ xx, it3 bb nn a1 a2 a3 = some xx ∧ PX xx := by
    intro mm
    induction mm with
    | zero =>
      intro ii a1 a2 a3 h1 h2 nn h3
      cases nn with
      | zero => omega
      | succ nn =>
        rcases hstep ii a1 a2 a3 (by omega) h2 with ⟨h4, _⟩ | ⟨xx, h4, h5⟩
        · omega
        · exact ⟨xx, by simp [it3, h4], h5⟩
    | succ mm ih2 =>
      intro ii a1 a2 a3 h1 h2 nn h3
      cases nn with
      | zero => omega
      | succ nn =>
        rcases hstep ii a1 a2 a3 (by omega) h2 with ⟨h4, c1, c2, c3, h5, h6⟩ | ⟨xx, h4, h5⟩
        · obtain ⟨xx, h7, h8⟩ := ih2 (ii + 1) c1 c2 c3 (by omega) h6 nn (by omega)
          exact ⟨xx, by simp [it3, h5, h7], h8⟩
        · exact ⟨xx, by simp [it3, h4], h5⟩
  intro nn a1 a2 a3 h1 h2
  exact key ee 0 a1 a2 a3 (by omega) h2 nn h1
theorem it4_inv {A1 A2 A3 A4 X : Type} {bb : A1 → A2 → A3 → A4 → Option (X ⊕ (A1 × A2 × A3 × A4))} (II : Nat → A1 → A2 → A3 → A4 → Prop) (ee : Nat) (PX : X → Prop) (hstep : ∀ ii a1 a2 a3 a4, ii ≤ ee → II ii a1 a2 a3 a4 → (ii < ee ∧ ∃ c1 c2 c3 c4, bb a1 a2 a3 a4 = some (.inr (c1, c2, c3, c4)) ∧ II (ii + 1) c1 c2 c3 c4) ∨ (∃ xx, bb a1 a2 a3 a4 = some (.inl xx) ∧ PX xx)) : ∀ nn a1 a2 a3 a4, ee < nn → II 0 a1 a2 a3 a4 → ∃ xx, it4 bb nn a1 a2 a3 a4 = some xx ∧ PX xx := by
  have key : ∀ (mm ii : Nat) a1 a2 a3 a4, ii + mm = ee → II ii a1 a2 a3 a4 → ∀ nn, mm < nn → ∃ xx, it4 bb nn a1 a2 a3 a4 = some xx ∧ PX xx := by
    intro mm
    induction mm with
    | zero =>
      intro ii a1 a2 a3 a4 h1 h2 nn h3
      cases nn with
      | zero => omega
      | succ nn =>
        rcases hstep ii a1 a2 a3 a4 (by omega) h2 with ⟨h4, _⟩ | ⟨xx, h4, h5⟩
        · omega
        · exact ⟨xx, by simp [it4, h4], h5⟩
    | succ mm ih2 =>
      intro ii a1 a2 a3 a4 h1 h2 nn h3
      cases nn with
      | zero => omega
      | succ nn =>
        rcases hstep ii a1 a2 a3 a4 (by omega) h2 with ⟨h4, c1, c2, c3, c4, h5, h6⟩ | ⟨xx, h4, h5⟩
        · obtain ⟨xx, h7, h8⟩ := ih2 (ii + 1) c1 c2 c3 c4 (by omega) h6 nn (by omega)
          exact ⟨xx, by simp [it4, h5, h7], h8⟩
        · exact ⟨xx, by simp [it4, h4], h5⟩
  intro nn a1 a2 a3 a4 h1 h2
  exact key ee 0 a1 a2 a3 a4 (by omega) h2 nn h1
theorem it5_inv {A1 A2 A3 A4 A5 X : Type} {bb : A1 → A2 → A3 → A4 → A5 → Option (X ⊕ (A1 × A2 × A3 × A4 × A5))} (II : Nat → A1 → A2 → A3 → A4 → A5 → Prop) (ee : Nat) (PX : X → Prop) (hstep : ∀ ii a1 a2 a3 a4 a5, ii ≤ ee → II ii a1 a2 a3 a4 a5 → (ii < ee ∧ ∃ c1 c2 c3 c4 c5, bb a1 a2 a3 a4 a5 = some (.inr (c1, c2, c3, c4, c5)) ∧ II (ii + 1) c1 c2 c3 c4 c5) ∨ (∃ xx, bb a1 a2 a3 a4 a5 = some (.inl xx) ∧ PX xx)) : ∀ nn a1 a2 a3 a4 a5, ee < nn → II 0 a1 a2 a3 a4 a5 → ∃ xx, it5 bb nn a1 a2 a3 a4 a5 = some xx ∧ PX xx := by
  have key : ∀ (mm ii : Nat) a1 a2 a3 a4 a5, ii + mm = ee → II ii a1 a2 a3 a4 a5 → ∀ nn, mm < nn → ∃ xx, it5 bb nn a1 a2 a3 a4 a5 = some xx ∧ PX xx := by
    intro mm
    induction mm with
    | zero =>
      intro ii a1 a2 a3 a4 a5 h1 h2 nn h3
      cases nn with
      | zero => omega
      | succ nn =>
        rcases hstep ii a1 a2 a3 a4 a5 (by omega) h2 with ⟨h4, _⟩ | ⟨xx, h4, h5⟩
        · omega
        · exact ⟨xx, by simp [it5, h4], h5⟩
    | succ mm ih2 =>
      intro ii a1 a2 a3 a4 a5 h1 h2 nn h3
      cases nn with
      | zero => omega
      | succ nn =>
        rcases hstep ii a1 a2 a3 a4 a5 (by omega) h2 with ⟨h4, c1, c2, c3, c4, c5, h5, h6⟩ | ⟨xx, h4, h5⟩
        · obtain ⟨xx, h7, h8⟩ := ih2 (ii + 1) c1 c2 c3 c4 c5 (by omega) h6 nn (by omega)
          exact ⟨xx, by simp [it5, h5, h7], h8⟩
        · exact ⟨xx, by simp [it5, h4], h5⟩
  intro nn a1 a2 a3 a4 a5 h1 h2
  exact key ee 0 a1 a2 a3 a4 a5 (by omega) h2 nn h1
theorem it6_inv {A1 A2 A3 A4 A5 A6 X : Type} {bb : A1 → A2 → A3 → A4 → A5 → A6 → Option (X ⊕ (A1 × A2 × A3 × A4 × A5 × A6))} (II : Nat → A1 → A2 → A3 → A4 → A5 → A6 → Prop) (ee : Nat) (PX : X → Prop) (hstep : ∀ ii a1 a2 a3 a4 a5 a6, ii ≤ ee → II ii a1 a2 a3 a4 a5 a6 → (ii < ee ∧ ∃ c1 c2 c3 c4 c5 c6, bb a1 a2 a3 a4 a5 a6 = some (.inr (c1, c2, c3, c4, c5, c6)) ∧ II (ii + 1) c1 c2 c3 c4 c5 c6) ∨ (∃ xx, bb a1 a2 a3 a4 a5 a6 = some (.inl xx) ∧ PX xx)) : ∀ nn a1 a2 a3 a4 a5 a6, ee < nn → II 0 a1 a2 a3 a4 a5 a6 → ∃ xx, it6 bb nn a1 a2 a3 a4 a5 a6 = some xx ∧ PX xx := by
  have key : ∀ (mm ii : Nat) a1 a2 a3 a4 a5 a6, ii + mm = ee → II ii a1 a2 a3 a4 a5 a6 → ∀ nn, mm < nn → ∃ xx, it6 bb nn a1 a2 a3 a4 a5 a6 = some xx ∧ PX xx := by
    intro mm
    induction mm with
    | zero =>
      intro ii a1 a2 a3 a4 a5 a6 h1 h2 nn h3
      cases nn with
      | zero => omega
      | succ nn =>
        rcases hstep ii a1 a2 a3 a4 a5 a6 (by omega) h2 with ⟨h4, _⟩ | ⟨xx, h4, h5⟩
        · omega
        · exact ⟨xx, by simp [it6, h4], h5⟩
    | succ mm ih2 =>
      intro ii a1 a2 a3 a4 a5 a6 h1 h2 nn h3
      cases nn with
      | zero => omega
      | succ nn =>
        rcases hstep ii a1 a2 a3 a4 a5 a6 (by omega) h2 with ⟨h4, c1, c2, c3, c4, c5, c6, h5, h6⟩ | ⟨xx, h4, h5⟩
        · obtain ⟨xx, h7, h8⟩ := ih2 (ii + 1) c1 c2 c3 c4 c5 c6 (by omega) h6 nn (by omega)
          exact ⟨xx, by simp [it6, h5, h7], h8⟩
        · exact ⟨xx, by simp [it6, h4], h5⟩
  intro nn a1 a2 a3 a4 a5 a6 h1 h2
  exact key ee 0 a1 a2 a3 a4 a5 a6 (by omega) h2 nn h1
theorem it7_inv {A1 A2 A3 A4 A5 A6 A7 X : Type} {bb : A1 → A2 → A3 → A4 → A5 → A6 → A7 → Option (X ⊕ (A1 × A2 × A3 × A4 × A5 × A6 × A7))} (II : Nat → A1 → A2 → A3 → A4 → A5 → A6 → A7 → Prop) (ee : Nat) (PX : X → Prop) (hstep : ∀ ii a1 a2 a3 a4 a5 a6 a7, ii ≤ ee → II ii a1 a2 a3 a4 a5 a6 a7 → (ii < ee ∧ ∃ c1 c2 c3 c4 c5 c6 c7, bb a1 a2 a3 a4 a5 a6 a7 = some (.inr (c1, c2, c3, c4, c5, c6, c7)) ∧ II (ii + 1) c1 c2 c3 c4 c5 c6 c7) ∨ (∃ xx, bb a1 a2 a3 a4 a5 a6 a7 = some (.inl xx) ∧ PX xx)) : ∀ nn a1 a2 a3 a4 a5 a6 a7, ee < nn → II 0 a1 a2 a3 a4 a5 a6 a7 → ∃ xx, it7 bb nn a1 a2 a3 a4 a5 a6 a7 = some xx ∧ PX xx := by
  have key : ∀ (mm ii : Nat) a1 a2 a3 a4 a5 a6 a7, ii + mm = ee → II ii a1 a2 a3 a4 a5 a6 a7 → ∀ nn, mm < nn → ∃ xx, it7 bb nn a1 a2 a3 a4 a5 a6 a7 = some xx ∧ PX xx := by
    intro mm
    induction mm with
    | zero =>
      intro ii a1 a2 a3 a4 a5 a6 a7 h1 h2 nn h3
      cases nn with
      | zero => omega
      | succ nn =>
        rcases hstep ii a1 a2 a3 a4 a5 a6 a7 (by omega) h2 with ⟨h4, _⟩ | ⟨xx, h4, h5⟩
        · omega
        · exact ⟨xx, by simp [it7, h4], h5⟩
    | succ mm ih2 =>
      intro ii a1 a2 a3 a4 a5 a6 a7 h1 h2 nn h3
      cases nn with
      | zero => omega
      | succ nn =>
        rcases hstep ii a1 a2 a3 a4 a5 a6 a7 (by omega) h2 with ⟨h4, c1, c2, c3, c4, c5, c6, c7, h5, h6⟩ | ⟨xx, h4, h5⟩
        · obtain ⟨xx, h7, h8⟩ := ih2 (ii + 1) c1 c2 c3 c4 c5 c6 c7 (by omega) h6 nn (by omega)
          exact ⟨xx, by simp [it7, h5, h7], h8⟩
        · exact ⟨xx, by simp [it7, h4], h5⟩
  intro nn a1 a2 a3 a4 a5 a6 a7 h1 h2
  exact key ee 0 a1 a2 a3 a4 a5 a6 a7 (by omega) h2 nn h1
/-! sums over the cars -/
def csum (ff : Nat → Int) : Nat → Int
  | 0 => 0
  | kk + 1 => csum ff kk + ff kk
def tabI (ii jj : Nat) : Int := (([[], [2, 0, 1, 0, -1, 0, -2, 0, -1, 0, 1, 0], [0, 1, 0, 0, 0, -1, 0, -1, 0, 0, 0, 1], [0, 1, 0, 2, 0, 1, 0, -1, 0, -2, 0, -1], [0, 0, 1, 0, 1, 0, 0, 0, -1, 0, -1, 0]] : List (List Int)).getD ii []).getD jj 0
theorem tab_ok : ∀ ii, ii < 4 → ∀ jj, jj < 12 → tabv (ii + 1) jj = Int32.ofInt (tabI (ii + 1) jj) := by decide +kernel
theorem tab_bd : ∀ ii, ii < 4 → ∀ jj, jj < 12 → -2 ≤ tabI (ii + 1) jj ∧ tabI (ii + 1) jj ≤ 2 := by decide +kernel
def carS (ld : Nat → Int) (ii : Nat) : Int := csum (fun cc => ld cc * tabI (ii + 1) cc) 12
def addL (ld : Nat → Int) (cc : Nat) (xx : Int) : Nat → Int := fun jj => if jj = cc then ld jj + xx else ld jj
theorem csum_cong {ff gg : Nat → Int} : ∀ kk, (∀ jj, jj < kk → ff jj = gg jj) → csum ff kk = csum gg kk
  | 0, _ => rfl
  | kk + 1, h => by rw [csum, csum, csum_cong kk (fun jj hj => h jj (by omega)), h kk (by omega)]
theorem csum_addL (ld : Nat → Int) (ff : Nat → Int) (cc : Nat) (xx : Int) : ∀ kk, csum (fun jj => addL ld cc xx jj * ff jj) kk = csum (fun jj => ld jj * ff jj) kk + (if cc < kk then xx * ff cc else 0)
  | 0 => by simp [csum]
  | kk + 1 => by
    rw [csum, csum, csum_addL ld ff cc xx kk]
    by_cases h1 : kk = cc
    · subst h1
      rw [if_neg (Nat.lt_irrefl kk), if_pos (Nat.lt_succ_self kk)]
      have h3 : addL ld kk xx kk = ld kk + xx := by simp [addL]
      rw [h3, Int.add_mul]
      omega
    · by_cases h2 : cc < kk
      · rw [if_pos h2, if_pos (by omega)]
        simp only [addL, if_neg h1]
        omega
      · rw [if_neg h2, if_neg (by omega)]
        simp only [addL, if_neg h1]
        omega
theorem carS_add {ld : Nat → Int} {cc ii : Nat} {xx : Int} (h : cc < 12) : carS (addL ld cc xx) ii = carS ld ii + xx * tabI (ii + 1) cc := by
  unfold carS
  rw [csum_addL, if_pos h]
theorem carS_cong {ld le : Nat → Int} (h : ∀ cc, cc < 12 → ld cc = le cc) (ii : Nat) : carS ld ii = carS le ii := csum_cong 12 (fun jj hj => by rw [h jj hj])
theorem csum_bd {ff : Nat → Int} {mm : Int} (h0 : 0 ≤ mm) : ∀ kk, (∀ jj, jj < kk → -mm ≤ ff jj ∧ ff jj ≤ mm) → -(kk * mm) ≤ csum ff kk ∧ csum ff kk ≤ kk * mm
  | 0, _ => by simp [csum]
  | kk + 1, h => by
    have h1 := csum_bd h0 kk (fun jj hj => h jj (by omega))
    have h2 := h kk (by omega)
    rw [csum]
    have h3 : ((kk + 1 : Nat) : Int) * mm = kk * mm + mm := by rw [Int.natCast_add, Int.add_mul]; simp
    rw [h3]
    omega
def ldOk (ld : Nat → Int) : Prop := (∀ cc, cc < 12 → 0 ≤ ld cc) ∧ csum ld 12 ≤ 2400
theorem carS_half {ld : Nat → Int} {ii : Nat} (hi : ii < 4) : ∀ kk, kk ≤ 12 → (∀ cc, cc < kk → 0 ≤ ld cc) → -(2 * csum ld kk) ≤ csum (fun cc => ld cc * tabI (ii + 1) cc) kk ∧ csum (fun cc => ld cc * tabI (ii + 1) cc) kk ≤ 2 * csum ld kk
  | 0, _, _ => by simp [csum]
  | kk + 1, hk, h => by
    have h1 := carS_half hi kk (by omega) (fun cc hc => h cc (by omega))
    have h2 := h kk (by omega)
    have h3 := tab_bd ii hi kk (by omega)
    rw [csum, csum]
    rcases (show tabI (ii + 1) kk = -2 ∨ tabI (ii + 1) kk = -1 ∨ tabI (ii + 1) kk = 0 ∨ tabI (ii + 1) kk = 1 ∨ tabI (ii + 1) kk = 2 by omega) with h4 | h4 | h4 | h4 | h4 <;> rw [h4] <;> omega
theorem carS_bd {ld : Nat → Int} (h : ldOk ld) {ii : Nat} (hi : ii < 4) : -4800 ≤ carS ld ii ∧ carS ld ii ≤ 4800 := by
  have h1 := carS_half (ld := ld) hi 12 (Nat.le_refl _) h.1
  have h2 := h.2
  unfold carS
  omega
theorem sq_bd {aa mm : Int} (h1 : -mm ≤ aa) (h2 : aa ≤ mm) : 0 ≤ aa * aa ∧ aa * aa ≤ mm * mm := by
  have h3 : 0 ≤ (mm - aa) * (mm + aa) := Int.mul_nonneg (by omega) (by omega)
  have h4 : (mm - aa) * (mm + aa) = mm * mm - aa * aa := by grind
  have h5 : 0 ≤ aa * aa := by
    rcases Int.le_total 0 aa with h | h
    · exact Int.mul_nonneg h h
    · have h6 := Int.mul_nonneg (show 0 ≤ -aa by omega) (show 0 ≤ -aa by omega)
      have h7 : -aa * -aa = aa * aa := by grind
      omega
  omega
theorem pr_bd {aa bb mm : Int} (h1 : -mm ≤ aa) (h2 : aa ≤ mm) (h3 : -mm ≤ bb) (h4 : bb ≤ mm) : -(mm * mm) ≤ aa * bb ∧ aa * bb ≤ mm * mm := by
  have e1 : 0 ≤ (mm - aa) * (mm + bb) := Int.mul_nonneg (by omega) (by omega)
  have e2 : 0 ≤ (mm + aa) * (mm - bb) := Int.mul_nonneg (by omega) (by omega)
  have e3 : 0 ≤ (mm - aa) * (mm - bb) := Int.mul_nonneg (by omega) (by omega)
  have e4 : 0 ≤ (mm + aa) * (mm + bb) := Int.mul_nonneg (by omega) (by omega)
  have f1 : (mm - aa) * (mm + bb) + (mm + aa) * (mm - bb) = 2 * (mm * mm) - 2 * (aa * bb) := by grind
  have f2 : (mm - aa) * (mm - bb) + (mm + aa) * (mm + bb) = 2 * (mm * mm) + 2 * (aa * bb) := by grind
  omega
def sqA (ld : Nat → Int) : Int := carS ld 0 * carS ld 0 + 3 * carS ld 1 * carS ld 1 + carS ld 2 * carS ld 2 + 3 * carS ld 3 * carS ld 3
def sqB (ld : Nat → Int) : Int := 2 * (carS ld 0 * carS ld 1 + carS ld 2 * carS ld 3)
theorem sqA_bd {ld : Nat → Int} (h : ldOk ld) : 0 ≤ sqA ld ∧ sqA ld ≤ 184320000 := by
  have a0 := carS_bd h (ii := 0) (by omega)
  have a1 := carS_bd h (ii := 1) (by omega)
  have a2 := carS_bd h (ii := 2) (by omega)
  have a3 := carS_bd h (ii := 3) (by omega)
  have c0 := sq_bd a0.1 a0.2
  have c1 := sq_bd a1.1 a1.2
  have c2 := sq_bd a2.1 a2.2
  have c3 := sq_bd a3.1 a3.2
  unfold sqA
  have g1 : 3 * carS ld 1 * carS ld 1 = 3 * (carS ld 1 * carS ld 1) := by grind
  have g3 : 3 * carS ld 3 * carS ld 3 = 3 * (carS ld 3 * carS ld 3) := by grind
  rw [g1, g3]
  omega
theorem sqB_bd {ld : Nat → Int} (h : ldOk ld) : -92160000 ≤ sqB ld ∧ sqB ld ≤ 92160000 := by
  have a0 := carS_bd h (ii := 0) (by omega)
  have a1 := carS_bd h (ii := 1) (by omega)
  have a2 := carS_bd h (ii := 2) (by omega)
  have a3 := carS_bd h (ii := 3) (by omega)
  have c0 := pr_bd a0.1 a0.2 a1.1 a1.2
  have c2 := pr_bd a2.1 a2.2 a3.1 a3.2
  unfold sqB
  omega
/-- aa and bb times the root of three are above 0 -/
def abv (aa bb : Int) : Prop := (0 ≤ aa ∧ 0 ≤ bb ∧ (0 < aa ∨ 0 < bb)) ∨ (0 < aa ∧ bb < 0 ∧ 3 * bb * bb < aa * aa) ∨ (aa < 0 ∧ 0 < bb ∧ aa * aa < 3 * bb * bb)
theorem abv_dec (aa bb : Int) : abv aa bb ∨ ¬ abv aa bb := Classical.em _
noncomputable def abvB (aa bb : Int) : Bool := Classical.propDecidable (abv aa bb) |>.decide
theorem abvB_t {aa bb : Int} : abvB aa bb = true ↔ abv aa bb := by
  unfold abvB
  exact @decide_eq_true_iff _ (Classical.propDecidable (abv aa bb))
theorem abvB_f {aa bb : Int} : abvB aa bb = false ↔ ¬ abv aa bb := by
  rw [← abvB_t]
  simp
theorem i64_0 : (0 : Int64) = lI 0 := by decide
theorem i64_1 : (1 : Int64) = lI 1 := by decide
theorem i64_2 : (2 : Int64) = lI 2 := by decide
theorem i64_3 : (3 : Int64) = lI 3 := by decide
theorem i64_4 : (4 : Int64) = lI 4 := by decide
def small (zz : Int) : Prop := -200000000 ≤ zz ∧ zz ≤ 200000000
theorem sq_facts {aa bb : Int} (h1 : small aa) (h2 : small bb) : rg aa ∧ rg bb ∧ rg (aa * aa) ∧ rg (3 * bb * bb) ∧ (aa = 0 → aa * aa = 0) ∧ (aa ≠ 0 → 0 < aa * aa) ∧ (bb = 0 → 3 * bb * bb = 0) ∧ (bb ≠ 0 → 0 < 3 * bb * bb) := by
  obtain ⟨u1, u2⟩ := h1
  obtain ⟨u3, u4⟩ := h2
  have c1 := sq_bd u1 u2
  have c2 := sq_bd u3 u4
  have g1 : 3 * bb * bb = 3 * (bb * bb) := by grind
  have pos : ∀ zz : Int, zz ≠ 0 → 0 < zz * zz := by
    intro zz hz
    rcases Int.lt_or_gt_of_ne hz with h | h
    · have h6 := Int.mul_pos (show 0 < -zz by omega) (show 0 < -zz by omega)
      have h7 : -zz * -zz = zz * zz := by grind
      omega
    · exact Int.mul_pos h h
  unfold rg
  rw [g1]
  refine ⟨by omega, by omega, by omega, by omega, ?_, pos aa, ?_, ?_⟩
  · rintro rfl; rfl
  · rintro rfl; rfl
  · intro h; have := pos bb h; omega
theorem above_ok {aa bb : Int} (h1 : small aa) (h2 : small bb) : f_X2_isAboveZero (lI aa) (lI bb) = some (if abvB aa bb then 1 else 0) := by
  obtain ⟨r1, r2, r3, r4, s1, s2, s3, s4⟩ := sq_facts h1 h2
  have r0 : rg 0 := by unfold rg; omega
  have q1 : abv aa bb → (if abvB aa bb = true then (1 : Int32) else 0) = 1 := fun h => if_pos (abvB_t.mpr h)
  have q0 : ¬ abv aa bb → (if abvB aa bb = true then (1 : Int32) else 0) = 0 := fun h => if_neg (fun z => h (abvB_t.mp z))
  generalize (if abvB aa bb = true then (1 : Int32) else 0) = rr at q1 q0 ⊢
  simp only [f_X2_isAboveZero, f_X2_isAboveZero_30, f_X2_isAboveZero_44, i64_0, i64_3, lI_mul, lg_lt r1 r0, lg_lt r2 r0, lg_le r2 r0, lg_le r1 r0, lg_gt r1 r0, lg_gt r2 r0, lg_le r4 r3, lg_le r3 r4]
  repeat' split
  all_goals first
    | (rw [q1 (by unfold abv; omega)]; done)
    | (rw [q0 (by unfold abv; omega)]; done)
theorem noMore_ok {aa bb : Int} (h1 : small aa) (h2 : small bb) : f_X8_isNoMore (lI aa) (lI bb) = some (if abvB aa bb then 0 else 1) := by
  obtain ⟨r1, r2, r3, r4, s1, s2, s3, s4⟩ := sq_facts h1 h2
  have r0 : rg 0 := by unfold rg; omega
  have q1 : abv aa bb → (if abvB aa bb = true then (0 : Int32) else 1) = 0 := fun h => if_pos (abvB_t.mpr h)
  have q0 : ¬ abv aa bb → (if abvB aa bb = true then (0 : Int32) else 1) = 1 := fun h => if_neg (fun z => h (abvB_t.mp z))
  generalize (if abvB aa bb = true then (0 : Int32) else 1) = rr at q1 q0 ⊢
  simp only [f_X8_isNoMore, f_X8_isNoMore_14, f_X8_isNoMore_28, i64_0, i64_3, lI_mul, lg_le r2 r0, lg_le r1 r0, lg_gt r1 r0, lg_gt r2 r0, lg_gt r4 r3, lg_gt r3 r4]
  repeat' split
  all_goals first
    | (rw [q1 (by unfold abv; omega)]; done)
    | (rw [q0 (by unfold abv; omega)]; done)
