/-! sets, their parts; who rides still -/
def sb (aa bb : Nat) : Prop := ∀ ii, aa.testBit ii = true → bb.testBit ii = true
theorem sb.rf {aa : Nat} : sb aa aa := fun _ h => h
theorem sb.tr {aa bb cc : Nat} (h1 : sb aa bb) (h2 : sb bb cc) : sb aa cc := fun ii h => h2 ii (h1 ii h)
theorem sb.le {aa bb : Nat} (h : sb aa bb) : aa ≤ bb := Nat.le_of_testBit h
theorem sb_and {aa bb : Nat} : sb aa bb ↔ aa &&& bb = aa := by
  constructor
  · intro h
    apply Nat.eq_of_testBit_eq
    intro ii
    rw [Nat.testBit_and]
    by_cases q : aa.testBit ii = true
    · rw [q, h ii q]; rfl
    · have q' : aa.testBit ii = false := by simpa using q
      rw [q']; rfl
  · intro h ii hi
    rw [← h, Nat.testBit_and] at hi
    simp at hi
    exact hi.2
theorem sb_l {aa bb : Nat} : sb (aa &&& bb) aa := fun ii h => by
  rw [Nat.testBit_and] at h
  simp at h
  exact h.1
theorem sb_r {aa bb : Nat} : sb (aa &&& bb) bb := fun ii h => by
  rw [Nat.testBit_and] at h
  simp at h
  exact h.2
theorem sb_i {aa bb cc : Nat} (h1 : sb cc aa) (h2 : sb cc bb) : sb cc (aa &&& bb) := fun ii h => by
  rw [Nat.testBit_and, h1 ii h, h2 ii h]
  rfl
theorem sub_next : ∀ (ll xx yy : Nat), xx &&& ll = xx → yy &&& ll = yy → yy < xx → yy ≤ (xx - 1) &&& ll := by
  intro ll
  induction ll using Nat.strongRecOn with
  | ind ll ih =>
    intro xx yy h1 h2 h3
    have hxl : xx ≤ ll := by rw [← h1]; exact Nat.and_le_right
    have a1 : xx / 2 &&& ll / 2 = xx / 2 := by rw [← Nat.and_div_two, h1]
    have a2 : yy / 2 &&& ll / 2 = yy / 2 := by rw [← Nat.and_div_two, h2]
    have b2 : yy % 2 = 1 → ll % 2 = 1 := fun z => by
      have := Nat.and_mod_two_eq_one (a := yy) (b := ll)
      rw [h2] at this
      exact (this.mp z).2
    have d1 : ((xx - 1) &&& ll) / 2 = (xx - 1) / 2 &&& ll / 2 := Nat.and_div_two
    have d2 := Nat.and_mod_two_eq_one (a := xx - 1) (b := ll)
    rcases (show xx % 2 = 1 ∨ xx % 2 = 0 by omega) with q | q
    · have e1 : (xx - 1) / 2 = xx / 2 := by omega
      rw [e1, a1] at d1
      omega
    · have e1 : (xx - 1) / 2 = xx / 2 - 1 := by omega
      have h4 := ih (ll / 2) (by omega) (xx / 2) (yy / 2) a1 a2 (by omega)
      rw [e1] at d1
      have e2 : (xx - 1) % 2 = 1 := by omega
      by_cases q2 : yy % 2 = 1
      · have := d2.mpr ⟨e2, b2 q2⟩
        omega
      · omega
def andn (aa bb : Nat) : Nat := aa ^^^ (aa &&& bb)
theorem andn_b (aa bb ii : Nat) : (andn aa bb).testBit ii = (aa.testBit ii && !bb.testBit ii) := by
  unfold andn
  rw [Nat.testBit_xor, Nat.testBit_and]
  cases aa.testBit ii <;> cases bb.testBit ii <;> rfl
theorem andn_sb {aa bb : Nat} : sb (andn aa bb) aa := fun ii h => by
  rw [andn_b] at h
  simp at h
  exact h.1
theorem andn_lt {aa bb : Nat} (h0 : bb ≠ 0) (h : sb bb aa) : andn aa bb < aa := by
  apply Nat.lt_of_le_of_ne andn_sb.le
  intro e
  apply h0
  apply Nat.eq_of_testBit_eq
  intro ii
  rw [Nat.zero_testBit]
  by_cases q : bb.testBit ii = true
  · have h1 := andn_b aa bb ii
    rw [e, h ii q, q] at h1
    exact absurd h1 (by decide)
  · simpa using q
theorem nI_nd {aa bb : Nat} : nI aa &&& (nI bb ^^^ (-1 : Int32)) = nI (andn aa bb) := nI_andn (fun jj => andn_b aa bb jj)
def reach (hr set ss : Nat) : Prop := ∃ out, out ≠ 0 ∧ sb out set ∧ sb out hr ∧ ss = andn set out
theorem reach.sb {hr set ss : Nat} (h : reach hr set ss) : sb ss set := by
  obtain ⟨out, h0, h1, h2, rfl⟩ := h
  exact andn_sb
theorem reach.lt {hr set ss : Nat} (h : reach hr set ss) : ss < set := by
  obtain ⟨out, h0, h1, h2, rfl⟩ := h
  exact andn_lt h0 h1
theorem reach.tr {hr aa bb cc : Nat} (h1 : reach hr aa bb) (h2 : reach hr bb cc) : reach hr aa cc := by
  obtain ⟨o1, z1, p1, q1, rfl⟩ := h1
  obtain ⟨o2, z2, p2, q2, rfl⟩ := h2
  refine ⟨o1 ||| o2, fun z => z1 (Nat.or_eq_zero_iff.mp z).1, fun ii h => ?_, fun ii h => ?_, ?_⟩
  · rw [Nat.testBit_or] at h
    simp at h
    rcases h with h | h
    · exact p1 ii h
    · exact andn_sb ii (p2 ii h)
  · rw [Nat.testBit_or] at h
    simp at h
    rcases h with h | h
    · exact q1 ii h
    · exact q2 ii h
  · apply Nat.eq_of_testBit_eq
    intro ii
    rw [andn_b, andn_b, andn_b, Nat.testBit_or]
    cases aa.testBit ii <;> cases o1.testBit ii <;> cases o2.testBit ii <;> rfl
noncomputable def okR (dd : WD) (ss hr : Nat) : Bool := fitB dd (ss &&& hr) && evB (ldm dd ss) (dli dd)
def stp (dd : WD) (hr : Nat) (CC : Nat → Prop) (ss : Nat) : Prop := CC ss ∨ (okR dd ss hr = true ∧ ∃ set, CC set ∧ reach hr set ss)
def dead (dd : WD) (ss : Nat) : Prop := evB (ldm dd ss) (dli dd) = false ∨ ∃ cc, cc < 12 ∧ fitB dd (ss &&& whoAt dd cc) = false
def AL (dd : WD) (CC : Nat → Prop) : Prop := (∀ ss, CC ss → sb ss (ridS dd)) ∧ (∀ ss, CC ss → ∀ cc, cc < 12 → fitB dd (ss &&& whoAt dd cc) = true)
theorem who_sb {dd : WD} {cc : Nat} (hc : cc < 12) : sb (whoAt dd cc) (ridS dd) := fun ii h => by
  unfold whoAt at h
  unfold ridS
  rw [setOf_bit] at h ⊢
  simp at h ⊢
  exact ⟨h.1, by omega⟩
theorem who_no {dd : WD} {cc ce ii : Nat} (hne : cc ≠ ce) (h : (whoAt dd cc).testBit ii = true) : (whoAt dd ce).testBit ii = false := by
  unfold whoAt at h ⊢
  rw [setOf_bit] at h ⊢
  simp at h ⊢
  intro _ z
  exact hne (by omega)
theorem fit_all {dd : WD} {CC : Nat → Prop} {cc set ss : Nat} (hA : AL dd CC) (h1 : okR dd ss (whoAt dd cc) = true) (h2 : CC set) (h3 : reach (whoAt dd cc) set ss) : ∀ ce, ce < 12 → fitB dd (ss &&& whoAt dd ce) = true := by
  intro ce hce
  by_cases q : ce = cc
  · subst q
    unfold okR at h1
    simp at h1
    exact h1.1
  · have e : ss &&& whoAt dd ce = set &&& whoAt dd ce := by
      obtain ⟨out, z0, z1, z2, rfl⟩ := h3
      apply Nat.eq_of_testBit_eq
      intro ii
      rw [Nat.testBit_and, Nat.testBit_and, andn_b]
      by_cases q2 : out.testBit ii = true
      · rw [who_no (ce := ce) (fun z => q z.symm) (z2 ii q2)]
        simp
      · have q2' : out.testBit ii = false := by simpa using q2
        rw [q2']
        simp
    rw [e]
    exact hA.2 set h2 ce hce
theorem AL_stp {dd : WD} {CC : Nat → Prop} {cc : Nat} (hA : AL dd CC) : AL dd (stp dd (whoAt dd cc) CC) := by
  refine ⟨fun ss h => ?_, fun ss h => ?_⟩
  · rcases h with h | ⟨h1, set, h2, h3⟩
    · exact hA.1 ss h
    · exact h3.sb.tr (hA.1 set h2)
  · rcases h with h | ⟨h1, set, h2, h3⟩
    · exact hA.2 ss h
    · exact fit_all hA h1 h2 h3
theorem not_dead {dd : WD} {CC : Nat → Prop} {cc set ss : Nat} (hA : AL dd CC) (h1 : okR dd ss (whoAt dd cc) = true) (h2 : CC set) (h3 : reach (whoAt dd cc) set ss) : ¬ dead dd ss := by
  rintro (z | ⟨ce, hce, z⟩)
  · unfold okR at h1
    rw [z] at h1
    simp at h1
  · rw [fit_all hA h1 h2 h3 ce hce] at z
    exact absurd z (by decide)
theorem dead_of {dd : WD} {cc ss : Nat} (hc : cc < 12) (h : okR dd ss (whoAt dd cc) = false) : dead dd ss := by
  unfold okR at h
  by_cases q : fitB dd (ss &&& whoAt dd cc) = true
  · rw [q] at h
    exact Or.inl (by simpa using h)
  · exact Or.inr ⟨cc, hc, by simpa using q⟩
def canS (dd : WD) : Nat → Nat → Prop
  | 0 => fun ss => ss = ridS dd
  | mm + 1 => stp dd (whoAt dd ((ft dd + mm) % 12)) (canS dd mm)
theorem rid_and {dd : WD} {cc : Nat} (hc : cc < 12) : ridS dd &&& whoAt dd cc = whoAt dd cc := by
  rw [Nat.and_comm]
  exact sb_and.mp (who_sb hc)
theorem AL_can {dd : WD} (hf : ∀ cc, cc < 12 → fitB dd (whoAt dd cc) = true) : ∀ mm, AL dd (canS dd mm) := by
  intro mm
  induction mm with
  | zero => exact ⟨fun ss h => by rw [show ss = ridS dd from h]; exact sb.rf, fun ss h cc hc => by rw [show ss = ridS dd from h, rid_and hc]; exact hf cc hc⟩
  | succ mm ih => exact AL_stp ih
/-! what the class's states say in a minute, when all sets above one have been gone on from -/
def SI (dd : WD) (cc : Nat) (CC : Nat → Prop) (kk : Nat) (st : Nat → Int32) : Prop := (∀ ss, sb ss (ridS dd) → st ss = 0 ∨ st ss = 1 ∨ st ss = 2) ∧ (∀ ss, sb ss (ridS dd) → CC ss → st ss = 1) ∧ (∀ ss, sb ss (ridS dd) → st ss = 1 → stp dd (whoAt dd cc) CC ss) ∧ (∀ ss, sb ss (ridS dd) → st ss = 2 → dead dd ss ∧ ss ≠ ridS dd) ∧ (∀ set, sb set (ridS dd) → kk < set → st set = 1 → ∀ ss, reach (whoAt dd cc) set ss → st ss ≠ 0)
def SV (dd : WD) (CC : Nat → Prop) (st : Nat → Int32) : Prop := (∀ ss, sb ss (ridS dd) → st ss = 0 ∨ st ss = 1 ∨ st ss = 2) ∧ (∀ ss, sb ss (ridS dd) → (st ss = 1 ↔ CC ss)) ∧ (∀ ss, sb ss (ridS dd) → st ss = 2 → dead dd ss ∧ ss ≠ ridS dd)
theorem SI_0 {dd : WD} {cc : Nat} {CC : Nat → Prop} {st : Nat → Int32} (h : SV dd CC st) : SI dd cc CC (ridS dd) st := ⟨h.1, fun ss h1 h2 => (h.2.1 ss h1).mpr h2, fun ss h1 h2 => Or.inl ((h.2.1 ss h1).mp h2), h.2.2, fun set h1 h2 => absurd h1.le (by omega)⟩
theorem SI_end {dd : WD} {cc : Nat} {CC : Nat → Prop} {st : Nat → Int32} (hA : AL dd CC) (h : SI dd cc CC 0 st) : SV dd (stp dd (whoAt dd cc) CC) st := by
  obtain ⟨h1, h2, h3, h4, h5⟩ := h
  refine ⟨h1, fun ss hs => ⟨h3 ss hs, fun h => ?_⟩, h4⟩
  rcases h with h | ⟨hok, set, hset, hr⟩
  · exact h2 ss hs h
  · have hss := hA.1 set hset
    have h6 := h5 set hss (by have := hr.lt; omega) (h2 set hss hset) ss hr
    rcases h1 ss hs with z | z | z
    · exact absurd z h6
    · exact z
    · exact absurd (h4 ss hs z).1 (not_dead hA hok hset hr)
theorem SI.up {dd : WD} {cc kk rr : Nat} {CC : Nat → Prop} {st : Nat → Int32} {vv : Int32} (h : SI dd cc CC kk st) (h0 : st rr = 0) (hr : rr ≤ kk) (hrs : sb rr (ridS dd)) (hv : (vv = 1 ∧ stp dd (whoAt dd cc) CC rr) ∨ (vv = 2 ∧ dead dd rr ∧ rr ≠ ridS dd)) : SI dd cc CC kk (upd st rr vv) := by
  obtain ⟨h1, h2, h3, h4, h5⟩ := h
  refine ⟨fun ss hs => ?_, fun ss hs hC => ?_, fun ss hs he => ?_, fun ss hs he => ?_, fun set hs hk he ss hre => ?_⟩
  · rw [upd_at]
    by_cases q : ss = rr
    · rw [if_pos q]
      rcases hv with ⟨z, _⟩ | ⟨z, _⟩
      · exact Or.inr (Or.inl z)
      · exact Or.inr (Or.inr z)
    · rw [if_neg q]; exact h1 ss hs
  · rw [upd_at]
    by_cases q : ss = rr
    · have := h2 ss hs hC
      rw [q, h0] at this
      exact absurd this (by decide)
    · rw [if_neg q]; exact h2 ss hs hC
  · rw [upd_at] at he
    by_cases q : ss = rr
    · rw [if_pos q] at he
      rcases hv with ⟨_, z⟩ | ⟨z, _⟩
      · rw [q]; exact z
      · rw [z] at he; exact absurd he (by decide)
    · rw [if_neg q] at he; exact h3 ss hs he
  · rw [upd_at] at he
    by_cases q : ss = rr
    · rw [if_pos q] at he
      rcases hv with ⟨z, _⟩ | ⟨_, z⟩
      · rw [z] at he; exact absurd he (by decide)
      · rw [q]; exact z
    · rw [if_neg q] at he; exact h4 ss hs he
  · rw [upd_at, if_neg (by omega)] at he
    rw [upd_at]
    by_cases q : ss = rr
    · rw [if_pos q]
      rcases hv with ⟨z, _⟩ | ⟨z, _⟩
      · rw [z]; decide
      · rw [z]; decide
    · rw [if_neg q]; exact h5 set hs hk he ss hre
