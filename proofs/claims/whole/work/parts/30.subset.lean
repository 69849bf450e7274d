/-! SETS AS NUMBERS: parts of a set, in falling order. -/
/-- s is part of o -/
def sub (s o : Nat) : Prop := s &&& o = s
theorem sub_iff {s o : Nat} : sub s o ↔ ∀ i, s.testBit i = true → o.testBit i = true := by
  unfold sub
  constructor
  · intro h i hi
    have := congrArg (fun x => x.testBit i) h
    simp only [Nat.testBit_and, hi, Bool.true_and] at this
    exact this
  · intro h
    apply Nat.eq_of_testBit_eq
    intro i
    rw [Nat.testBit_and]
    cases hs : s.testBit i
    · rfl
    · rw [h i hs]; rfl
theorem sub_le {s o : Nat} (h : sub s o) : s ≤ o := by
  unfold sub at h
  rw [← h]
  exact Nat.and_le_right
theorem sub_0 (o : Nat) : sub 0 o := by unfold sub; exact Nat.zero_and o
theorem sub_rfl (o : Nat) : sub o o := Nat.and_self o
theorem sub_and (m o : Nat) : sub (m &&& o) o := by unfold sub; rw [Nat.and_assoc, Nat.and_self]
theorem subm_next : ∀ (s o t : Nat), sub s o → sub t o → t < s → t ≤ (s - 1) &&& o := by
  intro s
  induction s using Nat.strongRecOn with
  | _ s ih =>
    intro o t hs ht hlt
    have hs2 : sub (s / 2) (o / 2) := by unfold sub at hs ⊢; rw [← Nat.and_div_two, hs]
    have ht2 : sub (t / 2) (o / 2) := by unfold sub at ht ⊢; rw [← Nat.and_div_two, ht]
    have tb : ∀ x y : Nat, sub x y → x % 2 ≤ y % 2 := fun x y h => by
      have h0 := sub_iff.mp h 0
      rw [Nat.testBit_zero, Nat.testBit_zero] at h0
      have := Nat.mod_two_eq_zero_or_one x
      have := Nat.mod_two_eq_zero_or_one y
      rcases Nat.mod_two_eq_zero_or_one x with e | e
      · omega
      · have := h0 (by simp [e]); simp at this; omega
    have hb := tb t o ht
    have e1 : ((s - 1) &&& o) / 2 = (s - 1) / 2 &&& o / 2 := Nat.and_div_two
    have e2 : ((s - 1) &&& o) % 2 = ((s - 1) % 2) &&& (o % 2) := by
      have := Nat.and_mod_two_pow (a := s - 1) (b := o) (n := 1)
      simpa using this
    rcases Nat.mod_two_eq_zero_or_one s with e | e
    · -- even
      have q1 : (s - 1) / 2 = s / 2 - 1 := by omega
      have q2 : (s - 1) % 2 = 1 := by omega
      rw [q1] at e1
      rw [q2] at e2
      have q3 : (1 &&& (o % 2)) = o % 2 := by
        rcases Nat.mod_two_eq_zero_or_one o with z | z <;> rw [z] <;> decide
      rw [q3] at e2
      have i1 := ih (s / 2) (by omega) (o / 2) (t / 2) hs2 ht2 (by omega)
      rw [← e1] at i1
      omega
    · -- odd
      have q1 : (s - 1) / 2 = s / 2 := by omega
      have q2 : (s - 1) % 2 = 0 := by omega
      rw [q1] at e1
      rw [q2, Nat.zero_and] at e2
      have q4 : s / 2 &&& o / 2 = s / 2 := hs2
      rw [q4] at e1
      omega
theorem subm_lt {s o : Nat} (h : 0 < s) : (s - 1) &&& o < s := Nat.lt_of_le_of_lt Nat.and_le_left (by omega)
/-- a loop over the parts of o, from o itself down -/
theorem subm_loop {P : Nat → Prop} {o : Nat} (h0 : P 0) (hs : ∀ s, sub s o → 0 < s → P ((s - 1) &&& o) → P s) : ∀ s, sub s o → P s := by
  intro s
  induction s using Nat.strongRecOn with
  | _ s ih =>
    intro h
    by_cases q : s = 0
    · rw [q]; exact h0
    · exact hs s h (by omega) (ih _ (subm_lt (by omega)) (sub_and _ _))
/-- what a loop over the parts has seen at s: those above s -/
theorem subm_seen {s o t : Nat} (hs : sub s o) (h0 : 0 < s) (ht : sub t o) : (s - 1) &&& o < t ↔ s ≤ t := by
  constructor
  · intro h
    refine Nat.le_of_not_lt (fun h2 => ?_)
    have := subm_next s o t hs ht h2
    omega
  · intro h; exact Nat.lt_of_lt_of_le (subm_lt h0) h
theorem sub_trans {a b c : Nat} (h1 : sub a b) (h2 : sub b c) : sub a c := sub_iff.mpr fun i hi => sub_iff.mp h2 i (sub_iff.mp h1 i hi)
theorem sdf_eq0 {a b : Nat} : sdf a b = 0 ↔ sub a b := by
  constructor
  · intro h
    refine sub_iff.mpr fun i hi => ?_
    have := congrArg (fun x => x.testBit i) h
    simp only [sdf_bit, hi, Nat.zero_testBit] at this
    simpa using this
  · intro h
    apply Nat.eq_of_testBit_eq
    intro i
    rw [sdf_bit, Nat.zero_testBit]
    cases ha : a.testBit i
    · rfl
    · rw [sub_iff.mp h i ha]; rfl
theorem and_eq0 {a b : Nat} : a &&& b = 0 ↔ ∀ i, a.testBit i = true → b.testBit i = false := by
  constructor
  · intro h i hi
    have := congrArg (fun x => x.testBit i) h
    simp only [Nat.testBit_and, hi, Nat.zero_testBit] at this
    simpa using this
  · intro h
    apply Nat.eq_of_testBit_eq
    intro i
    rw [Nat.testBit_and, Nat.zero_testBit]
    cases ha : a.testBit i
    · rfl
    · rw [h i ha]; rfl
theorem all_bit (n i : Nat) : (2 ^ n - 1).testBit i = decide (i < n) := Nat.testBit_two_pow_sub_one n i
theorem sub_all {s n : Nat} : sub s (2 ^ n - 1) ↔ s < 2 ^ n := by
  constructor
  · intro h
    have := sub_le h
    have := Nat.two_pow_pos n
    omega
  · intro h
    refine sub_iff.mpr fun i hi => ?_
    rw [all_bit]
    by_cases q : i < n
    · simp [q]
    · rw [tb_ge h (by omega)] at hi; cases hi
theorem or_sub {a b c : Nat} (h1 : sub a c) (h2 : sub b c) : sub (a ||| b) c := sub_iff.mpr fun i hi => by
  rw [Nat.testBit_or, Bool.or_eq_true] at hi
  exact hi.elim (sub_iff.mp h1 i) (sub_iff.mp h2 i)
theorem sub_or_l (a b : Nat) : sub a (a ||| b) := sub_iff.mpr fun i hi => by rw [Nat.testBit_or, hi]; rfl
theorem sub_or_r (a b : Nat) : sub b (a ||| b) := sub_iff.mpr fun i hi => by rw [Nat.testBit_or, hi, Bool.or_true]
theorem sdf_sub (a b : Nat) : sub (sdf a b) a := sub_iff.mpr fun i hi => by rw [sdf_bit, Bool.and_eq_true] at hi; exact hi.1
theorem or_sdf {a b : Nat} (h : sub a b) : a ||| sdf b a = b := by
  apply Nat.eq_of_testBit_eq
  intro i
  rw [Nat.testBit_or, sdf_bit]
  cases ha : a.testBit i
  · simp
  · rw [sub_iff.mp h i ha]; rfl
theorem sdf_or {a b : Nat} (h : a &&& b = 0) : sdf (a ||| b) a = b := by
  apply Nat.eq_of_testBit_eq
  intro i
  rw [sdf_bit, Nat.testBit_or]
  cases ha : a.testBit i
  · simp
  · rw [and_eq0.mp h i ha]; rfl
theorem or_gt {a b : Nat} (h : a &&& b = 0) (hb : 0 < b) : a < a ||| b := by
  have h1 : a ≤ a ||| b := sub_le (sub_or_l a b)
  refine Nat.lt_of_le_of_ne h1 (fun e => ?_)
  have h2 := sdf_or h
  rw [← e] at h2
  rw [sdf_eq0.mpr (sub_rfl a)] at h2
  omega
