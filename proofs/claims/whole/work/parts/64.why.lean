/-! WHY NOT: the class's answer and the model's are one. -/
section WN
variable {n C t s : Nat} {T B A J S : Nat → Nat}
theorem wnf_min (B A J S : Nat → Nat) (t s : Nat) : ∀ k, ((∀ x, x < k → x ≠ t → S x ≠ 0 → cl B A J S t s x = 0) ∧ wnf B A J S t s k = 0) ∨ (wnf B A J S t s k ≠ 0 ∧ (∃ x, x < k ∧ x ≠ t ∧ S x ≠ 0 ∧ cl B A J S t s x = wnf B A J S t s k) ∧ ∀ x, x < k → x ≠ t → S x ≠ 0 → cl B A J S t s x = 0 ∨ wnf B A J S t s k ≤ cl B A J S t s x) := by
  intro k
  induction k with
  | zero => exact Or.inl ⟨fun x hx => by omega, rfl⟩
  | succ k ih =>
    simp only [wnf]
    by_cases w : k ≠ t ∧ S k ≠ 0
    · rw [if_pos w]
      unfold fo
      rcases ih with ⟨i1, i2⟩ | ⟨i1, ⟨x, x1, x2, x3, x4⟩, i3⟩
      · rw [i2, if_pos (Or.inl rfl), Nat.zero_add]
        by_cases z : cl B A J S t s k = 0
        · refine Or.inl ⟨fun x hx hx2 hx3 => ?_, z⟩
          by_cases e : x = k
          · rw [e]; exact z
          · exact i1 x (by omega) hx2 hx3
        · refine Or.inr ⟨z, ⟨k, by omega, w.1, w.2, rfl⟩, fun x hx hx2 hx3 => ?_⟩
          by_cases e : x = k
          · rw [e]; exact Or.inr (Nat.le_refl _)
          · exact Or.inl (i1 x (by omega) hx2 hx3)
      · by_cases z : cl B A J S t s k = 0
        · rw [if_pos (Or.inr z), z, Nat.add_zero]
          refine Or.inr ⟨i1, ⟨x, by omega, x2, x3, x4⟩, fun y hy hy2 hy3 => ?_⟩
          by_cases e : y = k
          · rw [e]; exact Or.inl z
          · exact i3 y (by omega) hy2 hy3
        · rw [if_neg (by omega)]
          refine Or.inr ⟨by omega, ?_, fun y hy hy2 hy3 => ?_⟩
          · by_cases q : wnf B A J S t s k ≤ cl B A J S t s k
            · exact ⟨x, by omega, x2, x3, by omega⟩
            · exact ⟨k, by omega, w.1, w.2, by omega⟩
          · by_cases e : y = k
            · rw [e]; exact Or.inr (by omega)
            · rcases i3 y (by omega) hy2 hy3 with q | q
              · exact Or.inl q
              · exact Or.inr (by omega)
    · rw [if_neg w]
      rcases ih with ⟨i1, i2⟩ | ⟨i1, ⟨x, x1, x2, x3, x4⟩, i3⟩
      · refine Or.inl ⟨fun x hx hx2 hx3 => ?_, i2⟩
        by_cases e : x = k
        · rw [e] at hx2 hx3; exact absurd ⟨hx2, hx3⟩ w
        · exact i1 x (by omega) hx2 hx3
      · refine Or.inr ⟨i1, ⟨x, by omega, x2, x3, x4⟩, fun y hy hy2 hy3 => ?_⟩
        by_cases e : y = k
        · rw [e] at hy2 hy3; exact absurd ⟨hy2, hy3⟩ w
        · exact i3 y (by omega) hy2 hy3
/-- times of those that are put there, and its own -/
theorem wns_eq (hs : 1 ≤ s) : ∀ k, wns T S t s k = tsum T (sdf (bset (fun x => S x == s) n) (2 ^ t)) (min k n) + T t ∨ n < k := by
  intro k
  induction k with
  | zero => left; show T t = _; rw [Nat.zero_min]; show T t = 0 + T t; omega
  | succ k ih =>
    by_cases w : n < k + 1
    · exact Or.inr w
    · left
      rcases ih with ih | ih
      · rw [show min (k + 1) n = k + 1 by omega]
        rw [show min k n = k by omega] at ih
        simp only [wns, tsum]
        rw [ih]
        have e : (sdf (bset (fun x => S x == s) n) (2 ^ t)).testBit k = true ↔ (k ≠ t ∧ S k ≠ 0 ∧ S k = s) := by
          rw [bit_sdf, bset_bit, Bool.and_eq_true, decide_eq_true_eq, beq_iff_eq, Nat.testBit_two_pow, decide_eq_true_eq]
          constructor
          · rintro ⟨⟨a1, a2⟩, a3⟩; exact ⟨fun q => a3 q.symm, by omega, a2⟩
          · rintro ⟨a1, a2, a3⟩; exact ⟨⟨by omega, a3⟩, fun q => a1 q.symm⟩
        by_cases q : k ≠ t ∧ S k ≠ 0 ∧ S k = s
        · rw [if_pos q, if_pos (e.mpr q)]; omega
        · rw [if_neg q, if_neg (fun z => q (e.mp z))]; omega
      · omega
theorem and_ne0 {a b : Nat} : a &&& b ≠ 0 ↔ ∃ i, a.testBit i = true ∧ b.testBit i = true := by
  constructor
  · intro h
    apply Classical.byContradiction
    intro q
    exact h (and_0.mpr fun i h1 h2 => q ⟨i, h1, h2⟩)
  · rintro ⟨i, h1, h2⟩ z
    exact and_0.mp z i h1 h2
/-- what is kept true of pairs -/
def prOk (B A J : Nat → Nat) : Prop := (∀ a b, (B b).testBit a = true → ¬ (B a).testBit b = true) ∧ (∀ a b, (A a).testBit b = true → ¬ (J a).testBit b = true) ∧ ∀ a, ¬ (J a).testBit a = true
theorem wn_eq (hs : 1 ≤ s) (hp : prOk B A J) : wn n C T B A J S t s = mwn n C T B A J S t s := by
  obtain ⟨hB, hAJ, hJ⟩ := hp
  have hBt : ¬ (B t).testBit t = true := fun q => hB t t q q
  have E1 : B t &&& bset (pby S s (nI 1)) n ≠ 0 ↔ ∃ x, x < n ∧ x ≠ t ∧ S x ≠ 0 ∧ (B t).testBit x = true ∧ s < S x := by
    rw [and_ne0]
    constructor
    · rintro ⟨x, h1, h2⟩
      rw [bset_bit, Bool.and_eq_true, decide_eq_true_eq] at h2
      have h3 := h2.2
      unfold pby at h3
      rw [if_neg (by decide), if_pos (by decide), Bool.and_eq_true, decide_eq_true_eq, decide_eq_true_eq] at h3
      exact ⟨x, h2.1, fun q => hBt (by rw [q] at h1; exact h1), h3.1, h1, h3.2⟩
    · rintro ⟨x, h1, h2, h3, h4, h5⟩
      refine ⟨x, h4, ?_⟩
      rw [bset_bit, Bool.and_eq_true, decide_eq_true_eq]
      refine ⟨h1, ?_⟩
      unfold pby
      rw [if_neg (by decide), if_pos (by decide), Bool.and_eq_true, decide_eq_true_eq, decide_eq_true_eq]
      exact ⟨h3, h5⟩
  have E2 : bset (fun k => (B k).testBit t) n &&& bset (pby S s (-1)) n ≠ 0 ↔ ∃ x, x < n ∧ x ≠ t ∧ S x ≠ 0 ∧ (B x).testBit t = true ∧ S x < s := by
    rw [and_ne0]
    constructor
    · rintro ⟨x, h1, h2⟩
      rw [bset_bit, Bool.and_eq_true, decide_eq_true_eq] at h1 h2
      have h3 := h2.2
      unfold pby at h3
      rw [if_pos (by decide), Bool.and_eq_true, decide_eq_true_eq, decide_eq_true_eq] at h3
      exact ⟨x, h2.1, fun q => hBt (by have := h1.2; rw [q] at this; exact this), h3.1, h1.2, h3.2⟩
    · rintro ⟨x, h1, h2, h3, h4, h5⟩
      refine ⟨x, ?_, ?_⟩
      · rw [bset_bit, Bool.and_eq_true, decide_eq_true_eq]; exact ⟨h1, h4⟩
      · rw [bset_bit, Bool.and_eq_true, decide_eq_true_eq]
        refine ⟨h1, ?_⟩
        unfold pby
        rw [if_pos (by decide), Bool.and_eq_true, decide_eq_true_eq, decide_eq_true_eq]
        exact ⟨h3, h5⟩
  have E4 : A t &&& sdf (bset (fun x => S x == s) n) (2 ^ t) ≠ 0 ↔ ∃ x, x < n ∧ x ≠ t ∧ S x ≠ 0 ∧ (A t).testBit x = true ∧ S x = s := by
    rw [and_ne0]
    constructor
    · rintro ⟨x, h1, h2⟩
      rw [bit_sdf, bset_bit, Bool.and_eq_true, decide_eq_true_eq, beq_iff_eq, Nat.testBit_two_pow, decide_eq_true_eq] at h2
      exact ⟨x, h2.1.1, fun q => h2.2 q.symm, by omega, h1, h2.1.2⟩
    · rintro ⟨x, h1, h2, h3, h4, h5⟩
      refine ⟨x, h4, ?_⟩
      rw [bit_sdf, bset_bit, Bool.and_eq_true, decide_eq_true_eq, beq_iff_eq, Nat.testBit_two_pow, decide_eq_true_eq]
      exact ⟨⟨h1, h5⟩, fun q => h2 q.symm⟩
  have E5 : J t &&& bset (pby S s (nI 0)) n ≠ 0 ↔ ∃ x, x < n ∧ x ≠ t ∧ S x ≠ 0 ∧ (J t).testBit x = true ∧ S x ≠ s := by
    rw [and_ne0]
    constructor
    · rintro ⟨x, h1, h2⟩
      rw [bset_bit, Bool.and_eq_true, decide_eq_true_eq] at h2
      have h3 := h2.2
      unfold pby at h3
      rw [if_neg (by decide), if_neg (by decide), Bool.and_eq_true, decide_eq_true_eq, decide_eq_true_eq] at h3
      exact ⟨x, h2.1, fun q => hJ t (by rw [q] at h1; exact h1), h3.1, h1, h3.2⟩
    · rintro ⟨x, h1, h2, h3, h4, h5⟩
      refine ⟨x, h4, ?_⟩
      rw [bset_bit, Bool.and_eq_true, decide_eq_true_eq]
      refine ⟨h1, ?_⟩
      unfold pby
      rw [if_neg (by decide), if_neg (by decide), Bool.and_eq_true, decide_eq_true_eq, decide_eq_true_eq]
      exact ⟨h3, h5⟩
  have E3 : wns T S t s n = tsum T (sdf (bset (fun x => S x == s) n) (2 ^ t)) n + T t := by
    rcases wns_eq (n := n) (T := T) (S := S) (t := t) hs n with q | q
    · rw [Nat.min_self] at q; exact q
    · omega
  unfold mwn
  rw [← E3]
  simp only [E1, E2, E4, E5]
  -- what a task's number says
  have c1 : ∀ x, cl B A J S t s x = 1 → (B t).testBit x = true ∧ s < S x := by
    intro x h; unfold cl at h; repeat' split at h
    all_goals first | assumption | omega
  have c1' : ∀ x, (B t).testBit x = true → s < S x → cl B A J S t s x = 1 := fun x h1 h2 => by unfold cl; rw [if_pos ⟨h1, h2⟩]
  have c2 : ∀ x, cl B A J S t s x = 2 → (B x).testBit t = true ∧ S x < s := by
    intro x h; unfold cl at h; repeat' split at h
    all_goals first | assumption | omega
  have c2' : ∀ x, (B x).testBit t = true → S x < s → cl B A J S t s x = 1 ∨ cl B A J S t s x = 2 := by
    intro x h1 h2; unfold cl; split
    · exact Or.inl rfl
    · rw [if_pos ⟨h1, h2⟩]; exact Or.inr rfl
  have c3 : ∀ x, ¬ cl B A J S t s x = 3 := by
    intro x h; unfold cl at h; repeat' split at h
    all_goals omega
  have c4 : ∀ x, cl B A J S t s x = 4 → (A t).testBit x = true ∧ S x = s := by
    intro x h; unfold cl at h; repeat' split at h
    all_goals first | omega | (constructor <;> assumption)
  have c4' : ∀ x, (A t).testBit x = true → S x = s → cl B A J S t s x = 4 := by
    intro x h1 h2; unfold cl
    rw [if_neg (by omega), if_neg (by omega), if_pos h1, if_pos h2]
  have c5 : ∀ x, cl B A J S t s x = 5 → (J t).testBit x = true ∧ S x ≠ s := by
    intro x h; unfold cl at h; repeat' split at h
    all_goals first | omega | (constructor <;> assumption)
  have c5' : ∀ x, (J t).testBit x = true → S x ≠ s → cl B A J S t s x = 1 ∨ cl B A J S t s x = 2 ∨ cl B A J S t s x = 5 := by
    intro x h1 h2; unfold cl
    split
    · exact Or.inl rfl
    · split
      · exact Or.inr (Or.inl rfl)
      · have q : ¬ (A t).testBit x = true := fun q => hAJ t x q h1
        simp [q, h1, h2]
  have cle := cl_le B A J S t s
  have hm := wnf_min B A J S t s n
  have wle := wnf_le B A J S t s n
  obtain ⟨w, ew⟩ : ∃ w, wnf B A J S t s n = w := ⟨_, rfl⟩
  unfold wn
  rw [ew] at hm wle ⊢
  rcases hm with ⟨m1, m2⟩ | ⟨m1, ⟨x0, x1, x2, x3, x4⟩, m3⟩
  · have n1 : ¬ ∃ x, x < n ∧ x ≠ t ∧ S x ≠ 0 ∧ (B t).testBit x = true ∧ s < S x := fun ⟨x, a1, a2, a3, a4, a5⟩ => by
      have := m1 x a1 a2 a3; rw [c1' x a4 a5] at this; omega
    have n2 : ¬ ∃ x, x < n ∧ x ≠ t ∧ S x ≠ 0 ∧ (B x).testBit t = true ∧ S x < s := fun ⟨x, a1, a2, a3, a4, a5⟩ => by
      have := m1 x a1 a2 a3; have := c2' x a4 a5; omega
    have n4 : ¬ ∃ x, x < n ∧ x ≠ t ∧ S x ≠ 0 ∧ (A t).testBit x = true ∧ S x = s := fun ⟨x, a1, a2, a3, a4, a5⟩ => by
      have := m1 x a1 a2 a3; rw [c4' x a4 a5] at this; omega
    have n5 : ¬ ∃ x, x < n ∧ x ≠ t ∧ S x ≠ 0 ∧ (J t).testBit x = true ∧ S x ≠ s := fun ⟨x, a1, a2, a3, a4, a5⟩ => by
      have := m1 x a1 a2 a3; have := c5' x a4 a5; omega
    rw [if_neg n1, if_neg n2, if_neg n4, if_neg n5, m2]
    rfl
  · have n1 : w ≠ 1 → ¬ ∃ x, x < n ∧ x ≠ t ∧ S x ≠ 0 ∧ (B t).testBit x = true ∧ s < S x := fun hw ⟨x, a1, a2, a3, a4, a5⟩ => by
      have := m3 x a1 a2 a3; have := c1' x a4 a5; omega
    have n2 : 2 < w → ¬ ∃ x, x < n ∧ x ≠ t ∧ S x ≠ 0 ∧ (B x).testBit t = true ∧ S x < s := fun hw ⟨x, a1, a2, a3, a4, a5⟩ => by
      have := m3 x a1 a2 a3; have := c2' x a4 a5; omega
    have n4 : 4 < w → ¬ ∃ x, x < n ∧ x ≠ t ∧ S x ≠ 0 ∧ (A t).testBit x = true ∧ S x = s := fun hw ⟨x, a1, a2, a3, a4, a5⟩ => by
      have := m3 x a1 a2 a3; have := c4' x a4 a5; omega
    have n3 := c3 x0
    rcases (show w = 1 ∨ w = 2 ∨ w = 4 ∨ w = 5 by omega) with q | q | q | q
    · rw [q] at x4
      have := c1 x0 x4
      rw [if_pos (c := ∃ x, x < n ∧ x ≠ t ∧ S x ≠ 0 ∧ (B t).testBit x = true ∧ s < S x) ⟨x0, x1, x2, x3, this.1, this.2⟩, q]
      split <;> rfl
    · rw [q] at x4
      have := c2 x0 x4
      rw [if_neg (n1 (by omega)), if_pos (c := ∃ x, x < n ∧ x ≠ t ∧ S x ≠ 0 ∧ (B x).testBit t = true ∧ S x < s) ⟨x0, x1, x2, x3, this.1, this.2⟩, q]
      split <;> rfl
    · rw [q] at x4
      have := c4 x0 x4
      rw [if_neg (n1 (by omega)), if_neg (n2 (by omega)), if_pos (c := ∃ x, x < n ∧ x ≠ t ∧ S x ≠ 0 ∧ (A t).testBit x = true ∧ S x = s) ⟨x0, x1, x2, x3, this.1, this.2⟩, q]
      rfl
    · rw [q] at x4
      have := c5 x0 x4
      rw [if_neg (n1 (by omega)), if_neg (n2 (by omega)), if_neg (n4 (by omega)), if_pos (c := ∃ x, x < n ∧ x ≠ t ∧ S x ≠ 0 ∧ (J t).testBit x = true ∧ S x ≠ s) ⟨x0, x1, x2, x3, this.1, this.2⟩, q]
      rfl
end WN
