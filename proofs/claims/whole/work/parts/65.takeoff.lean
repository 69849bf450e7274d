/-! TAKING OFF: what has no why not has none when some are taken off. -/
section WN
variable {n C : Nat} {T B A J S S' : Nat → Nat}
theorem tsum_sub {f : Nat → Nat} {a b : Nat} (h : sub a b) : ∀ n, tsum f a n ≤ tsum f b n := by
  intro n
  induction n with
  | zero => exact Nat.le_refl _
  | succ n ih =>
    simp only [tsum]
    by_cases w : a.testBit n = true
    · rw [if_pos w, if_pos (sub_iff.mp h n w)]; omega
    · rw [if_neg w]; omega
theorem and_mono0 {a b c : Nat} (h : sub b c) (hc : a &&& c = 0) : a &&& b = 0 := and_0.mpr fun i h1 h2 => and_0.mp hc i h1 (sub_iff.mp h i h2)
theorem mwn_0 {t s : Nat} : mwn n C T B A J S t s = 0 ↔ (B t &&& bset (pby S s (nI 1)) n = 0 ∧ bset (fun k => (B k).testBit t) n &&& bset (pby S s (-1)) n = 0 ∧ tsum T (sdf (bset (fun x => S x == s) n) (2 ^ t)) n + T t ≤ C ∧ A t &&& sdf (bset (fun x => S x == s) n) (2 ^ t) = 0 ∧ J t &&& bset (pby S s (nI 0)) n = 0) := by
  unfold mwn
  constructor
  · intro h
    split at h
    · omega
    · split at h
      · omega
      · split at h
        · omega
        · split at h
          · omega
          · split at h
            · omega
            · rename_i a1 a2 a3 a4 a5
              exact ⟨Decidable.not_not.mp a1, Decidable.not_not.mp a2, by omega, Decidable.not_not.mp a4, Decidable.not_not.mp a5⟩
  · rintro ⟨a1, a2, a3, a4, a5⟩
    rw [if_neg (fun q => q a1), if_neg (fun q => q a2), if_neg (by omega), if_neg (fun q => q a4), if_neg (fun q => q a5)]
theorem mwn_mono {t s : Nat} (hs : 1 ≤ s) (h : ∀ x, S' x = S x ∨ S' x = 0) (h0 : mwn n C T B A J S t s = 0) : mwn n C T B A J S' t s = 0 := by
  rw [mwn_0] at h0 ⊢
  obtain ⟨a1, a2, a3, a4, a5⟩ := h0
  have pm : ∀ y, sub (bset (pby S' s y) n) (bset (pby S s y) n) := fun y => sub_iff.mpr fun i hi => by
    rw [bset_bit, Bool.and_eq_true, decide_eq_true_eq] at hi ⊢
    refine ⟨hi.1, ?_⟩
    have h2 := hi.2
    unfold pby at h2 ⊢
    rcases h i with e | e
    · rw [← e]; exact h2
    · rw [e] at h2; simp at h2
  have em : sub (bset (fun x => S' x == s) n) (bset (fun x => S x == s) n) := sub_iff.mpr fun i hi => by
    rw [bset_bit, Bool.and_eq_true, decide_eq_true_eq, beq_iff_eq] at hi ⊢
    refine ⟨hi.1, ?_⟩
    rcases h i with e | e
    · rw [← e]; exact hi.2
    · rw [e] at hi; omega
  have em2 : sub (sdf (bset (fun x => S' x == s) n) (2 ^ t)) (sdf (bset (fun x => S x == s) n) (2 ^ t)) := sub_iff.mpr fun i hi => by
    rw [bit_sdf] at hi ⊢
    exact ⟨sub_iff.mp em i hi.1, hi.2⟩
  exact ⟨and_mono0 (pm _) a1, and_mono0 (pm _) a2, Nat.le_trans (Nat.add_le_add_right (tsum_sub em2 n) _) a3, and_mono0 em2 a4, and_mono0 (pm _) a5⟩
/-- after k tasks, all below k bear it -/
theorem tmS_ok (hp : prOk B A J) : ∀ k, (∀ x, tmS n C T B A J S k x = S x ∨ tmS n C T B A J S k x = 0) ∧ ∀ x, x < k → tmS n C T B A J S k x = 0 ∨ mwn n C T B A J (tmS n C T B A J S k) x (tmS n C T B A J S k x) = 0 := by
  intro k
  induction k with
  | zero => exact ⟨fun x => Or.inl rfl, fun x hx => by omega⟩
  | succ k ih =>
    obtain ⟨i1, i2⟩ := ih
    obtain ⟨U, eU⟩ : ∃ U, tmS n C T B A J S k = U := ⟨_, rfl⟩
    have e : tmS n C T B A J S (k + 1) = if U k ≠ 0 ∧ wn n C T B A J U k (U k) ≠ 0 then va_up U k 0 else U := by rw [← eU]; rfl
    rw [eU] at i1 i2
    rw [e]
    by_cases w : U k ≠ 0 ∧ wn n C T B A J U k (U k) ≠ 0
    · rw [if_pos w]
      have hU : ∀ x, va_up U k 0 x = U x ∨ va_up U k 0 x = 0 := fun x => by
        show (if x = k then 0 else U x) = U x ∨ (if x = k then 0 else U x) = 0
        by_cases q : x = k
        · rw [if_pos q]; exact Or.inr rfl
        · rw [if_neg q]; exact Or.inl rfl
      refine ⟨fun x => ?_, fun x hx => ?_⟩
      · rcases hU x with q | q
        · rw [q]; exact i1 x
        · exact Or.inr q
      · by_cases q : x = k
        · left; show (if x = k then 0 else U x) = 0; rw [if_pos q]
        · have ex : va_up U k 0 x = U x := if_neg q
          rw [ex]
          by_cases q0 : U x = 0
          · exact Or.inl q0
          · rcases i2 x (by omega) with q2 | q2
            · exact Or.inl q2
            · exact Or.inr (mwn_mono (by omega) hU q2)
    · rw [if_neg w]
      refine ⟨i1, fun x hx => ?_⟩
      by_cases q : x = k
      · rw [q]
        by_cases q0 : U k = 0
        · exact Or.inl q0
        · right
          have : wn n C T B A J U k (U k) = 0 := Decidable.not_not.mp fun z => w ⟨q0, z⟩
          rw [← wn_eq (by omega) hp]; exact this
      · exact i2 x (by omega)
end WN
