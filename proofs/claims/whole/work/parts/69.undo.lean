/-! THE MODEL: what is noted; undoing. -/
/-- the rows that are noted -/
def bfR (f : Nat → Nat) (um : Nat) (V : Nat → pv) : Prop := ∀ i, i < um → ∃ n C T B A J S, V i = (n, nI C, T, B, A, J, S) ∧ C ≤ 120 ∧ ∀ k, k < 62 → f (62 * i + k) = rowP n C T B A J S k
theorem bfR_note {f : Nat → Nat} {um n C : Nat} {V : Nat → pv} {T B A J S : Nat → Nat} (hu : um ≤ 6) (hC : C ≤ 120) (hb : bfR f um V) : bfR (ntB um f (rowP n C T B A J S)) (kz um) (kV um V (n, nI C, T, B, A, J, S)) := by
  intro i hi
  unfold kz at hi
  by_cases w : um = 6
  · subst w
    rw [if_neg (by omega)] at hi
    by_cases e : i < 5
    · obtain ⟨n', C', T', B', A', J', S', h1, h2, h3⟩ := hb (i + 1) (by omega)
      refine ⟨n', C', T', B', A', J', S', ?_, h2, fun k hk => ?_⟩
      · unfold kV; rw [if_neg (by omega), if_pos e]; exact h1
      · unfold ntB wr shf
        rw [if_pos rfl, if_neg (by omega), if_pos (by omega), ← h3 k hk]
        exact congrArg f (by omega)
    · refine ⟨n, C, T, B, A, J, S, ?_, hC, fun k hk => ?_⟩
      · unfold kV; rw [if_neg (by omega), if_neg e]
      · unfold ntB wr
        rw [if_pos rfl, if_pos (by omega), show 62 * i + k - 310 = k by omega]
  · rw [if_pos (by omega)] at hi
    by_cases e : i = um
    · refine ⟨n, C, T, B, A, J, S, ?_, hC, fun k hk => ?_⟩
      · unfold kV; rw [if_pos (by omega)]; show (if i = um then _ else V i) = _; rw [if_pos e]
      · unfold ntB wr
        rw [if_neg w, if_pos (by omega), show 62 * i + k - 62 * um = k by rw [e]; omega]
    · obtain ⟨n', C', T', B', A', J', S', h1, h2, h3⟩ := hb i (by omega)
      refine ⟨n', C', T', B', A', J', S', ?_, h2, fun k hk => ?_⟩
      · unfold kV; rw [if_pos (by omega)]; show (if i = um then _ else V i) = _; rw [if_neg e]; exact h1
      · unfold ntB wr
        rw [if_neg w, if_neg (by omega)]
        exact h3 k hk
