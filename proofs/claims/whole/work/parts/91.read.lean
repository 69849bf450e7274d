/-! READING A TEXT: both ways are one. -/
/-- figures from x on, at most k: where they end, and the number -/
def mn (L : Nat → Nat) (len : Nat) : Nat → Nat → Nat → Nat × Nat
  | 0, x, v => (x, v)
  | k + 1, x, v => if x < len ∧ 48 ≤ L x ∧ L x ≤ 57 then mn L len k (x + 1) (10 * v + (L x - 48)) else (x, v)
section RD
variable {L : Nat → Nat} {len : Nat}
theorem mn_spec : ∀ k x v, x ≤ len → x ≤ (mn L len k x v).1 ∧ (mn L len k x v).1 ≤ x + k ∧ (mn L len k x v).1 ≤ len ∧ fgn L ((mn L len k x v).1 - x) x v = some (mn L len k x v).2 ∧ ∀ y, x ≤ y → y < (mn L len k x v).1 → 48 ≤ L y ∧ L y ≤ 57 := by
  intro k
  induction k with
  | zero =>
    intro x v hx
    refine ⟨Nat.le_refl _, Nat.le_refl _, hx, ?_, fun y h1 h2 => ?_⟩
    · show fgn L (x - x) x v = some v
      rw [Nat.sub_self]; rfl
    · have : y < x := h2
      omega
  | succ k ih =>
    intro x v hx
    simp only [mn]
    by_cases w : x < len ∧ 48 ≤ L x ∧ L x ≤ 57
    · rw [if_pos w]
      obtain ⟨a1, a2, a3, a4, a5⟩ := ih (x + 1) (10 * v + (L x - 48)) (by omega)
      refine ⟨by omega, by omega, a3, ?_, fun y h1 h2 => ?_⟩
      · obtain ⟨d, hd⟩ : ∃ d, (mn L len k (x + 1) (10 * v + (L x - 48))).1 - x = d + 1 := ⟨(mn L len k (x + 1) (10 * v + (L x - 48))).1 - (x + 1), by omega⟩
        rw [hd]
        simp only [fgn]
        rw [if_pos w.2, show d = (mn L len k (x + 1) (10 * v + (L x - 48))).1 - (x + 1) by omega]
        exact a4
      · by_cases e : y = x
        · rw [e]; exact w.2
        · exact a5 y (by omega) h2
    · rw [if_neg w]
      refine ⟨Nat.le_refl _, by omega, hx, ?_, fun y h1 h2 => ?_⟩
      · show fgn L (x - x) x v = some v
        rw [Nat.sub_self]; rfl
      · have : y < x := h2
        omega
theorem mn_fgn : ∀ j k x v w, fgn L j x v = some w → j ≤ k → x + j < len → ¬ (48 ≤ L (x + j) ∧ L (x + j) ≤ 57) → mn L len k x v = (x + j, w) := by
  intro j
  induction j with
  | zero =>
    intro k x v w h h1 h2 h3
    have : v = w := by simpa [fgn] using h
    subst this
    cases k with
    | zero => rfl
    | succ k => simp only [mn]; rw [if_neg (fun q => h3 q.2)]; rfl
  | succ j ih =>
    intro k x v w h h1 h2 h3
    simp only [fgn] at h
    by_cases q : 48 ≤ L x ∧ L x ≤ 57
    · rw [if_pos q] at h
      obtain ⟨k', rfl⟩ : ∃ k', k = k' + 1 := ⟨k - 1, by omega⟩
      simp only [mn]
      rw [if_pos ⟨by omega, q⟩, ih k' (x + 1) _ w h (by omega) (by omega) (by rw [show x + 1 + j = x + (j + 1) by omega]; exact h3), show x + 1 + j = x + (j + 1) by omega]
    · rw [if_neg q] at h; cases h
theorem eoi_first {s : Nat} (hs : s < len) (h59 : L s = 59) : ∀ k x, x + k = len → x ≤ s → (∀ y, x ≤ y → y < s → ¬ L y = 59) → eoi L len k x = s := by
  intro k
  induction k with
  | zero => intro x h1 h2 _; omega
  | succ k ih =>
    intro x h1 h2 h3
    simp only [eoi]
    rw [if_neg (by omega)]
    by_cases w : x = s
    · rw [w, if_pos h59]
    · rw [if_neg (h3 x (Nat.le_refl _) (by omega))]
      exact ih (x + 1) (by omega) (by omega) (fun y h4 h5 => h3 y (by omega) h5)
theorem eoi_is : ∀ k x, x + k = len → eoi L len k x < len → L (eoi L len k x) = 59 := by
  intro k
  induction k with
  | zero => intro x h1 h2; simp only [eoi] at h2; omega
  | succ k ih =>
    intro x h1 h2
    simp only [eoi] at h2 ⊢
    rw [if_neg (show ¬ len ≤ x by omega)] at h2 ⊢
    by_cases w : L x = 59
    · rw [if_pos w]; exact w
    · rw [if_neg w] at h2 ⊢
      exact ih (x + 1) (by omega) h2
/-- the model's item at x: what is read, and where it ends -/
def mIt (L : Nat → Nat) (len x : Nat) (v : pv) : Option (pv × Nat) :=
  if x = 0 then (if L 0 = 99 ∧ 1 < (mn L len 3 1 0).1 ∧ 1 ≤ (mn L len 3 1 0).2 ∧ (mn L len 3 1 0).2 ≤ 120 then some (pvC v (nI (mn L len 3 1 0).2), (mn L len 3 1 0).1) else none)
  else if L x = 116 then (if x + 1 < (mn L len 2 (x + 1) 0).1 ∧ (1 ≤ (mn L len 2 (x + 1) 0).2 ∧ (mn L len 2 (x + 1) 0).2 ≤ 60) ∧ v.1 < 12 then some (pvT v (mn L len 2 (x + 1) 0).2, (mn L len 2 (x + 1) 0).1) else none)
  else if L x = 112 ∨ L x = 120 ∨ L x = 106 then (if x + 2 < len then (match itP L x v with
    | some w => some (w, x + 3)
    | none => none) else none)
  else none
theorem it_ok {x s : Nat} {v w : pv} (hx : x < len) (h : mIt L len x v = some (w, s)) (hs : s < len) (h59 : L s = 59) : eoi L len (len - x) x = s ∧ itC L x s v = some w := by
  unfold mIt at h
  by_cases w0 : x = 0
  · subst w0
    rw [if_pos rfl] at h
    by_cases q : L 0 = 99 ∧ 1 < (mn L len 3 1 0).1 ∧ 1 ≤ (mn L len 3 1 0).2 ∧ (mn L len 3 1 0).2 ≤ 120
    · rw [if_pos q] at h
      obtain ⟨a1, a2, a3, a4, a5⟩ := mn_spec (L := L) (len := len) 3 1 0 (by omega)
      obtain ⟨r, er⟩ : ∃ z, mn L len 3 1 0 = z := ⟨_, rfl⟩
      rw [er] at h q a1 a2 a3 a4 a5
      cases h
      refine ⟨eoi_first hs h59 _ 0 (by omega) (Nat.zero_le _) (fun y h1 h2 => ?_), ?_⟩
      · by_cases e : y = 0
        · rw [e, q.1]; omega
        · have := a5 y (by omega) h2; omega
      · unfold itC figs
        rw [if_pos rfl, if_pos q.1, if_pos ⟨by omega, by omega⟩, a4]
        show (if 1 ≤ r.2 ∧ r.2 ≤ 120 then some (pvC v (nI r.2)) else none) = _
        rw [if_pos q.2.2]
    · rw [if_neg q] at h; cases h
  · rw [if_neg w0] at h
    by_cases w1 : L x = 116
    · rw [if_pos w1] at h
      by_cases q : x + 1 < (mn L len 2 (x + 1) 0).1 ∧ (1 ≤ (mn L len 2 (x + 1) 0).2 ∧ (mn L len 2 (x + 1) 0).2 ≤ 60) ∧ v.1 < 12
      · rw [if_pos q] at h
        obtain ⟨a1, a2, a3, a4, a5⟩ := mn_spec (L := L) (len := len) 2 (x + 1) 0 (by omega)
        obtain ⟨r, er⟩ : ∃ z, mn L len 2 (x + 1) 0 = z := ⟨_, rfl⟩
        rw [er] at h q a1 a2 a3 a4 a5
        cases h
        refine ⟨eoi_first hs h59 _ x (by omega) (by omega) (fun y h1 h2 => ?_), ?_⟩
        · by_cases e : y = x
          · rw [e, w1]; omega
          · have := a5 y (by omega) h2; omega
        · unfold itC figs
          rw [if_neg w0, if_pos w1, if_pos ⟨by omega, by omega⟩, a4]
          show (if (1 ≤ r.2 ∧ r.2 ≤ 60) ∧ v.1 < 12 then some (pvT v r.2) else none) = _
          rw [if_pos q.2]
      · rw [if_neg q] at h; cases h
    · rw [if_neg w1] at h
      by_cases w2 : L x = 112 ∨ L x = 120 ∨ L x = 106
      · rw [if_pos w2] at h
        by_cases w3 : x + 2 < len
        · rw [if_pos w3] at h
          cases hi : itP L x v with
          | none => rw [hi] at h; cases h
          | some w' =>
            rw [hi] at h
            have h : some (w', x + 3) = some (w, s) := h
            cases h
            have hl : 97 ≤ L (x + 1) ∧ 97 ≤ L (x + 2) := by
              unfold itP at hi
              split at hi
              · rename_i q; exact ⟨q.1.1, q.2.1.1⟩
              · cases hi
            refine ⟨eoi_first hs h59 _ x (by omega) (by omega) (fun y h1 h2 => ?_), ?_⟩
            · rcases (show y = x ∨ y = x + 1 ∨ y = x + 2 by omega) with e | e | e <;> subst e <;> omega
            · unfold itC
              rw [if_neg w0, if_neg w1, if_pos ⟨w2, rfl⟩]; exact hi
        · rw [if_neg w3] at h; cases h
      · rw [if_neg w2] at h; cases h
theorem ok_it {x : Nat} {v w : pv} (hx : x < len) (he : eoi L len (len - x) x < len) (h : itC L x (eoi L len (len - x) x) v = some w) : mIt L len x v = some (w, eoi L len (len - x) x) := by
  have h59 := eoi_is (L := L) (len - x) x (by omega) he
  obtain ⟨e, ee⟩ : ∃ z, eoi L len (len - x) x = z := ⟨_, rfl⟩
  rw [ee] at he h h59 ⊢
  unfold itC at h
  unfold mIt
  by_cases w0 : x = 0
  · subst w0
    rw [if_pos rfl] at h ⊢
    by_cases w1 : L 0 = 99
    · rw [if_pos w1] at h
      cases hf : figs L 1 e 3 with
      | none => rw [hf] at h; cases h
      | some k =>
        rw [hf] at h
        have h : (if 1 ≤ k ∧ k ≤ 120 then some (pvC v (nI k)) else none) = some w := h
        by_cases w2 : 1 ≤ k ∧ k ≤ 120
        · rw [if_pos w2] at h
          cases h
          unfold figs at hf
          by_cases w3 : 1 ≤ e - 1 ∧ e - 1 ≤ 3
          · rw [if_pos w3] at hf
            have := mn_fgn (len := len) (e - 1) 3 1 0 k hf (by omega) (by omega) (by rw [show 1 + (e - 1) = e by omega, h59]; omega)
            rw [show 1 + (e - 1) = e by omega] at this
            rw [this, if_pos ⟨w1, by omega, w2⟩]
          · rw [if_neg w3] at hf; cases hf
        · rw [if_neg w2] at h; cases h
    · rw [if_neg w1] at h; cases h
  · rw [if_neg w0] at h ⊢
    by_cases w1 : L x = 116
    · rw [if_pos w1] at h ⊢
      cases hf : figs L (x + 1) e 2 with
      | none => rw [hf] at h; cases h
      | some k =>
        rw [hf] at h
        have h : (if (1 ≤ k ∧ k ≤ 60) ∧ v.1 < 12 then some (pvT v k) else none) = some w := h
        by_cases w2 : (1 ≤ k ∧ k ≤ 60) ∧ v.1 < 12
        · rw [if_pos w2] at h
          cases h
          unfold figs at hf
          by_cases w3 : 1 ≤ e - (x + 1) ∧ e - (x + 1) ≤ 2
          · rw [if_pos w3] at hf
            have := mn_fgn (len := len) (e - (x + 1)) 2 (x + 1) 0 k hf (by omega) (by omega) (by rw [show x + 1 + (e - (x + 1)) = e by omega, h59]; omega)
            rw [show x + 1 + (e - (x + 1)) = e by omega] at this
            rw [this, if_pos ⟨by omega, w2⟩]
          · rw [if_neg w3] at hf; cases hf
        · rw [if_neg w2] at h; cases h
    · rw [if_neg w1] at h ⊢
      by_cases w2 : (L x = 112 ∨ L x = 120 ∨ L x = 106) ∧ e = x + 3
      · rw [if_pos w2] at h
        rw [if_pos w2.1, if_pos (by omega), h, w2.2]
      · rw [if_neg w2] at h; cases h
/-- the text, item by item -/
theorem rdC_eq {k x : Nat} {v : pv} : rdC L len (k + 1) x v = if len ≤ x then (none, v) else match mIt L len x v with
    | some (w, s) => if s < len ∧ L s = 59 then rdC L len k (s + 1) w else (some x, v)
    | none => (some x, v) := by
  simp only [rdC]
  by_cases w0 : len ≤ x
  · rw [if_pos w0, if_pos w0]
  · rw [if_neg w0, if_neg w0]
    by_cases we : len ≤ eoi L len (len - x) x
    · rw [if_pos we]
      cases hm : mIt L len x v with
      | none => rfl
      | some p =>
        obtain ⟨w, s⟩ := p
        show _ = if s < len ∧ L s = 59 then _ else _
        rw [if_neg]
        intro q
        have := (it_ok (by omega) hm q.1 q.2).1
        omega
    · rw [if_neg we]
      cases hi : itC L x (eoi L len (len - x) x) v with
      | some w =>
        have := ok_it (by omega) (by omega) hi
        rw [this]
        show _ = if _ ∧ _ then _ else _
        rw [if_pos ⟨by omega, eoi_is _ _ (by omega) (by omega)⟩]
      | none =>
        cases hm : mIt L len x v with
        | none => rfl
        | some p =>
          obtain ⟨w, s⟩ := p
          show _ = if s < len ∧ L s = 59 then _ else _
          rw [if_neg]
          intro q
          obtain ⟨a1, a2⟩ := it_ok (by omega) hm q.1 q.2
          rw [a1, a2] at hi
          cases hi
/-- letters below the end alone -/
theorem mn_c {L' : Nat → Nat} (h : ∀ j, j < len → L j = L' j) : ∀ k x v, mn L len k x v = mn L' len k x v := by
  intro k
  induction k with
  | zero => intro x v; rfl
  | succ k ih =>
    intro x v
    simp only [mn]
    by_cases w : x < len
    · rw [h x w, ih]
    · rw [if_neg (fun q => w q.1), if_neg (fun q => w q.1)]
theorem mIt_c {L' : Nat → Nat} (h : ∀ j, j < len → L j = L' j) {x : Nat} {v : pv} (hx : x < len) : mIt L len x v = mIt L' len x v := by
  unfold mIt
  rw [mn_c h, mn_c h, ← h x hx]
  by_cases w0 : x = 0
  · subst w0
    rw [if_pos rfl, if_pos rfl, ← h 0 hx]
  · rw [if_neg w0, if_neg w0]
    by_cases w1 : L x = 116
    · rw [if_pos w1, if_pos w1]
    · rw [if_neg w1, if_neg w1]
      by_cases w3 : x + 2 < len
      · have : itP L x v = itP L' x v := by
          unfold itP
          rw [h x hx, h (x + 1) (by omega), h (x + 2) w3]
        rw [this]
      · rw [if_neg w3, if_neg w3]
theorem rdC_c {L' : Nat → Nat} (h : ∀ j, j < len → L j = L' j) : ∀ k x v, rdC L len k x v = rdC L' len k x v := by
  intro k
  induction k with
  | zero => intro x v; rfl
  | succ k ih =>
    intro x v
    rw [rdC_eq, rdC_eq]
    by_cases w0 : len ≤ x
    · rw [if_pos w0, if_pos w0]
    · rw [if_neg w0, if_neg w0, mIt_c h (by omega)]
      cases mIt L' len x v with
      | none => rfl
      | some p =>
        obtain ⟨w, s⟩ := p
        show (if s < len ∧ L s = 59 then _ else _) = if s < len ∧ L' s = 59 then _ else _
        by_cases q : s < len
        · rw [h s q, ih]
        · rw [if_neg (fun z => q z.1), if_neg (fun z => q z.1)]
end RD
