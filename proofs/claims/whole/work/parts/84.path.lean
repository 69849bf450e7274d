/-! LINES AS WAYS: what is done behind each station. -/
def pth (W : Nat) (ne D : Nat → Nat) (i j : Nat) : Prop := ∀ k, i ≤ k → k < j → ∃ s, ed W ne (D k) s ∧ D (k + 1) = D k ||| s
/-- a line of K stations, none empty -/
def bln (W : Nat) (ne : Nat → Nat) (K : Nat) (D : Nat → Nat) : Prop := D 0 = 0 ∧ D K = W ∧ pth W ne D 0 K
section PA
variable {W : Nat} {ne : Nat → Nat}
theorem go_fwd : ∀ j k d, go W ne j d → fwd W 0 (fun _ => 0) ne j k d := by
  intro j
  induction j with
  | zero => intro k d h; exact h
  | succ j ih =>
    rintro k d (h | ⟨s, h1, h2⟩)
    · exact Or.inl ⟨ih (k + 1) d h, rfl⟩
    · exact Or.inr ⟨s, h1, Nat.and_zero _, ih (k + 1) _ h2⟩
theorem rch_path : ∀ k d, rch W 0 (fun _ => 0) ne k d → ∃ i, i ≤ k ∧ ∃ D, D 0 = 0 ∧ D i = d ∧ pth W ne D 0 i := by
  intro k
  induction k with
  | zero => intro d h; exact ⟨0, Nat.le_refl _, fun _ => 0, rfl, (show d = 0 from h).symm, fun k _ h => by omega⟩
  | succ k ih =>
    rintro d (⟨h, -⟩ | ⟨e, s, h1, h2, -, h4⟩)
    · obtain ⟨i, i1, i2⟩ := ih d h
      exact ⟨i, by omega, i2⟩
    · obtain ⟨i, i1, D, d1, d2, d3⟩ := ih e h1
      refine ⟨i + 1, by omega, va_up D (i + 1) d, by rw [up_ne (by omega)]; exact d1, up_eq, fun k k1 k2 => ?_⟩
      by_cases w : k = i
      · subst w
        exact ⟨s, by rw [up_ne (by omega), d2]; exact h2, by rw [up_eq, up_ne (by omega), d2]; exact h4⟩
      · rw [up_ne (by omega), up_ne (by omega)]
        exact d3 k k1 (by omega)
theorem go_path : ∀ j d, go W ne j d → ∃ i, i ≤ j ∧ ∃ D, D 0 = d ∧ D i = W ∧ pth W ne D 0 i := by
  intro j
  induction j with
  | zero => intro d h; exact ⟨0, Nat.le_refl _, fun _ => d, rfl, h, fun k _ h => by omega⟩
  | succ j ih =>
    rintro d (h | ⟨s, h1, h2⟩)
    · obtain ⟨i, i1, i2⟩ := ih d h
      exact ⟨i, by omega, i2⟩
    · obtain ⟨i, i1, D, d1, d2, d3⟩ := ih _ h2
      refine ⟨i + 1, by omega, fun k => if k = 0 then d else D (k - 1), if_pos rfl, by show (if i + 1 = 0 then d else D (i + 1 - 1)) = W; rw [if_neg (by omega), Nat.add_sub_cancel]; exact d2, fun k k1 k2 => ?_⟩
      show ∃ s, ed W ne (if k = 0 then d else D (k - 1)) s ∧ (if k + 1 = 0 then d else D (k + 1 - 1)) = (if k = 0 then d else D (k - 1)) ||| s
      rw [if_neg (show ¬ k + 1 = 0 by omega), Nat.add_sub_cancel]
      by_cases w : k = 0
      · rw [if_pos w, w, d1]; exact ⟨s, h1, rfl⟩
      · rw [if_neg w]
        have := d3 (k - 1) (by omega) (by omega)
        rw [show k - 1 + 1 = k by omega] at this
        exact this
theorem path_rch {D : Nat → Nat} (h0 : D 0 = 0) : ∀ k, pth W ne D 0 k → rch W 0 (fun _ => 0) ne k (D k) := by
  intro k
  induction k with
  | zero => intro _; exact h0
  | succ k ih =>
    intro h
    obtain ⟨s, s1, s2⟩ := h k (by omega) (by omega)
    exact Or.inr ⟨D k, s, ih (fun j j1 j2 => h j j1 (by omega)), s1, Nat.and_zero _, s2⟩
theorem path_go {D : Nat → Nat} : ∀ x i, pth W ne D i (i + x) → D (i + x) = W → go W ne x (D i) := by
  intro x
  induction x with
  | zero => intro i _ h; exact h
  | succ x ih =>
    intro i h h2
    obtain ⟨s, s1, s2⟩ := h i (by omega) (by omega)
    have := ih (i + 1) (fun k k1 k2 => h k (by omega) (by omega)) (by rw [show i + 1 + x = i + (x + 1) by omega]; exact h2)
    rw [s2] at this
    exact Or.inr ⟨s, s1, this⟩
theorem path_cat {D1 D2 : Nat → Nat} {i j d : Nat} (a0 : D1 0 = 0) (a1 : D1 i = d) (a2 : pth W ne D1 0 i) (b0 : D2 0 = d) (b1 : D2 j = W) (b2 : pth W ne D2 0 j) : bln W ne (i + j) (fun k => if k ≤ i then D1 k else D2 (k - i)) := by
  refine ⟨by show (if 0 ≤ i then D1 0 else _) = 0; rw [if_pos (Nat.zero_le _)]; exact a0, ?_, fun k _ hk => ?_⟩
  · show (if i + j ≤ i then D1 (i + j) else D2 (i + j - i)) = W
    by_cases w : j = 0
    · subst w
      rw [if_pos (by omega)]
      show D1 i = W
      rw [a1, ← b0]; exact b1
    · rw [if_neg (by omega), Nat.add_sub_cancel_left]; exact b1
  · show ∃ s, ed W ne (if k ≤ i then D1 k else D2 (k - i)) s ∧ (if k + 1 ≤ i then D1 (k + 1) else D2 (k + 1 - i)) = (if k ≤ i then D1 k else D2 (k - i)) ||| s
    by_cases w : k + 1 ≤ i
    · rw [if_pos w, if_pos (by omega)]
      exact a2 k (Nat.zero_le _) (by omega)
    · rw [if_neg w]
      by_cases w2 : k = i
      · subst w2
        rw [if_pos (Nat.le_refl _), a1, ← b0, show k + 1 - k = 0 + 1 by omega]
        exact b2 0 (Nat.le_refl _) (by omega)
      · rw [if_neg (by omega), show k + 1 - i = k - i + 1 by omega]
        exact b2 (k - i) (Nat.zero_le _) (by omega)
theorem pth_sub {D : Nat → Nat} {i j : Nat} (h : pth W ne D i j) : ∀ x, i + x ≤ j → sub (D i) (D (i + x)) := by
  intro x
  induction x with
  | zero => intro _; exact sub_rfl _
  | succ x ih =>
    intro hx
    obtain ⟨s, -, s2⟩ := h (i + x) (by omega) (by omega)
    have : D (i + (x + 1)) = D (i + x) ||| s := s2
    rw [this]
    exact sub_trans (ih (by omega)) (sub_or_l _ _)
theorem bln_sub {D : Nat → Nat} {K i j : Nat} (h : bln W ne K D) (hi : i ≤ j) (hj : j ≤ K) : sub (D i) (D j) := by
  have : pth W ne D i K := fun k k1 k2 => h.2.2 k (Nat.zero_le _) k2
  have := pth_sub this (j - i) (by omega)
  rwa [show i + (j - i) = j by omega] at this
end PA
section BE
variable {n K : Nat} {ne l R D : Nat → Nat}
/-- K is the fewest -/
def isK (W : Nat) (ne : Nat → Nat) (K : Nat) : Prop := go W ne K 0 ∧ ∀ j, go W ne j 0 → K ≤ j
theorem bln_go (h : bln (2 ^ n - 1) ne K D) {k : Nat} (hk : k ≤ K) : go (2 ^ n - 1) ne (K - k) (D k) ∧ rch (2 ^ n - 1) 0 (fun _ => 0) ne k (D k) ∧ D k ≤ 2 ^ n - 1 := by
  have a1 := path_rch h.1 k (fun j j1 j2 => h.2.2 j j1 (by omega))
  refine ⟨path_go (K - k) k (fun j j1 j2 => h.2.2 j (by omega) (by omega)) (by rw [show k + (K - k) = K by omega]; exact h.2.1), a1, sub_le (rch_sub k _ a1)⟩
theorem bln_R (hK : isK (2 ^ n - 1) ne K) (hR : ∀ d, d ≤ 2 ^ n - 1 → rOk n (2 ^ n - 1) ne d (R d)) (h : bln (2 ^ n - 1) ne K D) {k : Nat} (hk : k ≤ K) : R (D k) = K - k := by
  obtain ⟨a1, a2, a3⟩ := bln_go h hk
  rcases hR _ a3 with ⟨-, q⟩ | ⟨-, q2, q3⟩
  · exact absurd a1 (q _)
  · have b1 := q3 _ a1
    have b2 := hK.2 _ (rch_go k _ _ a2 q2)
    omega
theorem bln_l (hK : isK (2 ^ n - 1) ne K) (hK12 : K ≤ 12) (hl : lvG (2 ^ n - 1) 0 (fun _ => 0) ne l K) (h : bln (2 ^ n - 1) ne K D) {k : Nat} (hk : k ≤ K) : l (D k) = k := by
  obtain ⟨a1, a2, a3⟩ := bln_go h hk
  have b1 := hl.2.2.2 k (D k) (K - k) a2 (go_fwd _ k _ a1) (by omega)
  have b2 := (hl.2.1 (D k) (by omega)).1
  have b3 := hK.2 _ (rch_go _ _ _ b2 a1)
  omega
/-- on a best line -/
theorem on_bln (hK : isK (2 ^ n - 1) ne K) (hl : lvG (2 ^ n - 1) 0 (fun _ => 0) ne l K) {e j : Nat} (h1 : l e < 1000) (h2 : go (2 ^ n - 1) ne j e) (h3 : l e + j ≤ K) : ∃ D, bln (2 ^ n - 1) ne K D ∧ D (l e) = e := by
  obtain ⟨i, i1, D1, a0, a1, a2⟩ := rch_path _ _ (hl.2.1 e h1).1
  obtain ⟨x, x1, D2, b0, b1, b2⟩ := go_path _ _ h2
  have hb := path_cat a0 a1 a2 b0 b1 b2
  have := path_rch (D := fun k => if k ≤ i then D1 k else D2 (k - i)) hb.1 _ hb.2.2
  have hW : (if i + x ≤ i then D1 (i + x) else D2 (i + x - i)) = 2 ^ n - 1 := hb.2.1
  rw [hW] at this
  have := hK.2 _ (lin_go.mp this)
  have e1 : i = l e := by omega
  have e2 : i + x = K := by omega
  rw [e2] at hb
  refine ⟨_, hb, ?_⟩
  show (if l e ≤ i then D1 (l e) else D2 (l e - i)) = e
  rw [if_pos (by omega), ← e1]; exact a1
end BE
/-- sums -/
def nsum (f : Nat → Nat) : Nat → Nat
  | 0 => 0
  | k + 1 => nsum f k + f k
theorem nsum_c {f g : Nat → Nat} : ∀ m, (∀ x, x < m → f x = g x) → nsum f m = nsum g m := by
  intro m
  induction m with
  | zero => intro _; rfl
  | succ m ih => intro h; simp only [nsum]; rw [ih (fun x hx => h x (by omega)), h m (by omega)]
theorem nsum_one {f g : Nat → Nat} {x0 : Nat} : ∀ m, x0 < m → (∀ x, x < m → ¬ x = x0 → g x = f x) → f x0 = 0 → nsum g m = nsum f m + g x0 := by
  intro m
  induction m with
  | zero => intro h; omega
  | succ m ih =>
    intro h h2 h3
    simp only [nsum]
    by_cases w : x0 = m
    · subst w
      rw [nsum_c x0 (fun x hx => h2 x (by omega) (by omega)), h3]
      omega
    · rw [ih (by omega) (fun x hx => h2 x (by omega)) h3, h2 m (by omega) (fun q => w q.symm)]
      omega
theorem nsum_0 {f : Nat → Nat} : ∀ m, (∀ x, x < m → f x = 0) → nsum f m = 0 := by
  intro m
  induction m with
  | zero => intro _; rfl
  | succ m ih => intro h; simp only [nsum]; rw [ih (fun x hx => h x (by omega)), h m (by omega)]
theorem nsum_pos {f : Nat → Nat} : ∀ m, 0 < nsum f m → ∃ x, x < m ∧ 0 < f x := by
  intro m
  induction m with
  | zero => intro h; exact absurd h (Nat.lt_irrefl 0)
  | succ m ih =>
    intro h
    simp only [nsum] at h
    by_cases w : 0 < nsum f m
    · obtain ⟨x, x1, x2⟩ := ih w
      exact ⟨x, by omega, x2⟩
    · exact ⟨m, by omega, by omega⟩
theorem nsum_ge {f : Nat → Nat} {x : Nat} : ∀ m, x < m → f x ≤ nsum f m := by
  intro m
  induction m with
  | zero => intro h; omega
  | succ m ih =>
    intro h
    simp only [nsum]
    by_cases w : x = m
    · subst w; omega
    · have := ih (by omega); omega
