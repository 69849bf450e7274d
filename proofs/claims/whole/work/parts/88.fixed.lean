/-! LINES WITH SOME TASKS FIXED. -/
/-- a step of a best line by which what is fixed is there -/
def EB (n : Nat) (ne R f : Nat → Nat) (F d s : Nat) : Prop := ed (2 ^ n - 1) ne d s ∧ R (d ||| s) + 1 = R d ∧ R d < 100 ∧ ∀ x, x < n → F.testBit x = true → (s.testBit x = true ↔ f x + R d = R 0 + 1)
def gq (n : Nat) (ne R f : Nat → Nat) (F : Nat) : Nat → Nat → Prop
  | 0, d => d = 2 ^ n - 1
  | j + 1, d => ∃ s, EB n ne R f F d s ∧ gq n ne R f F j (d ||| s)
/-- leads to the end -/
def Ld (n : Nat) (ne R f : Nat → Nat) (F d : Nat) : Prop := ∃ j, gq n ne R f F j d
def uq (n : Nat) (ne R f : Nat → Nat) (F : Nat) : Nat → Nat → Prop
  | 0, e => e = 0
  | k + 1, e => ∃ d s, uq n ne R f F k d ∧ Ld n ne R f F d ∧ EB n ne R f F d s ∧ Ld n ne R f F (d ||| s) ∧ e = d ||| s
/-- comes from the start, by such as lead to the end -/
def Cm (n : Nat) (ne R f : Nat → Nat) (F e : Nat) : Prop := ∃ k, uq n ne R f F k e
/-- what is fixed is where it is fixed -/
def csn (n K F : Nat) (f D : Nat → Nat) : Prop := ∀ x, x < n → F.testBit x = true → ∀ i, i < K → ((sdf (D (i + 1)) (D i)).testBit x = true ↔ f x = i + 1)
section FX
variable {n K F : Nat} {ne R f D : Nat → Nat}
theorem Ld_W : Ld n ne R f F (2 ^ n - 1) := ⟨0, rfl⟩
theorem Ld_iff {d : Nat} (hd : ¬ d = 2 ^ n - 1) : Ld n ne R f F d ↔ ∃ s, EB n ne R f F d s ∧ Ld n ne R f F (d ||| s) := by
  constructor
  · rintro ⟨j, hj⟩
    cases j with
    | zero => exact absurd hj hd
    | succ j =>
      obtain ⟨s, s1, s2⟩ := hj
      exact ⟨s, s1, j, s2⟩
  · rintro ⟨s, s1, j, s2⟩
    exact ⟨j + 1, s, s1, s2⟩
theorem Cm_iff {e : Nat} : Cm n ne R f F e ↔ e = 0 ∨ ∃ d s, Cm n ne R f F d ∧ Ld n ne R f F d ∧ EB n ne R f F d s ∧ Ld n ne R f F (d ||| s) ∧ e = d ||| s := by
  constructor
  · rintro ⟨k, hk⟩
    cases k with
    | zero => exact Or.inl hk
    | succ k =>
      obtain ⟨d, s, s1, s2⟩ := hk
      exact Or.inr ⟨d, s, ⟨k, s1⟩, s2⟩
  · rintro (h | ⟨d, s, ⟨k, s1⟩, s2⟩)
    · exact ⟨0, h⟩
    · exact ⟨k + 1, d, s, s1, s2⟩
theorem R_W (hR : ∀ d, d ≤ 2 ^ n - 1 → rOk n (2 ^ n - 1) ne d (R d)) : R (2 ^ n - 1) = 0 := by
  rcases hR _ (Nat.le_refl _) with ⟨-, q⟩ | ⟨-, -, q⟩
  · exact absurd (show go (2 ^ n - 1) ne 0 (2 ^ n - 1) from rfl) (q 0)
  · have := q 0 rfl; omega
theorem gq_R (hR : ∀ d, d ≤ 2 ^ n - 1 → rOk n (2 ^ n - 1) ne d (R d)) : ∀ j d, gq n ne R f F j d → R d = j := by
  intro j
  induction j with
  | zero => intro d h; rw [show d = 2 ^ n - 1 from h]; exact R_W hR
  | succ j ih =>
    rintro d ⟨s, s1, s2⟩
    have := ih _ s2
    have := s1.2.1
    omega
theorem uq_R : ∀ k e, uq n ne R f F k e → R e + k = R 0 := by
  intro k
  induction k with
  | zero => intro e h; rw [show e = 0 from h]; rfl
  | succ k ih =>
    rintro e ⟨d, s, s1, -, s3, -, rfl⟩
    have := ih d s1
    have := s3.2.1
    omega
theorem uq_path : ∀ k e, uq n ne R f F k e → ∃ D : Nat → Nat, D 0 = 0 ∧ D k = e ∧ ∀ i, i < k → ∃ s, EB n ne R f F (D i) s ∧ D (i + 1) = D i ||| s := by
  intro k
  induction k with
  | zero => intro e h; exact ⟨fun _ => 0, rfl, (show e = 0 from h).symm, fun i hi => by omega⟩
  | succ k ih =>
    rintro e ⟨d, s, s1, -, s3, -, s5⟩
    obtain ⟨D, d1, d2, d3⟩ := ih d s1
    refine ⟨va_up D (k + 1) e, by rw [up_ne (by omega)]; exact d1, up_eq, fun i hi => ?_⟩
    by_cases w : i = k
    · subst w
      exact ⟨s, by rw [up_ne (by omega), d2]; exact s3, by rw [up_eq, up_ne (by omega), d2]; exact s5⟩
    · rw [up_ne (by omega), up_ne (by omega)]
      exact d3 i (by omega)
theorem gq_path : ∀ j d, gq n ne R f F j d → ∃ D : Nat → Nat, D 0 = d ∧ D j = 2 ^ n - 1 ∧ ∀ i, i < j → ∃ s, EB n ne R f F (D i) s ∧ D (i + 1) = D i ||| s := by
  intro j
  induction j with
  | zero => intro d h; exact ⟨fun _ => d, rfl, h, fun i hi => by omega⟩
  | succ j ih =>
    rintro d ⟨s, s1, s2⟩
    obtain ⟨D, d1, d2, d3⟩ := ih _ s2
    refine ⟨fun k => if k = 0 then d else D (k - 1), if_pos rfl, by show (if j + 1 = 0 then d else D (j + 1 - 1)) = _; rw [if_neg (by omega), Nat.add_sub_cancel]; exact d2, fun k hk => ?_⟩
    show ∃ s, EB n ne R f F (if k = 0 then d else D (k - 1)) s ∧ (if k + 1 = 0 then d else D (k + 1 - 1)) = (if k = 0 then d else D (k - 1)) ||| s
    rw [if_neg (show ¬ k + 1 = 0 by omega), Nat.add_sub_cancel]
    by_cases w : k = 0
    · rw [if_pos w, w, d1]; exact ⟨s, s1, rfl⟩
    · rw [if_neg w]
      have := d3 (k - 1) (by omega)
      rw [show k - 1 + 1 = k by omega] at this
      exact this
/-- a way of such steps is a line by which what is fixed is there -/
theorem eb_line (hR : ∀ d, d ≤ 2 ^ n - 1 → rOk n (2 ^ n - 1) ne d (R d)) (hK : R 0 = K) (d0 : D 0 = 0) (dK : D K = 2 ^ n - 1) (hs : ∀ i, i < K → ∃ s, EB n ne R f F (D i) s ∧ D (i + 1) = D i ||| s) : bln (2 ^ n - 1) ne K D ∧ csn n K F f D := by
  have hRi : ∀ i, i ≤ K → R (D i) + i = K := by
    intro i
    induction i with
    | zero => intro _; rw [d0]; exact hK
    | succ i ih =>
      intro hi
      obtain ⟨s, s1, s2⟩ := hs i (by omega)
      have := ih (by omega)
      have := s1.2.1
      rw [← s2] at this
      omega
  refine ⟨⟨d0, dK, fun i _ hi => ?_⟩, fun x hx hF i hi => ?_⟩
  · obtain ⟨s, s1, s2⟩ := hs i hi
    exact ⟨s, s1.1, s2⟩
  · obtain ⟨s, s1, s2⟩ := hs i hi
    have e : sdf (D (i + 1)) (D i) = s := by rw [s2]; exact sdf_or s1.1.2.1
    rw [e, s1.2.2.2 x hx hF]
    have := hRi i (by omega)
    omega
theorem line_eb (hR : ∀ d, d ≤ 2 ^ n - 1 → rOk n (2 ^ n - 1) ne d (R d)) (hiK : isK (2 ^ n - 1) ne K) (hK12 : K ≤ 12) (hK : R 0 = K) (h1 : bln (2 ^ n - 1) ne K D) (h2 : csn n K F f D) : ∀ i, i < K → ∃ s, EB n ne R f F (D i) s ∧ D (i + 1) = D i ||| s := by
  intro i hi
  obtain ⟨s, s1, s2⟩ := h1.2.2 i (Nat.zero_le _) hi
  have r1 := bln_R hiK hR h1 (show i ≤ K by omega)
  have r2 := bln_R hiK hR h1 (show i + 1 ≤ K by omega)
  have e : sdf (D (i + 1)) (D i) = s := by rw [s2]; exact sdf_or s1.2.1
  refine ⟨s, ⟨s1, by rw [← s2, r1, r2]; omega, by omega, fun x hx hF => ?_⟩, s2⟩
  rw [← e, h2 x hx hF i hi, r1]
  omega
theorem st_line (hR : ∀ d, d ≤ 2 ^ n - 1 → rOk n (2 ^ n - 1) ne d (R d)) (hiK : isK (2 ^ n - 1) ne K) (hK12 : K ≤ 12) (hK : R 0 = K) (t k : Nat) : (∃ d s, Cm n ne R f F d ∧ Ld n ne R f F d ∧ EB n ne R f F d s ∧ Ld n ne R f F (d ||| s) ∧ s.testBit t = true ∧ k = R 0 - R d + 1) ↔ ∃ D i, bln (2 ^ n - 1) ne K D ∧ csn n K F f D ∧ i < K ∧ k = i + 1 ∧ (sdf (D (i + 1)) (D i)).testBit t = true := by
  constructor
  · rintro ⟨d, s, ⟨i, c1⟩, -, e1, ⟨j, l1⟩, t1, rfl⟩
    obtain ⟨D1, a1, a2, a3⟩ := uq_path _ _ c1
    obtain ⟨D2, b1, b2, b3⟩ := gq_path _ _ l1
    have ri := uq_R _ _ c1
    have rj := gq_R hR _ _ l1
    have rs := e1.2.1
    have eK : K = i + 1 + j := by omega
    have dd : ∀ y, i < y → ¬ y ≤ i := fun y hy => by omega
    obtain ⟨b, c⟩ := eb_line (D := fun y => if y ≤ i then D1 y else D2 (y - (i + 1))) (f := f) (F := F) hR hK (by show (if 0 ≤ i then D1 0 else _) = 0; rw [if_pos (Nat.zero_le _)]; exact a1) (by show (if K ≤ i then _ else D2 (K - (i + 1))) = _; rw [if_neg (by omega), show K - (i + 1) = j by omega]; exact b2) (fun y hy => by
      show ∃ s, EB n ne R f F (if y ≤ i then D1 y else D2 (y - (i + 1))) s ∧ (if y + 1 ≤ i then D1 (y + 1) else D2 (y + 1 - (i + 1))) = (if y ≤ i then D1 y else D2 (y - (i + 1))) ||| s
      by_cases w : y + 1 ≤ i
      · rw [if_pos w, if_pos (by omega)]
        exact a3 y (by omega)
      · rw [if_neg w]
        by_cases w2 : y = i
        · subst w2
          rw [if_pos (Nat.le_refl _), a2, Nat.sub_self, b1]
          exact ⟨s, e1, rfl⟩
        · rw [if_neg (by omega), show y + 1 - (i + 1) = y - (i + 1) + 1 by omega]
          exact b3 (y - (i + 1)) (by omega))
    refine ⟨_, i, b, c, by omega, by omega, ?_⟩
    show (sdf (if i + 1 ≤ i then D1 (i + 1) else D2 (i + 1 - (i + 1))) (if i ≤ i then D1 i else D2 (i - (i + 1)))).testBit t = true
    rw [if_neg (by omega), if_pos (Nat.le_refl _), Nat.sub_self, b1, a2, sdf_or e1.1.2.1]
    exact t1
  · rintro ⟨D, i, h1, h2, h3, rfl, h5⟩
    have hs := line_eb hR hiK hK12 hK h1 h2
    have ld : ∀ x y, y + x = K → gq n ne R f F x (D y) := by
      intro x
      induction x with
      | zero => intro y hy; show D y = 2 ^ n - 1; rw [show y = K by omega]; exact h1.2.1
      | succ x ih =>
        intro y hy
        obtain ⟨s, s1, s2⟩ := hs y (by omega)
        exact ⟨s, s1, by rw [← s2]; exact ih (y + 1) (by omega)⟩
    have cm : ∀ y, y ≤ K → uq n ne R f F y (D y) := by
      intro y
      induction y with
      | zero => intro _; exact h1.1
      | succ y ih =>
        intro hy
        obtain ⟨s, s1, s2⟩ := hs y (by omega)
        exact ⟨D y, s, ih (by omega), ⟨_, ld (K - y) y (by omega)⟩, s1, by rw [← s2]; exact ⟨_, ld (K - (y + 1)) (y + 1) (by omega)⟩, s2⟩
    obtain ⟨s, s1, s2⟩ := hs i h3
    refine ⟨D i, s, ⟨i, cm i (by omega)⟩, ⟨_, ld (K - i) i (by omega)⟩, s1, by rw [← s2]; exact ⟨_, ld (K - (i + 1)) (i + 1) (by omega)⟩, ?_, ?_⟩
    · rw [s2, sdf_or s1.1.2.1] at h5; exact h5
    · have := uq_R _ _ (cm i (by omega))
      omega
/-- the least first: what is found task by task is what the least code tells -/
theorem dig_prefix {a b : Nat} (ha : a < 2 ^ 48) (hb : b < 2 ^ 48) : ∀ t, t ≤ 12 → (∀ x, x < t → a / 2 ^ (4 * (11 - x)) % 16 = b / 2 ^ (4 * (11 - x)) % 16) → a / 2 ^ (4 * (12 - t)) = b / 2 ^ (4 * (12 - t)) := by
  intro t
  induction t with
  | zero => intro _ _; rw [Nat.div_eq_of_lt ha, Nat.div_eq_of_lt hb]
  | succ t ih =>
    intro ht h
    have i1 := ih (by omega) (fun x hx => h x (by omega))
    have i2 := h t (by omega)
    have e : ∀ c : Nat, c / 2 ^ (4 * (12 - t)) = c / 2 ^ (4 * (11 - t)) / 16 := fun c => by
      rw [Nat.div_div_eq_div_mul, show 4 * (12 - t) = 4 * (11 - t) + 4 by omega, Nat.pow_add]
    rw [e, e] at i1
    rw [show 4 * (12 - (t + 1)) = 4 * (11 - t) by omega]
    omega
theorem dig_least {a b t : Nat} (ha : a < 2 ^ 48) (hb : b < 2 ^ 48) (ht : t < 12) (hab : b ≤ a) (h : ∀ x, x < t → a / 2 ^ (4 * (11 - x)) % 16 = b / 2 ^ (4 * (11 - x)) % 16) : b / 2 ^ (4 * (11 - t)) % 16 ≤ a / 2 ^ (4 * (11 - t)) % 16 := by
  have i1 := dig_prefix ha hb t (by omega) h
  have e : ∀ c : Nat, c / 2 ^ (4 * (12 - t)) = c / 2 ^ (4 * (11 - t)) / 16 := fun c => by
    rw [Nat.div_div_eq_div_mul, show 4 * (12 - t) = 4 * (11 - t) + 4 by omega, Nat.pow_add]
  rw [e, e] at i1
  have := Nat.div_le_div_right (c := 2 ^ (4 * (11 - t))) hab
  omega
end FX
