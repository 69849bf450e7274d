/-! CODES OF LINES. -/
theorem or_add : ∀ k a b, a < 2 ^ k → a &&& b = 0 → a ||| b = a + b := by
  intro k
  induction k with
  | zero =>
    intro a b h _
    have : a = 0 := by rw [Nat.pow_zero] at h; omega
    rw [this, Nat.zero_or, Nat.zero_add]
  | succ k ih =>
    intro a b h h2
    rw [Nat.pow_succ] at h
    have e1 : (a ||| b) / 2 = a / 2 + b / 2 := by
      rw [Nat.or_div_two]
      exact ih _ _ (by omega) (by rw [← Nat.and_div_two, h2])
    have i1 : (a ||| b) % 2 = 1 ↔ a % 2 = 1 ∨ b % 2 = 1 := by
      have := bit_or (a := a) (b := b) (i := 0)
      simpa only [Nat.testBit_zero, decide_eq_true_eq] using this
    have i2 : ¬ (a % 2 = 1 ∧ b % 2 = 1) := fun q => by
      have := and_0.mp h2 0
      simp only [Nat.testBit_zero, decide_eq_true_eq] at this
      exact this q.1 q.2
    omega
theorem or_mono {a b c : Nat} (h : a ≤ b) (h1 : a &&& c = 0) (h2 : b &&& c = 0) : a ||| c ≤ b ||| c := by
  have e1 := or_add b a c (Nat.lt_of_le_of_lt h Nat.lt_two_pow_self) h1
  have e2 := or_add b b c Nat.lt_two_pow_self h2
  omega
theorem spn15 (s : Nat) : ∀ n, n ≤ 12 → spn s n * 15 + 2 ^ (4 * (12 - n)) ≤ 2 ^ 48 := by
  intro n
  induction n with
  | zero => intro _; show 0 * 15 + 2 ^ 48 ≤ 2 ^ 48; omega
  | succ n ih =>
    intro hn
    have ih := ih (by omega)
    have e : spn s (n + 1) = spn s n + if s.testBit n then 2 ^ (4 * (11 - n)) else 0 := rfl
    have e2 : 2 ^ (4 * (12 - n)) = 16 * 2 ^ (4 * (11 - n)) := by
      rw [show 4 * (12 - n) = 4 * (11 - n) + 4 by omega, Nat.pow_add, Nat.mul_comm]
    have e3 : 4 * (12 - (n + 1)) = 4 * (11 - n) := by omega
    rw [e3, e]
    split <;> omega
theorem spk_lt (s : Nat) {n k : Nat} (hn : n ≤ 12) (hk : k < 16) : spn s n * k < 2 ^ 48 := by
  have h1 := spn15 s n hn
  have h2 : spn s n * k ≤ spn s n * 15 := Nat.mul_le_mul_left _ (by omega)
  have := Nat.two_pow_pos (4 * (12 - n))
  omega
theorem spm_bit (s k : Nat) (hk : k < 16) : ∀ n, n ≤ 12 → ∀ x j, x < 12 → j < 4 → (spn s n * k).testBit (4 * (11 - x) + j) = (decide (x < n) && (s.testBit x && k.testBit j)) := by
  intro n
  induction n with
  | zero => intro _ x j _ _; show (0 * k).testBit _ = _; rw [Nat.zero_mul]; simp
  | succ n ih =>
    intro hn x j hx hj
    have ih := ih (by omega) x j hx hj
    obtain ⟨q, hq⟩ := spn_dvd s n (by omega)
    have e : spn s (n + 1) = spn s n + if s.testBit n then 2 ^ (4 * (11 - n)) else 0 := rfl
    rw [show 4 * (12 - n) = 4 * (11 - n) + 4 by omega] at hq
    obtain ⟨m, em⟩ : ∃ z, 4 * (11 - n) = z := ⟨_, rfl⟩
    rw [em] at hq e
    obtain ⟨k', ek⟩ : ∃ z, (if s.testBit n then k else 0) = z := ⟨_, rfl⟩
    have e2 : spn s (n + 1) * k = 2 ^ (m + 4) * (q * k) + 2 ^ m * k' := by
      rw [e, ← ek, Nat.add_mul, hq, Nat.mul_assoc]
      split
      · rfl
      · rw [Nat.zero_mul, Nat.mul_zero]
    have k16 : k' < 16 := by rw [← ek]; split <;> omega
    have lt : 2 ^ m * k' < 2 ^ (m + 4) := by
      rw [Nat.pow_add]
      exact Nat.mul_lt_mul_of_pos_left k16 (Nat.two_pow_pos m)
    rw [e2, Nat.testBit_two_pow_mul_add _ lt]
    by_cases w : x < n
    · rw [if_neg (by omega), decide_eq_true (show x < n + 1 by omega), Bool.true_and]
      rw [hq, Nat.mul_assoc, Nat.testBit_two_pow_mul, decide_eq_true (show x < n by omega), Bool.true_and, decide_eq_true (by omega), Bool.true_and] at ih
      exact ih
    · by_cases w2 : x = n
      · subst w2
        rw [if_pos (by omega), Nat.testBit_two_pow_mul, em, decide_eq_true (by omega), Bool.true_and, Nat.add_sub_cancel_left, decide_eq_true (show x < x + 1 by omega), Bool.true_and, ← ek]
        cases s.testBit x
        · simp
        · rfl
      · rw [if_pos (by omega), Nat.testBit_two_pow_mul, decide_eq_false (by omega), Bool.false_and, decide_eq_false (show ¬ x < n + 1 by omega), Bool.false_and]
/-- the stations of the tasks, by what is done behind stations k to k + j -/
def cdf (n : Nat) (D : Nat → Nat) : Nat → Nat → Nat
  | 0, _ => 0
  | j + 1, k => cdf n D j (k + 1) ||| spn (sdf (D (k + 1)) (D k)) n * (k + 1)
section CO
variable {n K : Nat} {D D' : Nat → Nat}
theorem cdf_c : ∀ j k, (∀ i, k ≤ i → D i = D' i) → cdf n D j k = cdf n D' j k := by
  intro j
  induction j with
  | zero => intro k _; rfl
  | succ j ih =>
    intro k h
    simp only [cdf]
    rw [ih (k + 1) (fun i hi => h i (by omega)), h k (Nat.le_refl _), h (k + 1) (by omega)]
theorem cdf_lt (hn : n ≤ 12) : ∀ j k, k + j ≤ 12 → cdf n D j k < 2 ^ 48 := by
  intro j
  induction j with
  | zero => intro k _; exact Nat.two_pow_pos 48
  | succ j ih =>
    intro k h
    simp only [cdf]
    exact or_lt (ih (k + 1) (by omega)) (spk_lt _ hn (by omega))
theorem cdf_bit (hn : n ≤ 12) : ∀ j k, k + j ≤ 12 → ∀ x b, x < 12 → b < 4 → ((cdf n D j k).testBit (4 * (11 - x) + b) = true ↔ ∃ i, k ≤ i ∧ i < k + j ∧ x < n ∧ (sdf (D (i + 1)) (D i)).testBit x = true ∧ (i + 1).testBit b = true) := by
  intro j
  induction j with
  | zero =>
    intro k _ x b _ _
    constructor
    · intro h
      have : (0 : Nat).testBit (4 * (11 - x) + b) = true := h
      simp at this
    · rintro ⟨i, h1, h2, -⟩; omega
  | succ j ih =>
    intro k h x b hx hb
    simp only [cdf]
    rw [bit_or, ih (k + 1) (by omega) x b hx hb, spm_bit _ _ (by omega) n hn x b hx hb, Bool.and_eq_true, Bool.and_eq_true, decide_eq_true_eq]
    constructor
    · rintro (⟨i, h1, h2, h3⟩ | ⟨h1, h2, h3⟩)
      · exact ⟨i, by omega, by omega, h3⟩
      · exact ⟨k, Nat.le_refl _, by omega, h1, h2, h3⟩
    · rintro ⟨i, h1, h2, h3, h4, h5⟩
      by_cases w : i = k
      · subst w; exact Or.inr ⟨h3, h4, h5⟩
      · exact Or.inl ⟨i, by omega, by omega, h3, h4, h5⟩
theorem pos48 {p : Nat} (h : p < 48) : ∃ x b, x < 12 ∧ b < 4 ∧ p = 4 * (11 - x) + b := ⟨11 - p / 4, p % 4, by omega, by omega, by omega⟩
theorem bln_uniq {W : Nat} {ne : Nat → Nat} (h : bln W ne K D) {i j x : Nat} (hi : i < K) (hj : j < K) (h1 : (sdf (D (i + 1)) (D i)).testBit x = true) (h2 : (sdf (D (j + 1)) (D j)).testBit x = true) : i = j := by
  rw [bit_sdf] at h1 h2
  rcases Nat.lt_trichotomy i j with q | q | q
  · exact absurd (sub_iff.mp (bln_sub h (show i + 1 ≤ j by omega) (by omega)) x h1.1) h2.2
  · exact q
  · exact absurd (sub_iff.mp (bln_sub h (show j + 1 ≤ i by omega) (by omega)) x h2.1) h1.2
theorem bln_st {W : Nat} {ne : Nat → Nat} (h : bln W ne K D) {x : Nat} (hx : W.testBit x = true) : ∃ i, i < K ∧ (sdf (D (i + 1)) (D i)).testBit x = true := by
  have key : ∀ k, k ≤ K → (D k).testBit x = true → ∃ i, i < K ∧ (sdf (D (i + 1)) (D i)).testBit x = true := by
    intro k
    induction k with
    | zero => intro _ q; rw [h.1] at q; simp at q
    | succ k ih =>
      intro hk q
      by_cases w : (D k).testBit x = true
      · exact ih (by omega) w
      · exact ⟨k, by omega, bit_sdf.mpr ⟨q, w⟩⟩
  exact key K (Nat.le_refl _) (by rw [h.2.1]; exact hx)
/-- a task's station, out of the code -/
theorem cdf_dig {W : Nat} {ne : Nat → Nat} (hn : n ≤ 12) (hK : K ≤ 12) (h : bln W ne K D) {i x : Nat} (hi : i < K) (hx : x < n) (h1 : (sdf (D (i + 1)) (D i)).testBit x = true) : cdf n D K 0 / 2 ^ (4 * (11 - x)) % 16 = i + 1 := by
  apply Nat.eq_of_testBit_eq
  intro b
  rw [show (16 : Nat) = 2 ^ 4 by decide, Nat.testBit_mod_two_pow, Nat.testBit_div_two_pow]
  by_cases w : b < 4
  · rw [decide_eq_true w, Bool.true_and, Nat.add_comm b]
    have := cdf_bit (D := D) hn K 0 (by omega) x b (by omega) w
    cases z : (i + 1).testBit b
    · cases y : (cdf n D K 0).testBit (4 * (11 - x) + b)
      · rfl
      · obtain ⟨j, -, j2, -, j4, j5⟩ := this.mp y
        have := bln_uniq h hi (by omega) h1 j4
        rw [← this, z] at j5; cases j5
    · exact this.mpr ⟨i, Nat.zero_le _, by omega, hx, h1, z⟩
  · rw [decide_eq_false w, Bool.false_and]
    exact (tb_ge (k := 4) (show i + 1 < 2 ^ 4 by omega) (by omega)).symm
/-- what stands behind station k has no task that is done there -/
theorem cdf_and {W : Nat} {ne : Nat → Nat} (hn : n ≤ 12) (hK : K ≤ 12) (h : bln W ne K D) {k s c : Nat} (hk : k ≤ K) (hs : sub s (D k)) (hc : c < 16) : cdf n D (K - k) k &&& spn s n * c = 0 := by
  rw [and_0]
  intro p h1 h2
  have l1 := cdf_lt (D := D) hn (K - k) k (by omega)
  have p48 : p < 48 := by
    apply Nat.lt_of_not_le
    intro q
    rw [tb_ge l1 q] at h1; cases h1
  obtain ⟨x, b, x1, x2, rfl⟩ := pos48 p48
  obtain ⟨i, i1, i2, i3, i4, i5⟩ := (cdf_bit hn (K - k) k (by omega) x b x1 x2).mp h1
  rw [spm_bit s c hc n hn x b x1 x2, Bool.and_eq_true, Bool.and_eq_true] at h2
  have := sub_iff.mp (bln_sub h (show k ≤ i by omega) (by omega)) x (sub_iff.mp hs x h2.2.1)
  exact (bit_sdf.mp i4).2 this
theorem bln_splice {W : Nat} {ne D1 D2 : Nat → Nat} {i t : Nat} (h1 : bln W ne K D1) (h2 : bln W ne K D2) (hi : i < K) (ht : ed W ne (D1 i) t) (he : D2 (i + 1) = D1 i ||| t) : bln W ne K (fun k => if k ≤ i then D1 k else D2 k) := by
  refine ⟨by show (if 0 ≤ i then D1 0 else _) = 0; rw [if_pos (Nat.zero_le _)]; exact h1.1, by show (if K ≤ i then _ else D2 K) = W; rw [if_neg (by omega)]; exact h2.2.1, fun k _ hk => ?_⟩
  show ∃ s, ed W ne (if k ≤ i then D1 k else D2 k) s ∧ (if k + 1 ≤ i then D1 (k + 1) else D2 (k + 1)) = (if k ≤ i then D1 k else D2 k) ||| s
  by_cases w : k + 1 ≤ i
  · rw [if_pos w, if_pos (by omega)]
    exact h1.2.2 k (Nat.zero_le _) hk
  · rw [if_neg w]
    by_cases w2 : k = i
    · subst w2
      rw [if_pos (Nat.le_refl _)]
      exact ⟨t, ht, he⟩
    · rw [if_neg (by omega)]
      exact h2.2.2 k (Nat.zero_le _) hk
end CO
section PM
variable {n K : Nat} {ne l sp pl0 : Nat → Nat}
theorem bln_bkr (hK : isK (2 ^ n - 1) ne K) (hK12 : K ≤ 12) (hl : lvG (2 ^ n - 1) 0 (fun _ => 0) ne l K) {D : Nat → Nat} (h : bln (2 ^ n - 1) ne K D) {k : Nat} (hk : k < K) : bkr l ne (D k) (D (k + 1)) = true := by
  obtain ⟨s, s1, s2⟩ := h.2.2 k (Nat.zero_le _) hk
  obtain ⟨-, -, a3⟩ := bln_go h (show k + 1 ≤ K by omega)
  rw [bkr_iff (W := 2 ^ n - 1) (sub_all.mpr (by have := Nat.two_pow_pos n; omega))]
  exact ⟨s, s1, s2, by rw [bln_l hK hK12 hl h (by omega), bln_l hK hK12 hl h (by omega)]⟩
theorem on_wpos (hK : isK (2 ^ n - 1) ne K) (hK12 : K ≤ 12) (hl : lvG (2 ^ n - 1) 0 (fun _ => 0) ne l K) {D : Nat → Nat} (h : bln (2 ^ n - 1) ne K D) : ∀ x k, k + x = K → 0 < twi (2 ^ n - 1) l ne sp pl0 (2 ^ n - 1) (D k) := by
  intro x
  induction x with
  | zero =>
    intro k hk
    rw [show k = K by omega, h.2.1, w_W hl]
    omega
  | succ x ih =>
    intro k hk
    have := ih (k + 1) (by omega)
    have b := bln_bkr hK hK12 hl h (show k < K by omega)
    have lt := bkr_lt b
    obtain ⟨-, -, a3⟩ := bln_go h (show k + 1 ≤ K by omega)
    rw [w_d hl (by omega)]
    have g := nsum_ge (f := fun e => if bkr l ne (D k) e = true then twi (2 ^ n - 1) l ne sp pl0 (2 ^ n - 1) e else 0) (x := D (k + 1)) (2 ^ n - 1 + 1) (by omega)
    simp only [if_pos b] at g
    omega
theorem wpos_on (hn : n ≤ 12) (hK : isK (2 ^ n - 1) ne K) (hl : lvG (2 ^ n - 1) 0 (fun _ => 0) ne l K) : ∀ x e, 2 ^ n - 1 ≤ e + x → e ≤ 2 ^ n - 1 → 0 < twi (2 ^ n - 1) l ne sp pl0 (2 ^ n - 1) e → ∃ D, bln (2 ^ n - 1) ne K D ∧ D (l e) = e ∧ l e ≤ K := by
  intro x
  induction x with
  | zero =>
    intro e h1 h2 _
    have : e = 2 ^ n - 1 := by omega
    subst this
    by_cases hk : K < 1000
    · obtain ⟨D, d1, d2⟩ := on_bln hK hl (e := 2 ^ n - 1) (j := 0) (by rw [hl.2.2.1]; exact hk) rfl (by rw [hl.2.2.1]; omega)
      exact ⟨D, d1, d2, by rw [hl.2.2.1]; exact Nat.le_refl _⟩
    · have := hl.1 (2 ^ n - 1)
      rw [hl.2.2.1] at this
      obtain ⟨D, d1, d2⟩ := rch_path _ _ (lin_go.mpr hK.1)
      obtain ⟨d3, d4, d5, d6⟩ := d2
      exfalso
      -- more stations than tasks: none is empty
      have cnt : ∀ k, k ≤ D → k ≤ cn (d3 k) n := by
        intro k
        induction k with
        | zero => intro _; exact Nat.zero_le _
        | succ k ih =>
          intro hk
          obtain ⟨s, s1, s2⟩ := d6 k (Nat.zero_le _) (by omega)
          have := ed_cn s1
          rw [← s2] at this
          have := ih (by omega)
          omega
      have c1 := cnt D (Nat.le_refl _)
      have c2 := cn_le (d3 D) n
      have := path_rch d4 D d6
      rw [d5] at this
      have := hK.2 _ (lin_go.mp this)
      omega
  | succ x ih =>
    intro e h1 h2 h3
    by_cases w : e = 2 ^ n - 1
    · exact ih e (by omega) h2 h3
    · rw [w_d hl (by omega)] at h3
      obtain ⟨y, y1, y2⟩ := nsum_pos (2 ^ n - 1 + 1) (show 0 < nsum (fun y => if bkr l ne e y = true then twi (2 ^ n - 1) l ne sp pl0 (2 ^ n - 1) y else 0) (2 ^ n - 1 + 1) by omega)
      by_cases b : bkr l ne e y = true
      · rw [if_pos b] at y2
        have lt := bkr_lt b
        obtain ⟨D, d1, d2, d3⟩ := ih y (by omega) (by omega) y2
        obtain ⟨t, t1, t2, t3⟩ := (bkr_iff (W := 2 ^ n - 1) (sub_all.mpr (by have := Nat.two_pow_pos n; omega))).mp b
        obtain ⟨g1, -, -⟩ := bln_go d1 d3
        rw [d2] at g1
        have ll := (bkr_l hl b).2
        obtain ⟨D', e1, e2⟩ := on_bln hK hl (e := e) (j := K - l y + 1) (by omega) (Or.inr ⟨t, t1, by rw [← t2]; exact g1⟩) (by omega)
        exact ⟨D', e1, e2, by omega⟩
      · rw [if_neg b] at y2; omega
theorem pl_min (hn : n ≤ 12) (hK : isK (2 ^ n - 1) ne K) (hK12 : K ≤ 12) (hl : lvG (2 ^ n - 1) 0 (fun _ => 0) ne l K) (hsp : ∀ s, s < 2 ^ n → sp s = spn s n) : ∀ x e, 2 ^ n - 1 ≤ e + x → e ≤ 2 ^ n - 1 → 0 < twi (2 ^ n - 1) l ne sp pl0 (2 ^ n - 1) e → (∃ D, bln (2 ^ n - 1) ne K D ∧ D (l e) = e ∧ tpi (2 ^ n - 1) l ne sp pl0 (2 ^ n - 1) e = cdf n D (K - l e) (l e)) ∧ ∀ D, bln (2 ^ n - 1) ne K D → D (l e) = e → tpi (2 ^ n - 1) l ne sp pl0 (2 ^ n - 1) e ≤ cdf n D (K - l e) (l e) := by
  have base : (∃ D, bln (2 ^ n - 1) ne K D ∧ D (l (2 ^ n - 1)) = 2 ^ n - 1 ∧ tpi (2 ^ n - 1) l ne sp pl0 (2 ^ n - 1) (2 ^ n - 1) = cdf n D (K - l (2 ^ n - 1)) (l (2 ^ n - 1))) ∧ ∀ D, bln (2 ^ n - 1) ne K D → D (l (2 ^ n - 1)) = 2 ^ n - 1 → tpi (2 ^ n - 1) l ne sp pl0 (2 ^ n - 1) (2 ^ n - 1) ≤ cdf n D (K - l (2 ^ n - 1)) (l (2 ^ n - 1)) := by
    rw [p_W, hl.2.2.1, Nat.sub_self]
    obtain ⟨D, d1, d2, -⟩ := wpos_on (sp := sp) (pl0 := pl0) hn hK hl 0 (2 ^ n - 1) (by omega) (Nat.le_refl _) (by rw [w_W hl]; omega)
    rw [hl.2.2.1] at d2
    exact ⟨⟨D, d1, d2, rfl⟩, fun _ _ _ => Nat.zero_le _⟩
  intro x
  induction x with
  | zero =>
    intro e h1 h2 _
    rw [show e = 2 ^ n - 1 by omega]; exact base
  | succ x ih =>
    intro e h1 h2 h3
    by_cases w : e = 2 ^ n - 1
    · rw [w]; exact base
    · have hpn := Nat.two_pow_pos n
      have inv := p_inv (sp := sp) (pl0 := pl0) hl (show e < 2 ^ n - 1 by omega) (2 ^ n - 1) (Nat.le_refl _)
      -- what a next set tells
      have nxt : ∀ y, bkr l ne e y = true → y ≤ 2 ^ n - 1 → l y = l e + 1 ∧ sp (sdf y e) * l y = spn (sdf y e) n * (l e + 1) := fun y b hy => by
        obtain ⟨t, t1, t2, t3⟩ := (bkr_iff (W := 2 ^ n - 1) (sub_all.mpr (by omega))).mp b
        refine ⟨t3.symm, ?_⟩
        rw [← t3, hsp]
        have := sub_le (sdf_sub y e)
        omega
      obtain ⟨De, a1, a2, a3⟩ := wpos_on hn hK hl (x + 1) e h1 h2 h3
      constructor
      · obtain ⟨y, y1, y2, y3, y4, y5⟩ := inv.1 h3
        have lt := bkr_lt y3
        obtain ⟨n1, n2⟩ := nxt y y3 y2
        obtain ⟨⟨Dy, b1, b2, b3⟩, -⟩ := ih y (by omega) y2 y4
        obtain ⟨-, -, -, b4⟩ := wpos_on hn hK hl (x + 1) y (by omega) y2 y4
        obtain ⟨t, t1, t2, t3⟩ := (bkr_iff (W := 2 ^ n - 1) (sub_all.mpr (by omega))).mp y3
        have sp' := bln_splice (i := l e) (t := t) a1 b1 (by omega) (by rw [a2]; exact t1) (by rw [← n1, b2, a2]; exact t2)
        refine ⟨_, sp', by show (if l e ≤ l e then De (l e) else _) = e; rw [if_pos (Nat.le_refl _)]; exact a2, ?_⟩
        rw [y5, n2, b3, show K - l e = K - l y + 1 by omega]
        simp only [cdf]
        rw [if_neg (show ¬ l e + 1 ≤ l e by omega), if_pos (Nat.le_refl (l e)), a2, ← n1, b2]
        congr 1
        refine cdf_c _ _ (fun i hi => ?_)
        show Dy i = if i ≤ l e then De i else Dy i
        rw [if_neg (by omega)]
      · intro D d1 d2
        have lK : l e < K := by
          apply Nat.lt_of_le_of_ne a3
          intro q
          rw [q, d1.2.1] at d2
          exact w d2.symm
        have b := bln_bkr hK hK12 hl d1 lK
        rw [d2] at b
        have lt := bkr_lt b
        obtain ⟨-, -, c3⟩ := bln_go d1 (show l e + 1 ≤ K by omega)
        obtain ⟨n1, n2⟩ := nxt _ b c3
        have wp := on_wpos (sp := sp) (pl0 := pl0) hK hK12 hl d1 (K - (l e + 1)) (l e + 1) (by omega)
        obtain ⟨⟨Dy, b1, b2, b3⟩, b4⟩ := ih (D (l e + 1)) (by omega) c3 wp
        have le1 := (inv.2 _ (by omega) c3 b wp).2
        have le2 := b4 D d1 (by rw [n1])
        rw [n1] at b2 b3 le2
        refine Nat.le_trans le1 ?_
        rw [n2, show K - l e = K - (l e + 1) + 1 by omega]
        simp only [cdf]
        rw [d2]
        refine or_mono le2 ?_ ?_
        · rw [b3]
          exact cdf_and hn hK12 b1 (by omega) (by rw [b2]; exact sdf_sub _ _) (by omega)
        · exact cdf_and hn hK12 d1 (by omega) (sdf_sub _ _) (by omega)
end PM
