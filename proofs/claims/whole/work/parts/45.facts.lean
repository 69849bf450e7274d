/-! FACTS OF LINES: floors are below them, a longer cycle has them all. -/
theorem tsum_mono {f g : Nat → Nat} {s : Nat} : ∀ n, (∀ x, x < n → f x ≤ g x) → tsum f s n ≤ tsum g s n := by
  intro n
  induction n with
  | zero => intro _; exact Nat.le_refl _
  | succ n ih =>
    intro h
    have := ih (fun x hx => h x (by omega))
    have := h n (by omega)
    simp only [tsum]
    split <;> omega
theorem tsum_all {f : Nat → Nat} (s n : Nat) : ∀ m, m ≤ n → tsum f s m ≤ tsum f (2 ^ n - 1) m := by
  intro m
  induction m with
  | zero => intro _; exact Nat.le_refl _
  | succ m ih =>
    intro hm
    have := ih (by omega)
    simp only [tsum]
    rw [all_bit, if_pos (decide_eq_true (by omega))]
    split <;> omega
theorem tsum_mem {f : Nat → Nat} {s x : Nat} (hs : s.testBit x = true) : ∀ n, x < n → f x ≤ tsum f s n := by
  intro n
  induction n with
  | zero => intro h; omega
  | succ n ih =>
    intro h
    simp only [tsum]
    by_cases w : x = n
    · rw [← w, if_pos hs]; omega
    · have := ih (by omega)
      omega
theorem rch_tsum {W fx n c : Nat} {fi ne f : Nat → Nat} (hs : ∀ d s, sub d W → ed W ne d s → tsum f s n ≤ c) : ∀ k e, rch W fx fi ne k e → tsum f e n ≤ k * c := by
  intro k
  induction k with
  | zero => intro e h; rw [show e = 0 from h, tsum_0]; exact Nat.zero_le _
  | succ k ih =>
    rintro e (⟨h, -⟩ | ⟨d, s, h1, h2, -, h4⟩)
    · have := ih e h
      rw [Nat.succ_mul]; omega
    · have a1 := ih d h1
      have a2 := hs d s (rch_sub k d h1) h2
      rw [h4, tsum_or h2.2.1, Nat.succ_mul]; omega
theorem rch_mem {W fx : Nat} {fi ne : Nat → Nat} {x : Nat} : ∀ k e, rch W fx fi ne k e → e.testBit x = true → ∃ d s, sub d W ∧ ed W ne d s ∧ s.testBit x = true := by
  intro k
  induction k with
  | zero => intro e h hx; rw [show e = 0 from h] at hx; simp at hx
  | succ k ih =>
    rintro e (⟨h, -⟩ | ⟨d, s, h1, h2, -, h4⟩) hx
    · exact ih e h hx
    · rw [h4, bit_or] at hx
      rcases hx with hx | hx
      · exact ih d h1 hx
      · exact ⟨d, s, rch_sub k d h1, h2, hx⟩
theorem ru_iff {s d k : Nat} (h : 0 < d) : ru s d ≤ k ↔ s ≤ k * d := by
  unfold ru
  rw [Nat.div_le_iff_le_mul_add_pred h, Nat.mul_comm]
  omega
section FA
variable {n C fx : Nat} {T B A J fi : Nat → Nat}
theorem rch_total (hn : n ≤ 12) {k : Nat} (h : rch (2 ^ n - 1) fx fi (nd n C T B A J) k (2 ^ n - 1)) : tsum T (2 ^ n - 1) n ≤ k * C :=
  rch_tsum (fun d s hd he => (ed_fits hn hd he).2.1) k _ h
theorem mx_iff {f : Nat → Nat} {c : Nat} : ∀ n, mx f n ≤ c ↔ ∀ x, x < n → f x ≤ c := by
  intro n
  induction n with
  | zero => exact ⟨fun _ x hx => by omega, fun _ => Nat.zero_le _⟩
  | succ n ih =>
    simp only [mx]
    rw [Nat.max_le, ih]
    constructor
    · rintro ⟨h1, h2⟩ x hx
      by_cases w : x = n
      · rw [w]; exact h2
      · exact h1 x (by omega)
    · intro h1
      exact ⟨fun x hx => h1 x (by omega), h1 n (by omega)⟩
theorem rch_long (hn : n ≤ 12) {k : Nat} (h : rch (2 ^ n - 1) fx fi (nd n C T B A J) k (2 ^ n - 1)) : mx T n ≤ C := by
  rw [mx_iff]
  intro x hx
  obtain ⟨d, s, h1, h2, h3⟩ := rch_mem k _ h (x := x) (by rw [all_bit]; exact decide_eq_true hx)
  exact Nat.le_trans (tsum_mem h3 n hx) (ed_fits hn h1 h2).2.1
theorem ed_mono {C' : Nat} (hn : n ≤ 12) {d s : Nat} (hd : sub d (2 ^ n - 1)) (hc : tsum T s n ≤ C → tsum T s n ≤ C') (h : ed (2 ^ n - 1) (nd n C T B A J) d s) : ed (2 ^ n - 1) (nd n C' T B A J) d s := by
  obtain ⟨a1, a2, a3, a4, a5⟩ := ed_fits hn hd h
  obtain ⟨h1, h2, h3, h4⟩ := h
  refine ⟨h1, h2, h3, ?_⟩
  unfold nd at h4 ⊢
  rw [if_neg (by omega), if_pos ⟨a2, a3, a4⟩] at h4
  rw [if_neg (by omega), if_pos ⟨hc a2, a3, a4⟩]
  exact h4
theorem rch_ed {W : Nat} {ne ne' : Nat → Nat} (h : ∀ d s, sub d W → ed W ne d s → ed W ne' d s) : ∀ k e, rch W fx fi ne k e → rch W fx fi ne' k e := by
  intro k
  induction k with
  | zero => intro e h; exact h
  | succ k ih =>
    rintro e (⟨h1, h2⟩ | ⟨d, s, h1, h2, h3, h4⟩)
    · exact Or.inl ⟨ih e h1, h2⟩
    · exact Or.inr ⟨d, s, ih d h1, h d s (rch_sub k d h1) h2, h3, h4⟩
theorem rch_mono {C' : Nat} (hn : n ≤ 12) (hc : C ≤ C') {k e : Nat} (h : rch (2 ^ n - 1) fx fi (nd n C T B A J) k e) : rch (2 ^ n - 1) fx fi (nd n C' T B A J) k e :=
  rch_ed (fun d s hd he => ed_mono hn hd (fun z => Nat.le_trans z hc) he) k e h
theorem rch_all (hn : n ≤ 12) {k e : Nat} (h : rch (2 ^ n - 1) fx fi (nd n C T B A J) k e) : rch (2 ^ n - 1) fx fi (nd n (tsum T (2 ^ n - 1) n) T B A J) k e :=
  rch_ed (fun d s hd he => ed_mono hn hd (fun _ => tsum_all s n n (Nat.le_refl _)) he) k e h
/-- large ones and halves in a set -/
theorem halves {s : Nat} : ∀ n, (C + 1) * tsum (fun x => if C < 2 * T x then 1 else 0) s n + C * tsum (fun x => if 2 * T x = C then 1 else 0) s n ≤ 2 * tsum T s n := by
  intro n
  induction n with
  | zero => exact Nat.le_refl _
  | succ n ih =>
    simp only [tsum]
    by_cases w : s.testBit n = true
    · simp only [w, if_true]
      rw [Nat.mul_add, Nat.mul_add]
      by_cases w1 : C < 2 * T n
      · rw [if_pos w1, if_neg (show ¬ 2 * T n = C by omega)]; omega
      · rw [if_neg w1]
        by_cases w2 : 2 * T n = C
        · rw [if_pos w2]; omega
        · rw [if_neg w2]; omega
    · simp only [w, if_false]
      simpa using ih
theorem two_hs {L M : Nat} (hC : 0 < C) (h : (C + 1) * L + C * M ≤ 2 * C) : 2 * L + M ≤ 2 := by
  rcases (show L = 0 ∨ L = 1 ∨ 2 ≤ L by omega) with rfl | rfl | w
  · rw [Nat.mul_zero, Nat.zero_add, Nat.mul_comm 2 C] at h
    have := Nat.le_of_mul_le_mul_left h hC
    omega
  · rcases (show M = 0 ∨ 1 ≤ M by omega) with rfl | w
    · omega
    · have := Nat.mul_le_mul_left C w
      omega
  · have := Nat.mul_le_mul_left (C + 1) w
    omega
theorem cnt_tsum (P : Nat → Bool) (n : Nat) : ∀ m, m ≤ n → cnt P m = tsum (fun x => if P x then 1 else 0) (2 ^ n - 1) m := by
  intro m
  induction m with
  | zero => intro _; rfl
  | succ m ih =>
    intro hm
    simp only [cnt, tsum]
    rw [ih (by omega), all_bit, if_pos (decide_eq_true (show m < n by omega))]
    cases P m <;> simp
theorem rch_floors (hn : n ≤ 12) (hC : 0 < C) {k : Nat} (h : rch (2 ^ n - 1) fx fi (nd n C T B A J) k (2 ^ n - 1)) : max (fl0 n C T) (max (fl1 n C T) (fl2 n C T B)) ≤ k := by
  have ht := rch_total hn h
  have h0 : fl0 n C T ≤ k := (ru_iff hC).mpr ht
  have h2 : fl2 n C T B ≤ k := by
    unfold fl2
    rw [ru_iff hC, mx_iff]
    exact fun x hx => Nat.le_trans (tsum_all _ n n (Nat.le_refl _)) ht
  have h1 : fl1 n C T ≤ k := by
    have hw := rch_tsum (n := n) (c := 2) (f := fun x => 2 * (if C < 2 * T x then 1 else 0) + (if 2 * T x = C then 1 else 0)) (fun d s hd he => by
      have a1 := (ed_fits hn hd he).2.1
      have a2 := halves (C := C) (T := T) (s := s) n
      have a3 := two_hs hC (Nat.le_trans a2 (by omega))
      have a4 : ∀ m, tsum (fun x => 2 * (if C < 2 * T x then 1 else 0) + (if 2 * T x = C then 1 else 0)) s m = 2 * tsum (fun x => if C < 2 * T x then 1 else 0) s m + tsum (fun x => if 2 * T x = C then 1 else 0) s m := by
        intro m
        induction m with
        | zero => rfl
        | succ m ih =>
          simp only [tsum]
          rw [ih]
          split <;> omega
      rw [a4]
      exact a3) k _ h
    have a4 : ∀ m, tsum (fun x => 2 * (if C < 2 * T x then 1 else 0) + (if 2 * T x = C then 1 else 0)) (2 ^ n - 1) m = 2 * tsum (fun x => if C < 2 * T x then 1 else 0) (2 ^ n - 1) m + tsum (fun x => if 2 * T x = C then 1 else 0) (2 ^ n - 1) m := by
      intro m
      induction m with
      | zero => rfl
      | succ m ih =>
        simp only [tsum]
        rw [ih]
        split <;> omega
    rw [a4] at hw
    unfold fl1
    rw [cnt_tsum _ n n (Nat.le_refl _), cnt_tsum _ n n (Nat.le_refl _)]
    simp only [decide_eq_true_eq]
    have := (ru_iff (s := tsum (fun x => if 2 * T x = C then 1 else 0) (2 ^ n - 1) n) (k := k - tsum (fun x => if C < 2 * T x then 1 else 0) (2 ^ n - 1) n) (d := 2) (by omega)).mpr (by omega)
    omega
  omega
end FA
