/-! ALL THAT IS BEHIND: both ways to find it. -/
/-- how many are in a set -/
abbrev cn (s N : Nat) : Nat := tsum (fun _ => 1) s N
theorem cn_le (s N : Nat) : cn s N ≤ N := by
  have : cn s N ≤ N * 1 := tsum_le (f := fun _ => 1) (s := s) (b := 1) N (fun _ _ => Nat.le_refl _)
  omega
theorem cn_pos {s N i : Nat} (h : s.testBit i = true) (hi : i < N) : 1 ≤ cn s N := tsum_mem (f := fun _ => 1) h N hi
theorem cn_sub {f g N : Nat} (h : sub f g) (hg : g < 2 ^ N) (hne : ¬ g = f) : cn f N + 1 ≤ cn g N := by
  have e : f ||| sdf g f = g := or_sdf h
  have d : f &&& sdf g f = 0 := and_0.mpr fun i h1 h2 => (bit_sdf.mp h2).2 h1
  have e2 : cn g N = cn f N + cn (sdf g f) N := by
    have := tsum_or (f := fun _ => 1) d N
    rw [e] at this
    exact this
  have : sdf g f ≠ 0 := fun q => by
    rw [q, Nat.or_zero] at e
    exact hne e.symm
  obtain ⟨i, hi⟩ : ∃ i, (sdf g f).testBit i = true := by
    apply Classical.byContradiction
    intro q
    exact this (eq0_bit.mpr fun i hi => q ⟨i, hi⟩)
  have il : i < N := by
    apply Nat.lt_of_not_le
    intro q
    have := tb_ge hg q
    rw [(bit_sdf.mp hi).1] at this
    cases this
  have := cn_pos hi il
  omega
theorem iter_fix {N : Nat} {g F : Nat → Nat} (hF : ∀ k, F (k + 1) = g (F k)) (hs : ∀ k, sub (F k) (F (k + 1))) (hl : ∀ k, F k < 2 ^ N) : g (F N) = F N := by
  have key : ∀ k, F (k + 1) = F k ∨ k + 1 ≤ cn (F (k + 1)) N := by
    intro k
    induction k with
    | zero =>
      by_cases w : F 1 = F 0
      · exact Or.inl w
      · have : cn (F 0) N + 1 ≤ cn (F 1) N := cn_sub (hs 0) (hl 1) w
        exact Or.inr (by show 0 + 1 ≤ cn (F 1) N; omega)
    | succ k ih =>
      by_cases w : F (k + 1 + 1) = F (k + 1)
      · exact Or.inl w
      · rcases ih with q | q
        · exact absurd (by rw [hF (k + 1), q, ← hF k, q]) w
        · have := cn_sub (hs (k + 1)) (hl (k + 1 + 1)) w
          exact Or.inr (by omega)
  rcases key N with q | q
  · rw [← hF]; exact q
  · have := cn_le (F (N + 1)) N
    omega
/-- behind: straight (0), or by k others -/
def anc (B : Nat → Nat) : Nat → Nat → Nat → Prop
  | 0, x, t => (B x).testBit t = true
  | k + 1, x, t => ∃ y, (B x).testBit y = true ∧ anc B k y t
theorem anc_snoc {B : Nat → Nat} {i : Nat} : ∀ k s x, anc B k s x → (B x).testBit i = true → anc B (k + 1) s i := by
  intro k
  induction k with
  | zero => intro s x h1 h2; exact ⟨x, h1, h2⟩
  | succ k ih =>
    rintro s x ⟨y, h1, h2⟩ h3
    exact ⟨y, h1, ih y x h2 h3⟩
section CL
variable {B : Nat → Nat} {n N t s : Nat}
theorem aa_p_sub (f : Nat) : ∀ x, sub f (aa_p B x f) := by
  intro x
  induction x with
  | zero => exact sub_rfl f
  | succ x ih =>
    simp only [aa_p]
    split
    · exact sub_trans ih (sub_or_l _ _)
    · exact ih
theorem aa_p_in (f : Nat) {x : Nat} (hx : f.testBit x = true) : ∀ k, x < k → sub (B x) (aa_p B k f) := by
  intro k
  induction k with
  | zero => intro h; omega
  | succ k ih =>
    intro h
    simp only [aa_p]
    by_cases w : x = k
    · rw [if_pos (by rw [← w]; exact sub_iff.mp (aa_p_sub f x) x hx), w]
      exact sub_or_r _ _
    · split
      · exact sub_trans (ih (by omega)) (sub_or_l _ _)
      · exact ih (by omega)
theorem aa_p_anc (f : Nat) (hf : ∀ j, f.testBit j = true → ∃ k, anc B k s j) : ∀ x i, (aa_p B x f).testBit i = true → ∃ k, anc B k s i := by
  intro x
  induction x with
  | zero => exact hf
  | succ x ih =>
    intro i hi
    simp only [aa_p] at hi
    split at hi
    · rename_i q
      rcases bit_or.mp hi with z | z
      · exact ih i z
      · obtain ⟨k, hk⟩ := ih x q
        exact ⟨k + 1, anc_snoc k s x hk z⟩
    · exact ih i hi
theorem aa_p_ltN (hB : ∀ x, B x < 2 ^ N) {f : Nat} (hf : f < 2 ^ N) : ∀ x, aa_p B x f < 2 ^ N := by
  intro x
  induction x with
  | zero => exact hf
  | succ x ih =>
    simp only [aa_p]
    split
    · exact or_lt ih (hB x)
    · exact ih
/-- what is found: all that s is behind -/
theorem aa_iff (hB : ∀ x, B x < 2 ^ N) (hNn : ∀ x, N ≤ x → B x = 0) (i : Nat) : (aa_r B N (B s) N).testBit i = true ↔ ∃ k, anc B k s i := by
  have hl : ∀ k, aa_r B N (B s) k < 2 ^ N := by
    intro k
    induction k with
    | zero => exact hB s
    | succ k ih => exact aa_p_ltN hB ih N
  have fx : aa_p B N (aa_r B N (B s) N) = aa_r B N (B s) N := iter_fix (g := aa_p B N) (F := aa_r B N (B s)) (fun _ => rfl) (fun k => aa_p_sub _ N) hl
  have up : ∀ k, sub (B s) (aa_r B N (B s) k) := by
    intro k
    induction k with
    | zero => exact sub_rfl _
    | succ k ih => exact sub_trans ih (aa_p_sub _ N)
  constructor
  · have : ∀ k i, (aa_r B N (B s) k).testBit i = true → ∃ j, anc B j s i := by
      intro k
      induction k with
      | zero => intro i hi; exact ⟨0, hi⟩
      | succ k ih => intro i hi; exact aa_p_anc _ ih N i hi
    exact this N i
  · have : ∀ k y, sub (B y) (aa_r B N (B s) N) → anc B k y i → (aa_r B N (B s) N).testBit i = true := by
      intro k
      induction k with
      | zero => intro y h1 h2; exact sub_iff.mp h1 i h2
      | succ k ih =>
        rintro y h1 ⟨z, h2, h3⟩
        have hz := sub_iff.mp h1 z h2
        have zN : z < N := by
          apply Nat.lt_of_not_le
          intro q
          have := tb_ge (hl N) q
          rw [hz] at this; cases this
        have := aa_p_in (B := B) _ hz N zN
        rw [fx] at this
        exact ih z this h3
    rintro ⟨k, hk⟩
    exact this k s (up N) hk
theorem ab_p_sub (f : Nat) : ∀ x, sub f (ab_p B t x f) := by
  intro x
  induction x with
  | zero => exact sub_rfl f
  | succ x ih =>
    simp only [ab_p]
    split
    · exact ih
    · exact sub_trans ih (sub_or_l _ _)
theorem ab_p_ltN : ∀ x f, x ≤ N → f < 2 ^ N → ab_p B t x f < 2 ^ N := by
  intro x
  induction x with
  | zero => intro f _ h; exact h
  | succ x ih =>
    intro f hx hf
    simp only [ab_p]
    split
    · exact ih f (by omega) hf
    · exact or_lt (ih f (by omega) hf) (Nat.pow_lt_pow_right (by omega) (by omega))
theorem ab_p_in (f : Nat) {x : Nat} (hx : B x &&& (f ||| 2 ^ t) ≠ 0) : ∀ k, x < k → (ab_p B t k f).testBit x = true := by
  intro k
  induction k with
  | zero => intro h; omega
  | succ k ih =>
    intro h
    simp only [ab_p]
    by_cases w : x = k
    · have : B k &&& (ab_p B t k f ||| 2 ^ t) ≠ 0 := by
        obtain ⟨i, i1, i2⟩ := and_ne0.mp hx
        refine and_ne0.mpr ⟨i, by rw [← w]; exact i1, ?_⟩
        rcases bit_or.mp i2 with z | z
        · exact bit_or.mpr (Or.inl (sub_iff.mp (ab_p_sub f k) i z))
        · exact bit_or.mpr (Or.inr z)
      rw [if_neg this, bit_or, w, Nat.testBit_two_pow]
      exact Or.inr (decide_eq_true rfl)
    · split
      · exact ih (by omega)
      · exact bit_or.mpr (Or.inl (ih (by omega)))
theorem ab_p_anc (f : Nat) (hf : ∀ j, f.testBit j = true → ∃ k, anc B k j t) : ∀ x i, (ab_p B t x f).testBit i = true → ∃ k, anc B k i t := by
  intro x
  induction x with
  | zero => exact hf
  | succ x ih =>
    intro i hi
    simp only [ab_p] at hi
    split at hi
    · exact ih i hi
    · rename_i q
      rcases bit_or.mp hi with z | z
      · exact ih i z
      · rw [Nat.testBit_two_pow, decide_eq_true_eq] at z
        subst z
        obtain ⟨y, y1, y2⟩ := and_ne0.mp q
        rcases bit_or.mp y2 with w | w
        · obtain ⟨k, hk⟩ := ih y w
          exact ⟨k + 1, y, y1, hk⟩
        · rw [Nat.testBit_two_pow, decide_eq_true_eq] at w
          exact ⟨0, by rw [← w] at y1; exact y1⟩
theorem ab_r_ltN : ∀ k, ab_r B t N k < 2 ^ N := by
  intro k
  induction k with
  | zero => exact Nat.two_pow_pos N
  | succ k ih => exact ab_p_ltN N _ (Nat.le_refl _) ih
theorem ab_iff (hB : ∀ x, B x < 2 ^ N) (i : Nat) : (ab_r B t N N).testBit i = true ↔ i < N ∧ ∃ k, anc B k i t := by
  have hl := ab_r_ltN (B := B) (t := t) (N := N)
  have fx : ab_p B t N (ab_r B t N N) = ab_r B t N N := iter_fix (g := ab_p B t N) (F := ab_r B t N) (fun _ => rfl) (fun k => ab_p_sub _ N) hl
  constructor
  · intro hi
    have : ∀ k i, (ab_r B t N k).testBit i = true → ∃ j, anc B j i t := by
      intro k
      induction k with
      | zero => intro i hi; simp [ab_r] at hi
      | succ k ih => intro i hi; exact ab_p_anc _ ih N i hi
    refine ⟨?_, this N i hi⟩
    apply Nat.lt_of_not_le
    intro q
    have := tb_ge (hl N) q
    rw [hi] at this; cases this
  · rintro ⟨h1, k, hk⟩
    have : ∀ k x, x < N → anc B k x t → (ab_r B t N N).testBit x = true := by
      intro k
      induction k with
      | zero =>
        intro x hx h2
        rw [← fx]
        exact ab_p_in _ (and_ne0.mpr ⟨t, h2, bit_or.mpr (Or.inr (by rw [Nat.testBit_two_pow]; exact decide_eq_true rfl))⟩) N hx
      | succ k ih =>
        rintro x hx ⟨y, y1, y2⟩
        have yN : y < N := by
          apply Nat.lt_of_not_le
          intro q
          have := tb_ge (hB x) q
          rw [y1] at this; cases this
        rw [← fx]
        exact ab_p_in _ (and_ne0.mpr ⟨y, y1, bit_or.mpr (Or.inl (ih y yN y2))⟩) N hx
    exact this k i h1 hk
/-- what is kept true of orders -/
def boK (n : Nat) (B : Nat → Nat) : Prop := n ≤ 12 ∧ (∀ x, n ≤ x → B x = 0) ∧ ∀ x, B x < 2 ^ n
theorem boK.up (h : boK n B) : (∀ x, B x < 2 ^ 12) ∧ ∀ x, 12 ≤ x → B x = 0 := ⟨fun x => Nat.lt_of_lt_of_le (h.2.2 x) (Nat.pow_le_pow_right (by omega) h.1), fun x hx => h.2.1 x (Nat.le_trans h.1 hx)⟩
theorem far_eq (h : boK n B) : bset (fun k => (aa_r B 12 (B k) 12).testBit t) n = ab_r B t n n := by
  apply tb_ext
  intro i
  rw [bset_bit, Bool.and_eq_true, decide_eq_true_eq, ab_iff h.2.2, aa_iff h.up.1 h.up.2]
theorem round_iff (h : boK n B) {x y : Nat} (hx : x < n) : (ab_r B y n n).testBit x = true ↔ (aa_r B 12 (B x) 12).testBit y = true := by
  rw [ab_iff h.2.2, aa_iff h.up.1 h.up.2]
  exact ⟨fun q => q.2, fun q => ⟨hx, q⟩⟩
theorem aa_12 (h : boK n B) : aa_r B n (B s) n = aa_r B 12 (B s) 12 := by
  apply tb_ext
  intro i
  rw [aa_iff h.2.2 h.2.1, aa_iff h.up.1 h.up.2]
end CL
theorem vOk.bo {n C : Nat} {T B A J S : Nat → Nat} (h : vOk n C T B A J S) : boK n B := ⟨h.2.1.1, h.2.2.2.2.1, h.2.2.2.2.2.1⟩
theorem ru_mono {a b c : Nat} (hc : 0 < c) (h : a ≤ b) : ru a c ≤ ru b c := by
  unfold ru
  exact Nat.div_le_div_right (by omega)
theorem mx_ru {f : Nat → Nat} {c : Nat} (hc : 0 < c) : ∀ n, mx (fun x => ru (f x) c) n = ru (mx f n) c := by
  intro n
  induction n with
  | zero => show 0 = ru 0 c; unfold ru; rw [Nat.zero_add, Nat.div_eq_of_lt (by omega)]
  | succ n ih =>
    simp only [mx]
    rw [ih]
    rcases Nat.le_total (mx f n) (f n) with q | q
    · rw [Nat.max_eq_right q, Nat.max_eq_right (ru_mono hc q)]
    · rw [Nat.max_eq_left q, Nat.max_eq_left (ru_mono hc q)]
