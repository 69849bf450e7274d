/-! READING A TEXT: what stays true of what is read. -/
def sy (f : Nat → Nat) : Prop := ∀ a b, (f a).testBit b = true → (f b).testBit a = true
def rV (v : pv) : Prop := pwv v ∧ boK v.1 v.2.2.2.1 ∧ prOk v.2.2.2.1 v.2.2.2.2.1 v.2.2.2.2.2.1 ∧ sy v.2.2.2.2.1 ∧ sy v.2.2.2.2.2.1 ∧ (∀ t, t < v.1 → 1 ≤ v.2.2.1 t) ∧ ∀ x, v.2.2.2.2.2.2 x = 0
def rC (x : Nat) (v : pv) : Prop := (x = 0 → v.1 = 0) ∧ (x ≠ 0 → ∃ C, v.2.1 = nI C ∧ 1 ≤ C ∧ C ≤ 120)
theorem prs_bit {f : Nat → Nat} {a b y z : Nat} {w : Bool} (hab : ¬ a = b) : (prs f a b w y).testBit z = true ↔ if (y = a ∧ z = b) ∨ (y = b ∧ z = a) then w = true else (f y).testBit z = true := by
  have pa : prs f a b w a = if w then f a ||| 2 ^ b else sdf (f a) (2 ^ b) := by
    unfold prs va_up; simp only [if_neg hab, if_true]
  have pb : prs f a b w b = if w then f b ||| 2 ^ a else sdf (f b) (2 ^ a) := by
    unfold prs va_up; simp only [if_neg (fun q => hab q.symm : ¬ b = a), if_true]
  have po : ∀ x, ¬ x = a → ¬ x = b → prs f a b w x = f x := fun x h1 h2 => by
    unfold prs va_up; simp only [if_neg h1, if_neg h2]
  have one : ∀ u t : Nat, (if w then u ||| 2 ^ t else sdf u (2 ^ t)).testBit z = true ↔ if z = t then w = true else u.testBit z = true := by
    intro u t
    cases w
    · show (sdf u (2 ^ t)).testBit z = true ↔ _
      rw [bit_sdf, Nat.testBit_two_pow, decide_eq_true_eq]
      by_cases e : z = t
      · rw [if_pos e]; exact ⟨fun q => absurd e.symm q.2, fun q => by cases q⟩
      · rw [if_neg e]; exact ⟨fun q => q.1, fun q => ⟨q, fun z => e z.symm⟩⟩
    · show (u ||| 2 ^ t).testBit z = true ↔ _
      rw [bit_or, Nat.testBit_two_pow, decide_eq_true_eq]
      by_cases e : z = t
      · rw [if_pos e]; exact ⟨fun _ => rfl, fun _ => Or.inr e.symm⟩
      · rw [if_neg e]; exact ⟨fun q => q.elim id (fun q => absurd q.symm e), fun q => Or.inl q⟩
  by_cases e1 : y = a
  · subst e1
    rw [pa, one]
    by_cases e2 : z = b
    · rw [if_pos e2, if_pos (Or.inl ⟨rfl, e2⟩)]
    · rw [if_neg e2, if_neg (fun q => q.elim (fun q => e2 q.2) (fun q => hab q.1))]
  · by_cases e3 : y = b
    · subst e3
      rw [pb, one]
      by_cases e2 : z = a
      · rw [if_pos e2, if_pos (Or.inr ⟨rfl, e2⟩)]
      · rw [if_neg e2, if_neg (fun q => q.elim (fun q => e1 q.1) (fun q => e2 q.2))]
    · rw [po y e1 e3, if_neg (fun q => q.elim (fun q => e1 q.1) (fun q => e3 q.1))]
theorem prs_no {f : Nat → Nat} {a b : Nat} (hab : ¬ a = b) (h1 : ¬ (f a).testBit b = true) (h2 : ¬ (f b).testBit a = true) : prs f a b false = f := by
  funext y
  apply tb_ext
  intro z
  rw [prs_bit hab]
  by_cases w : (y = a ∧ z = b) ∨ (y = b ∧ z = a)
  · rw [if_pos w]
    refine ⟨fun q => (by cases q), fun q => ?_⟩
    rcases w with ⟨rfl, rfl⟩ | ⟨rfl, rfl⟩
    · exact absurd q h1
    · exact absurd q h2
  · rw [if_neg w]
theorem prs_sy {f : Nat → Nat} {a b : Nat} {w : Bool} (hab : ¬ a = b) (h : sy f) : sy (prs f a b w) := by
  intro y z hz
  rw [prs_bit hab] at hz ⊢
  by_cases q : (y = a ∧ z = b) ∨ (y = b ∧ z = a)
  · rw [if_pos q] at hz
    rw [if_pos (by omega)]; exact hz
  · rw [if_neg q] at hz
    rw [if_neg (by omega)]; exact h y z hz
/-- zones set anew: never both -/
theorem prOk_zone {B A J : Nat → Nat} {a b : Nat} {w1 w2 : Bool} (hab : ¬ a = b) (hw : ¬ (w1 = true ∧ w2 = true)) (h : prOk B A J) : prOk B (prs A a b w1) (prs J a b w2) := by
  refine ⟨h.1, fun y z h1 h2 => ?_, fun y h2 => ?_⟩
  · rw [prs_bit hab] at h1 h2
    by_cases q : (y = a ∧ z = b) ∨ (y = b ∧ z = a)
    · rw [if_pos q] at h1 h2; exact hw ⟨h1, h2⟩
    · rw [if_neg q] at h1 h2; exact h.2.1 y z h1 h2
  · rw [prs_bit hab, if_neg (by omega)] at h2
    exact h.2.2 y h2
theorem ordB_bit {B : Nat → Nat} {x y a b : Nat} {w : Bool} : (ordB B x y w b).testBit a = true ↔ if b = y ∧ a = x then w = true else (B b).testBit a = true := by
  unfold ordB
  by_cases e : b = y
  · subst e
    rw [up_eq]
    cases w
    · show (sdf (B b) (2 ^ x)).testBit a = true ↔ _
      rw [bit_sdf, Nat.testBit_two_pow, decide_eq_true_eq]
      by_cases e2 : a = x
      · rw [if_pos ⟨rfl, e2⟩]; exact ⟨fun q => absurd e2.symm q.2, fun q => by cases q⟩
      · rw [if_neg (fun q => e2 q.2)]; exact ⟨fun q => q.1, fun q => ⟨q, fun z => e2 z.symm⟩⟩
    · show (B b ||| 2 ^ x).testBit a = true ↔ _
      rw [bit_or, Nat.testBit_two_pow, decide_eq_true_eq]
      by_cases e2 : a = x
      · rw [if_pos ⟨rfl, e2⟩]; exact ⟨fun _ => rfl, fun _ => Or.inr e2.symm⟩
      · rw [if_neg (fun q => e2 q.2)]; exact ⟨fun q => q.elim id (fun q => absurd q.symm e2), fun q => Or.inl q⟩
  · rw [up_ne e, if_neg (fun q => e q.1)]
/-- an order more or fewer -/
theorem prOk_ord {B A J : Nat → Nat} {n x y : Nat} {w : Bool} (hbo : boK n B) (hx : x < n) (hxy : ¬ x = y) (hno : ¬ ((B y).testBit x = w ∨ (w = true ∧ (ab_r B y n n).testBit x = true))) (h : prOk B A J) : prOk (ordB B x y w) A J := by
  refine ⟨fun a b h1 h2 => ?_, h.2⟩
  rw [ordB_bit] at h1 h2
  have key : w = true → ¬ (B x).testBit y = true := fun hw q => hno (Or.inr ⟨hw, (round_iff hbo hx).mpr ((aa_iff hbo.up.1 hbo.up.2 y).mpr ⟨0, q⟩)⟩)
  by_cases q1 : b = y ∧ a = x
  · rw [if_pos q1] at h1
    rw [if_neg (by omega), q1.1, q1.2] at h2
    exact key h1 h2
  · rw [if_neg q1] at h1
    by_cases q2 : a = y ∧ b = x
    · rw [if_pos q2] at h2
      rw [q2.1, q2.2] at h1
      exact key h2 h1
    · rw [if_neg q2] at h2
      exact h.1 a b h1 h2
theorem boK_ord {B : Nat → Nat} {n x y : Nat} {w : Bool} (h : boK n B) (hx : x < n) (hy : y < n) : boK n (ordB B x y w) := by
  refine ⟨h.1, fun z hz => ?_, fun z => tb_lt fun i hi => ?_⟩
  · unfold ordB
    rw [up_ne (by omega)]; exact h.2.1 z hz
  · cases q : (ordB B x y w z).testBit i
    · rfl
    · rw [ordB_bit] at q
      by_cases e : z = y ∧ i = x
      · omega
      · rw [if_neg e, tb_ge (h.2.2 z) hi] at q
        cases q
theorem rV_C {v : pv} {c : Int32} (h : rV v) : rV (pvC v c) := h
theorem rV_T {v : pv} {k : Nat} (h : rV v) (hn : v.1 < 12) (hk : 1 ≤ k ∧ k ≤ 60) : rV (pvT v k) := by
  obtain ⟨h1, h2, h3, h4, h5, h6, h7⟩ := h
  refine ⟨⟨hn, up1_le h1.2.1 hk.2, h1.2.2⟩, ⟨hn, fun x hx => h2.2.1 x (by have : v.1 + 1 ≤ x := hx; omega), fun x => Nat.lt_of_lt_of_le (h2.2.2 x) (Nat.pow_le_pow_right (by omega) (Nat.le_succ _))⟩, h3, h4, h5, fun t ht => ?_, h7⟩
  show 1 ≤ va_up v.2.2.1 v.1 k t
  have ht : t < v.1 + 1 := ht
  by_cases e : t = v.1
  · rw [e, up_eq]; exact hk.1
  · rw [up_ne e]; exact h6 t (by omega)
theorem rV_P {L : Nat → Nat} {x : Nat} {v w : pv} (h : rV v) (hi : itP L x v = some w) : rV w ∧ w.2.1 = v.2.1 ∧ w.1 = v.1 := by
  obtain ⟨h1, h2, h3, h4, h5, h6, h7⟩ := h
  unfold itP at hi
  by_cases q : (97 ≤ L (x + 1) ∧ L (x + 1) - 97 < v.1) ∧ (97 ≤ L (x + 2) ∧ L (x + 2) - 97 < v.1) ∧ L (x + 1) ≠ L (x + 2)
  · rw [if_pos q] at hi
    have hab : ¬ L (x + 1) - 97 = L (x + 2) - 97 := by omega
    obtain ⟨a, ea⟩ : ∃ z, L (x + 1) - 97 = z := ⟨_, rfl⟩
    obtain ⟨b, eb⟩ : ∃ z, L (x + 2) - 97 = z := ⟨_, rfl⟩
    rw [ea, eb] at hi hab
    have ha : a < v.1 := by omega
    have hb : b < v.1 := by omega
    have n12 := h1.1
    by_cases q1 : L x = 112
    · rw [if_pos q1] at hi
      by_cases q2 : (v.2.2.2.1 b).testBit a = true ∨ (ab_r v.2.2.2.1 b v.1 v.1).testBit a = true
      · rw [if_pos q2] at hi; cases hi
      · rw [if_neg q2] at hi
        cases hi
        have hno : ¬ ((v.2.2.2.1 b).testBit a = true ∨ (true = true ∧ (ab_r v.2.2.2.1 b v.1 v.1).testBit a = true)) := fun z => q2 (z.elim Or.inl (fun z => Or.inr z.2))
        exact ⟨⟨pw.ord h1 (by omega) true, boK_ord (w := true) h2 ha hb, prOk_ord h2 ha hab hno h3, h4, h5, h6, h7⟩, rfl, rfl⟩
    · rw [if_neg q1] at hi
      by_cases q2 : (v.2.2.2.2.1 a).testBit b = true ∨ (v.2.2.2.2.2.1 a).testBit b = true
      · rw [if_pos q2] at hi; cases hi
      · rw [if_neg q2] at hi
        cases hi
        refine ⟨⟨⟨h1.1, h1.2.1, h1.2.2.1, prs_lt h1.2.2.2.1 (by omega) (by omega), prs_lt h1.2.2.2.2.1 (by omega) (by omega), h1.2.2.2.2.2⟩, h2, prOk_zone hab (fun z => ?_) h3, prs_sy hab h4, prs_sy hab h5, h6, h7⟩, rfl, rfl⟩
        have z1 := of_decide_eq_true z.1
        have z2 := of_decide_eq_true z.2
        exact z2 z1
  · rw [if_neg q] at hi; cases hi
theorem rV_it {L : Nat → Nat} {len x s : Nat} {v w : pv} (h : rV v) (hc : rC x v) (hi : mIt L len x v = some (w, s)) : rV w ∧ rC (s + 1) w := by
  unfold mIt at hi
  by_cases w0 : x = 0
  · subst w0
    rw [if_pos rfl] at hi
    by_cases q : L 0 = 99 ∧ 1 < (mn L len 3 1 0).1 ∧ 1 ≤ (mn L len 3 1 0).2 ∧ (mn L len 3 1 0).2 ≤ 120
    · rw [if_pos q] at hi
      cases hi
      exact ⟨rV_C h, fun z => absurd z (by omega), fun _ => ⟨_, rfl, q.2.2⟩⟩
    · rw [if_neg q] at hi; cases hi
  · rw [if_neg w0] at hi
    have hC := hc.2 w0
    by_cases w1 : L x = 116
    · rw [if_pos w1] at hi
      by_cases q : x + 1 < (mn L len 2 (x + 1) 0).1 ∧ (1 ≤ (mn L len 2 (x + 1) 0).2 ∧ (mn L len 2 (x + 1) 0).2 ≤ 60) ∧ v.1 < 12
      · rw [if_pos q] at hi
        cases hi
        exact ⟨rV_T h q.2.2 q.2.1, fun z => absurd z (by omega), fun _ => hC⟩
      · rw [if_neg q] at hi; cases hi
    · rw [if_neg w1] at hi
      by_cases w2 : L x = 112 ∨ L x = 120 ∨ L x = 106
      · rw [if_pos w2] at hi
        by_cases w3 : x + 2 < len
        · rw [if_pos w3] at hi
          cases hp : itP L x v with
          | none => rw [hp] at hi; cases hi
          | some u =>
            rw [hp] at hi
            have hi : some (u, x + 3) = some (w, s) := hi
            cases hi
            obtain ⟨a1, a2, a3⟩ := rV_P h hp
            exact ⟨a1, fun z => absurd z (by omega), fun _ => by rw [a2]; exact hC⟩
        · rw [if_neg w3] at hi; cases hi
      · rw [if_neg w2] at hi; cases hi
theorem rV_0 : rV pv0 := by
  refine ⟨pwv0, ⟨Nat.zero_le _, fun _ _ => rfl, fun _ => by show 0 < 2 ^ 0; omega⟩, ⟨fun a b h => ?_, fun a b h => ?_, fun a h => ?_⟩, fun a b h => ?_, fun a b h => ?_, fun t ht => by have : t < 0 := ht; omega, fun _ => rfl⟩
  all_goals (exfalso; have h : (0 : Nat).testBit _ = true := h; simp at h)
theorem rC_0 : rC 0 pv0 := ⟨fun _ => rfl, fun h => absurd rfl h⟩
/-- what is laid is a plan -/
theorem rV_ok {v : pv} {x : Nat} (h : rV v) (hc : rC x v) (hn : 0 < v.1) : ∃ C, v = (v.1, nI C, v.2.2.1, v.2.2.2.1, v.2.2.2.2.1, v.2.2.2.2.2.1, v.2.2.2.2.2.2) ∧ vOk v.1 C v.2.2.1 v.2.2.2.1 v.2.2.2.2.1 v.2.2.2.2.2.1 v.2.2.2.2.2.2 := by
  obtain ⟨h1, h2, h3, h4, h5, h6, h7⟩ := h
  have : x ≠ 0 := fun q => by have := hc.1 q; omega
  obtain ⟨C, c1, c2⟩ := hc.2 this
  refine ⟨C, ?_, hn, h1, c2, h3, h2.2.1, h2.2.2, h6⟩
  rw [← c1]
theorem rd_ok {L : Nat → Nat} {len : Nat} : ∀ k x v, rV v → rC x v → (rdC L len k x v).1 = none → ∃ y, rV (rdC L len k x v).2 ∧ rC y (rdC L len k x v).2 := by
  intro k
  induction k with
  | zero => intro x v h1 h2 _; exact ⟨x, h1, h2⟩
  | succ k ih =>
    intro x v h1 h2 h3
    rw [rdC_eq] at h3 ⊢
    by_cases w0 : len ≤ x
    · rw [if_pos w0] at h3 ⊢; exact ⟨x, h1, h2⟩
    · rw [if_neg w0] at h3 ⊢
      cases hm : mIt L len x v with
      | none => rw [hm] at h3; cases h3
      | some p =>
        obtain ⟨w, s⟩ := p
        rw [hm] at h3
        have h3 : (if s < len ∧ L s = 59 then rdC L len k (s + 1) w else (some x, v)).1 = none := h3
        show ∃ y, rV (if s < len ∧ L s = 59 then rdC L len k (s + 1) w else (some x, v)).2 ∧ rC y (if s < len ∧ L s = 59 then rdC L len k (s + 1) w else (some x, v)).2
        by_cases q : s < len ∧ L s = 59
        · rw [if_pos q] at h3 ⊢
          obtain ⟨a1, a2⟩ := rV_it h1 h2 hm
          exact ih (s + 1) w a1 a2 h3
        · rw [if_neg q] at h3; cases h3
