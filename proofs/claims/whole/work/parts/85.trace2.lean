/-! GOING BACK: what is left of it. -/
/-- e is a step behind d, as levels tell -/
def bkr (l ne : Nat → Nat) (d e : Nat) : Bool := decide (d &&& e = d) && okT l ne e (sdf e d)
section TR
variable {W K : Nat} {l ne sp pl0 : Nat → Nat}
theorem bkr_iff {d e : Nat} (he : sub e W) : bkr l ne d e = true ↔ ∃ t, ed W ne d t ∧ e = d ||| t ∧ l d + 1 = l e := by
  unfold bkr okT
  rw [Bool.and_eq_true, decide_eq_true_eq, decide_eq_true_eq]
  constructor
  · rintro ⟨h1, h2, h3, h4, h5⟩
    rw [sdf_sdf h1] at h4 h5
    exact ⟨sdf e d, ⟨sub_trans (sdf_sub _ _) he, and_0.mpr fun i i1 i2 => (bit_sdf.mp i2).2 i1, h3, h5⟩, (or_sdf h1).symm, h4⟩
  · rintro ⟨t, h1, h2, h3⟩
    have e1 : sdf e d = t := by rw [h2]; exact sdf_or h1.2.1
    have s1 : sub d e := by rw [h2]; exact sub_or_l _ _
    have s2 : sub t e := by rw [h2]; exact sub_or_r _ _
    have e2 : sdf e t = d := by rw [← e1]; exact sdf_sdf s1
    rw [e1, e2]
    exact ⟨s1, s2, h1.2.2.1, h3, h1.2.2.2⟩
theorem bkr_lt {d e : Nat} (h : bkr l ne d e = true) : d < e := by
  unfold bkr okT at h
  rw [Bool.and_eq_true, decide_eq_true_eq, decide_eq_true_eq] at h
  have h1 : sub d e := h.1
  have h2 := h.2.2.1
  have := sub_le h1
  apply Nat.lt_of_le_of_ne this
  intro q
  rw [q, sdf_eq0.mpr (sub_rfl e)] at h2
  omega
theorem bkr_l (hl : lvG W 0 (fun _ => 0) ne l K) {d e : Nat} (h : bkr l ne d e = true) : 1 ≤ l e ∧ l e ≤ 12 := by
  unfold bkr okT at h
  rw [Bool.and_eq_true, decide_eq_true_eq, decide_eq_true_eq] at h
  have h3 := h.2.2.2.1
  rw [sdf_sdf h.1] at h3
  have b1 := hl.1 e
  have b2 := hl.2.1 d (by omega)
  have b3 := hl.2.1 e (by omega)
  omega
theorem cap_add (M a b : Nat) : min M (min M a + b) = min M (a + b) := by omega
abbrev twi (W : Nat) (l ne sp pl0 : Nat → Nat) (i : Nat) : Nat → Nat := (trc W l ne sp pl0 i).1
abbrev tpi (W : Nat) (l ne sp pl0 : Nat → Nat) (i : Nat) : Nat → Nat := (trc W l ne sp pl0 i).2.1
abbrev thi (W : Nat) (l ne sp pl0 : Nat → Nat) (i : Nat) : Nat → Nat := (trc W l ne sp pl0 i).2.2
theorem tw_cond {d th : Nat} : (d &&& th = d ∧ 0 < sdf th d ∧ okT l ne th (sdf th d) = true) ↔ bkr l ne d th = true := by
  unfold bkr
  rw [Bool.and_eq_true, decide_eq_true_eq]
  constructor
  · rintro ⟨h1, -, h3⟩; exact ⟨h1, h3⟩
  · rintro ⟨h1, h3⟩
    refine ⟨h1, ?_, h3⟩
    unfold okT at h3
    rw [decide_eq_true_eq] at h3
    exact h3.2.1
theorem w_step (hl : lvG W 0 (fun _ => 0) ne l K) (i d : Nat) (hb : twi W l ne sp pl0 i d ≤ 1000000) : twi W l ne sp pl0 (i + 1) d = min 1000000 (twi W l ne sp pl0 i d + if bkr l ne d (W - i) = true then twi W l ne sp pl0 i (W - i) else 0) := by
  show (trc W l ne sp pl0 (i + 1)).1 d = _
  simp only [trc]
  by_cases q : 0 < (trc W l ne sp pl0 i).1 (W - i) ∧ 1 ≤ l (W - i) ∧ l (W - i) ≤ 12
  · rw [if_pos q]
    show tW l ne _ _ 0 d = _
    unfold tW
    simp only [tw_cond]
    by_cases w : bkr l ne d (W - i) = true
    · rw [if_pos w, if_pos w]
    · rw [if_neg w, if_neg w, Nat.add_zero]
      exact (Nat.min_eq_right hb).symm
  · rw [if_neg q]
    by_cases w : bkr l ne d (W - i) = true
    · have := bkr_l hl w
      have : (trc W l ne sp pl0 i).1 (W - i) = 0 := by
        apply Nat.eq_zero_of_not_pos
        intro z
        exact q ⟨z, this⟩
      rw [if_pos w]
      show _ = min 1000000 ((trc W l ne sp pl0 i).1 d + (trc W l ne sp pl0 i).1 (W - i))
      rw [this, Nat.add_zero]
      exact (Nat.min_eq_right hb).symm
    · rw [if_neg w, Nat.add_zero]
      exact (Nat.min_eq_right hb).symm
theorem tr_stay {i e : Nat} (h : W - i ≤ e) : twi W l ne sp pl0 (i + 1) e = twi W l ne sp pl0 i e ∧ tpi W l ne sp pl0 (i + 1) e = tpi W l ne sp pl0 i e := by
  have nb : ¬ bkr l ne e (W - i) = true := fun q => by have := bkr_lt q; omega
  show (trc W l ne sp pl0 (i + 1)).1 e = _ ∧ (trc W l ne sp pl0 (i + 1)).2.1 e = _
  simp only [trc]
  by_cases q : 0 < (trc W l ne sp pl0 i).1 (W - i) ∧ 1 ≤ l (W - i) ∧ l (W - i) ≤ 12
  · rw [if_pos q]
    constructor
    · show tW l ne _ _ 0 e = _
      unfold tW
      simp only [tw_cond]
      rw [if_neg nb]
    · show tP l ne sp _ _ _ 0 e = _
      unfold tP
      simp only [tw_cond]
      rw [if_neg (fun z => nb z.1)]
  · rw [if_neg q]; exact ⟨rfl, rfl⟩
theorem tr_stays {i e : Nat} (h : W - i ≤ e) : ∀ x, twi W l ne sp pl0 (i + x) e = twi W l ne sp pl0 i e ∧ tpi W l ne sp pl0 (i + x) e = tpi W l ne sp pl0 i e := by
  intro x
  induction x with
  | zero => exact ⟨rfl, rfl⟩
  | succ x ih =>
    have := tr_stay (l := l) (ne := ne) (sp := sp) (pl0 := pl0) (show W - (i + x) ≤ e by omega)
    exact ⟨this.1.trans ih.1, this.2.trans ih.2⟩
theorem tr_fin {i e : Nat} (hi : i ≤ W) (h : W - i ≤ e) : twi W l ne sp pl0 W e = twi W l ne sp pl0 i e ∧ tpi W l ne sp pl0 W e = tpi W l ne sp pl0 i e := by
  have := tr_stays (l := l) (ne := ne) (sp := sp) (pl0 := pl0) h (W - i)
  rwa [show i + (W - i) = W by omega] at this
theorem w_le : ∀ i d, twi W l ne sp pl0 i d ≤ 1000000 := by
  intro i
  induction i with
  | zero => intro d; show va_up (fun _ => 0) W 1 d ≤ _; unfold va_up; split; omega; exact Nat.zero_le _
  | succ i ih =>
    intro d
    show (trc W l ne sp pl0 (i + 1)).1 d ≤ _
    simp only [trc]
    split
    · show tW l ne _ _ _ d ≤ _; unfold tW; split; exact Nat.min_le_left _ _; exact ih d
    · exact ih d
theorem w_sum (hl : lvG W 0 (fun _ => 0) ne l K) (d : Nat) : ∀ i, i ≤ W → twi W l ne sp pl0 i d = min 1000000 ((if d = W then 1 else 0) + nsum (fun e => if W - i < e ∧ bkr l ne d e = true then twi W l ne sp pl0 W e else 0) (W + 1)) := by
  intro i
  induction i with
  | zero =>
    intro _
    rw [nsum_0 (W + 1) (fun x hx => if_neg (by omega)), Nat.add_zero]
    show (if d = W then 1 else 0) = _
    split <;> rfl
  | succ i ih =>
    intro hi
    rw [w_step hl i d (w_le i d), ih (by omega)]
    have e1 : nsum (fun e => if W - (i + 1) < e ∧ bkr l ne d e = true then twi W l ne sp pl0 W e else 0) (W + 1) = nsum (fun e => if W - i < e ∧ bkr l ne d e = true then twi W l ne sp pl0 W e else 0) (W + 1) + (if W - (i + 1) < W - i ∧ bkr l ne d (W - i) = true then twi W l ne sp pl0 W (W - i) else 0) := by
      refine nsum_one (x0 := W - i) (W + 1) (by omega) (fun x hx hne => ?_) (if_neg (fun q => absurd q.1 (Nat.lt_irrefl _)))
      by_cases w : bkr l ne d x = true
      · by_cases w2 : W - i < x
        · rw [if_pos ⟨by omega, w⟩, if_pos ⟨w2, w⟩]
        · rw [if_neg (fun q => by omega), if_neg (fun q => w2 q.1)]
      · rw [if_neg (fun q => w q.2), if_neg (fun q => w q.2)]
    rw [e1, (tr_fin (l := l) (ne := ne) (sp := sp) (pl0 := pl0) (show i ≤ W by omega) (Nat.le_refl _)).1]
    by_cases w : bkr l ne d (W - i) = true
    · rw [if_pos (c := bkr l ne d (W - i) = true) w, if_pos (c := W - (i + 1) < W - i ∧ bkr l ne d (W - i) = true) ⟨by omega, w⟩, cap_add, Nat.add_assoc]
    · rw [if_neg (c := bkr l ne d (W - i) = true) w, if_neg (c := W - (i + 1) < W - i ∧ bkr l ne d (W - i) = true) (fun q => w q.2), cap_add, Nat.add_assoc]
theorem w_W (hl : lvG W 0 (fun _ => 0) ne l K) : twi W l ne sp pl0 W W = 1 := by
  rw [w_sum hl W W (Nat.le_refl _), if_pos rfl, nsum_0 (W + 1) (fun x hx => if_neg (fun q => by have := bkr_lt q.2; omega))]
  rfl
theorem w_d (hl : lvG W 0 (fun _ => 0) ne l K) {d : Nat} (hd : d < W) : twi W l ne sp pl0 W d = min 1000000 (nsum (fun e => if bkr l ne d e = true then twi W l ne sp pl0 W e else 0) (W + 1)) := by
  rw [w_sum hl d W (Nat.le_refl _), if_neg (by omega), Nat.zero_add]
  congr 1
  refine nsum_c _ (fun x hx => ?_)
  by_cases w : bkr l ne d x = true
  · have := bkr_lt w
    rw [if_pos w, if_pos ⟨by omega, w⟩]
  · rw [if_neg w, if_neg (fun q => w q.2)]
theorem p_W : tpi W l ne sp pl0 W W = 0 := by
  rw [(tr_fin (l := l) (ne := ne) (sp := sp) (pl0 := pl0) (Nat.zero_le _) (by omega)).2]
  show va_up pl0 W 0 W = 0
  exact up_eq
theorem p_inv (hl : lvG W 0 (fun _ => 0) ne l K) {d : Nat} (hd : d < W) : ∀ i, i ≤ W → (0 < twi W l ne sp pl0 i d → ∃ e, W - i < e ∧ e ≤ W ∧ bkr l ne d e = true ∧ 0 < twi W l ne sp pl0 W e ∧ tpi W l ne sp pl0 i d = tpi W l ne sp pl0 W e ||| sp (sdf e d) * l e) ∧ ∀ e, W - i < e → e ≤ W → bkr l ne d e = true → 0 < twi W l ne sp pl0 W e → 0 < twi W l ne sp pl0 i d ∧ tpi W l ne sp pl0 i d ≤ tpi W l ne sp pl0 W e ||| sp (sdf e d) * l e := by
  intro i
  induction i with
  | zero =>
    intro _
    refine ⟨fun h => ?_, fun e h1 h2 => by omega⟩
    have : twi W l ne sp pl0 0 d = 0 := up_ne (f := fun _ => 0) (k := W) (v := 1) (show ¬ d = W by omega)
    omega
  | succ i ih =>
    intro hi
    obtain ⟨ih1, ih2⟩ := ih (by omega)
    have ws := w_step (sp := sp) (pl0 := pl0) hl i d (w_le i d)
    have fin := tr_fin (l := l) (ne := ne) (sp := sp) (pl0 := pl0) (show i ≤ W by omega) (Nat.le_refl (W - i))
    have wle := w_le (W := W) (l := l) (ne := ne) (sp := sp) (pl0 := pl0) i d
    by_cases w : bkr l ne d (W - i) = true ∧ 0 < twi W l ne sp pl0 i (W - i)
    · have ll := bkr_l hl w.1
      rw [if_pos w.1] at ws
      -- the step is taken
      have ps : tpi W l ne sp pl0 (i + 1) d = if twi W l ne sp pl0 i d = 0 ∨ tpi W l ne sp pl0 i (W - i) ||| sp (sdf (W - i) d) * l (W - i) < tpi W l ne sp pl0 i d then tpi W l ne sp pl0 i (W - i) ||| sp (sdf (W - i) d) * l (W - i) else tpi W l ne sp pl0 i d := by
        show (trc W l ne sp pl0 (i + 1)).2.1 d = _
        simp only [trc]
        rw [if_pos ⟨w.2, ll⟩]
        show tP l ne sp _ _ _ 0 d = _
        unfold tP
        simp only [tw_cond]
        by_cases z : twi W l ne sp pl0 i d = 0 ∨ tpi W l ne sp pl0 i (W - i) ||| sp (sdf (W - i) d) * l (W - i) < tpi W l ne sp pl0 i d
        · rw [if_pos ⟨w.1, z⟩, if_pos z]
        · rw [if_neg (fun q => z q.2), if_neg z]
      have wpos : 0 < twi W l ne sp pl0 (i + 1) d := by rw [ws]; omega
      rw [← fin.2] at ps
      have w2 : 0 < twi W l ne sp pl0 W (W - i) := by rw [fin.1]; exact w.2
      by_cases z : twi W l ne sp pl0 i d = 0 ∨ tpi W l ne sp pl0 W (W - i) ||| sp (sdf (W - i) d) * l (W - i) < tpi W l ne sp pl0 i d
      · rw [if_pos z] at ps
        refine ⟨fun _ => ⟨W - i, by omega, by omega, w.1, w2, ps⟩, fun e e1 e2 e3 e4 => ⟨wpos, ?_⟩⟩
        rw [ps]
        by_cases q : e = W - i
        · rw [q]; exact Nat.le_refl _
        · have := ih2 e (by omega) e2 e3 e4
          rcases z with z | z
          · omega
          · omega
      · rw [if_neg z] at ps
        refine ⟨fun _ => ?_, fun e e1 e2 e3 e4 => ⟨wpos, ?_⟩⟩
        · obtain ⟨e, e1, e2⟩ := ih1 (by omega)
          exact ⟨e, by omega, by rw [ps]; exact e2⟩
        · rw [ps]
          by_cases q : e = W - i
          · rw [q]; omega
          · exact (ih2 e (by omega) e2 e3 e4).2
    · -- nothing changes
      have ps : tpi W l ne sp pl0 (i + 1) d = tpi W l ne sp pl0 i d := by
        show (trc W l ne sp pl0 (i + 1)).2.1 d = _
        simp only [trc]
        split
        · rename_i q
          show tP l ne sp _ _ _ 0 d = _
          unfold tP
          simp only [tw_cond]
          rw [if_neg (fun z => w ⟨z.1, q.1⟩)]
        · rfl
      have ww : twi W l ne sp pl0 (i + 1) d = twi W l ne sp pl0 i d := by
        rw [ws]
        by_cases q : bkr l ne d (W - i) = true
        · have : twi W l ne sp pl0 i (W - i) = 0 := Nat.eq_zero_of_not_pos fun z => w ⟨q, z⟩
          rw [if_pos q, this]; omega
        · rw [if_neg q]; omega
      rw [ps, ww]
      refine ⟨fun h => ?_, fun e e1 e2 e3 e4 => ?_⟩
      · obtain ⟨e, e1, e2⟩ := ih1 h
        exact ⟨e, by omega, e2⟩
      · by_cases q : e = W - i
        · rw [q] at e3 e4
          rw [fin.1] at e4
          exact absurd ⟨e3, e4⟩ w
        · exact ih2 e (by omega) e2 e3 e4
theorem h_inv (hl : lvG W 0 (fun _ => 0) ne l K) (k x : Nat) : ∀ i, i ≤ W → ((thi W l ne sp pl0 i k).testBit x = true ↔ ∃ e t, W - i < e ∧ e ≤ W ∧ 0 < twi W l ne sp pl0 W e ∧ l e = k ∧ okT l ne e t = true ∧ t.testBit x = true) := by
  intro i
  induction i with
  | zero =>
    intro _
    constructor
    · intro h
      have : (0 : Nat).testBit x = true := h
      simp at this
    · rintro ⟨e, t, e1, e2, -⟩; omega
  | succ i ih =>
    intro hi
    have ih := ih (by omega)
    have fin := tr_fin (l := l) (ne := ne) (sp := sp) (pl0 := pl0) (show i ≤ W by omega) (Nat.le_refl (W - i))
    show ((trc W l ne sp pl0 (i + 1)).2.2 k).testBit x = true ↔ _
    simp only [trc]
    by_cases q : 0 < (trc W l ne sp pl0 i).1 (W - i) ∧ 1 ≤ l (W - i) ∧ l (W - i) ≤ 12
    · rw [if_pos q]
      show (va_up (trc W l ne sp pl0 i).2.2 (l (W - i)) (tH l ne (trc W l ne sp pl0 i).2.2 (W - i) 0) k).testBit x = true ↔ _
      by_cases w : k = l (W - i)
      · subst w
        rw [up_eq]
        unfold tH
        rw [bit_or, ih, orS_bit]
        constructor
        · rintro (⟨e, t, e1, e2⟩ | ⟨t, t1, t2, t3⟩)
          · exact ⟨e, t, by omega, e2⟩
          · rw [Bool.and_eq_true] at t2
            exact ⟨W - i, t, by omega, by omega, by rw [fin.1]; exact q.1, rfl, t2.2, t3⟩
        · rintro ⟨e, t, e1, e2, e3, e4, e5, e6⟩
          by_cases z : e = W - i
          · subst z
            have := e5
            unfold okT at this
            rw [decide_eq_true_eq] at this
            have h1 : sub t (W - i) := this.1
            have := sub_le h1
            exact Or.inr ⟨t, by omega, by rw [e5, decide_eq_true (by omega)]; rfl, e6⟩
          · exact Or.inl ⟨e, t, by omega, e2, e3, e4, e5, e6⟩
      · rw [up_ne w, ih]
        constructor
        · rintro ⟨e, t, e1, e2⟩; exact ⟨e, t, by omega, e2⟩
        · rintro ⟨e, t, e1, e2, e3, e4, e5⟩
          by_cases z : e = W - i
          · rw [z] at e4; exact absurd e4.symm w
          · exact ⟨e, t, by omega, e2, e3, e4, e5⟩
    · rw [if_neg q, ih]
      constructor
      · rintro ⟨e, t, e1, e2⟩; exact ⟨e, t, by omega, e2⟩
      · rintro ⟨e, t, e1, e2, e3, e4, e5, e6⟩
        by_cases z : e = W - i
        · subst z
          rw [fin.1] at e3
          refine absurd ⟨e3, ?_⟩ q
          -- a step back: its level is one
          have := e5
          unfold okT at this
          rw [decide_eq_true_eq] at this
          have b1 := hl.1 (W - i)
          have b2 := hl.2.1 (sdf (W - i) t) (by omega)
          have b3 := hl.2.1 (W - i) (by omega)
          omega
        · exact ⟨e, t, by omega, e2, e3, e4, e5, e6⟩
end TR
