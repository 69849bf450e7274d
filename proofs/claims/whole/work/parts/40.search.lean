/-! THE MATHEMATICS OF THE SEARCH: what is done behind station k; levels are the least such k. -/
/-- s can be a station behind d -/
def ed (W : Nat) (ne : Nat → Nat) (d s : Nat) : Prop := sub s W ∧ d &&& s = 0 ∧ 0 < s ∧ sdf (ne s) d = 0
/-- d is just what is done behind station k, fi j being fixed in station j -/
def rch (W fx : Nat) (fi ne : Nat → Nat) : Nat → Nat → Prop
  | 0, e => e = 0
  | k + 1, e => (rch W fx fi ne k e ∧ fi (k + 1) = 0) ∨ ∃ d s, rch W fx fi ne k d ∧ ed W ne d s ∧ s &&& fx = fi (k + 1) ∧ e = d ||| s
/-- from d, done behind station k, all is done behind j stations more -/
def fwd (W fx : Nat) (fi ne : Nat → Nat) : Nat → Nat → Nat → Prop
  | 0, _, d => d = W
  | j + 1, k, d => (fwd W fx fi ne j (k + 1) d ∧ fi (k + 1) = 0) ∨ ∃ s, ed W ne d s ∧ s &&& fx = fi (k + 1) ∧ fwd W fx fi ne j (k + 1) (d ||| s)
/-- what is fixed is fixed in one station of 12 -/
def okF (W fx : Nat) (fi : Nat → Nat) : Prop := sub fx W ∧ fi 13 = 0 ∧ (∀ i, fx.testBit i = true ↔ ∃ k, 1 ≤ k ∧ k ≤ 12 ∧ (fi k).testBit i = true) ∧ ∀ j k i, 1 ≤ j → j ≤ 12 → 1 ≤ k → k ≤ 12 → (fi j).testBit i = true → (fi k).testBit i = true → j = k
theorem due_ok (fi : Nat → Nat) (u : Nat) : ∀ m, m ≤ 12 → (∀ j, 12 - m < j → j < sduL fi u m → fi j &&& u = 0) ∧ 12 - m < sduL fi u m ∧ (sduL fi u m = 13 ∨ (sduL fi u m ≤ 12 ∧ fi (sduL fi u m) &&& u ≠ 0)) := by
  intro m
  induction m with
  | zero => intro _; exact ⟨fun j h1 h2 => by simp only [sduL] at h2; omega, by simp only [sduL]; omega, Or.inl rfl⟩
  | succ m ih =>
    intro hm
    obtain ⟨h1, h2, h3⟩ := ih (by omega)
    simp only [sduL]
    split
    · rename_i q
      refine ⟨fun j j1 j2 => ?_, by omega, h3⟩
      by_cases w : j = 12 - m
      · rw [w]; exact q
      · exact h1 j (by omega) j2
    · rename_i q
      exact ⟨fun j j1 j2 => by omega, by omega, Or.inr ⟨by omega, q⟩⟩
theorem due_13 (fx : Nat) (fi : Nat → Nat) (d : Nat) : (∀ j, 0 < j → j < due fx fi d → fi j &&& sdf fx d = 0) ∧ 0 < due fx fi d ∧ (due fx fi d = 13 ∨ (due fx fi d ≤ 12 ∧ fi (due fx fi d) &&& sdf fx d ≠ 0)) := due_ok fi (sdf fx d) 12 (by omega)
section SE
variable {W fx : Nat} {fi ne : Nat → Nat}
theorem rch_sub : ∀ k e, rch W fx fi ne k e → sub e W := by
  intro k
  induction k with
  | zero => intro e h; rw [show e = 0 from h]; exact sub_0 W
  | succ k ih =>
    rintro e (h | ⟨d, s, h1, h2, h3, h4⟩)
    · exact ih e h.1
    · rw [h4]; exact or_sub (ih d h1) h2.1
theorem bit_and {a b i : Nat} : (a &&& b).testBit i = true ↔ a.testBit i = true ∧ b.testBit i = true := by rw [Nat.testBit_and, Bool.and_eq_true]
theorem bit_or {a b i : Nat} : (a ||| b).testBit i = true ↔ a.testBit i = true ∨ b.testBit i = true := by rw [Nat.testBit_or, Bool.or_eq_true]
theorem bit_sdf {a b i : Nat} : (sdf a b).testBit i = true ↔ a.testBit i = true ∧ ¬ b.testBit i = true := by rw [sdf_bit, Bool.and_eq_true, Bool.not_eq_true', Bool.not_eq_true]
theorem and_0 {a b : Nat} : a &&& b = 0 ↔ ∀ i, a.testBit i = true → ¬ b.testBit i = true := by
  rw [and_eq0]
  exact ⟨fun h i hi => by rw [h i hi]; decide, fun h i hi => by cases z : b.testBit i; rfl; exact absurd z (h i hi)⟩
theorem eq0_bit {a : Nat} : a = 0 ↔ ∀ i, ¬ a.testBit i = true := by
  constructor
  · intro h i; rw [h]; simp
  · intro h; apply tb_ext; intro i; simp [h i]
/-- of what is fixed, done is what is fixed in 1 to k -/
theorem rch_fx (hf : okF W fx fi) : ∀ k, k ≤ 12 → ∀ e, rch W fx fi ne k e → ∀ i, fx.testBit i = true → (e.testBit i = true ↔ ∃ j, 1 ≤ j ∧ j ≤ k ∧ (fi j).testBit i = true) := by
  intro k
  induction k with
  | zero =>
    intro _ e h i _
    rw [show e = 0 from h]
    constructor
    · intro z; simp at z
    · rintro ⟨j, j1, j2, -⟩; omega
  | succ k ih =>
    rintro hk e (⟨h, h0⟩ | ⟨d, s, h1, h2, h3, h4⟩) i hi
    · rw [ih (by omega) e h i hi]
      constructor
      · rintro ⟨j, j1, j2, j3⟩; exact ⟨j, j1, by omega, j3⟩
      · rintro ⟨j, j1, j2, j3⟩
        by_cases w : j = k + 1
        · rw [w, h0] at j3; simp at j3
        · exact ⟨j, j1, by omega, j3⟩
    · rw [h4, bit_or, ih (by omega) d h1 i hi]
      have hs : s.testBit i = true ↔ (fi (k + 1)).testBit i = true := by
        rw [← h3, bit_and]
        exact ⟨fun z => ⟨z, hi⟩, fun z => z.1⟩
      rw [hs]
      constructor
      · rintro (⟨j, j1, j2, j3⟩ | z)
        · exact ⟨j, j1, by omega, j3⟩
        · exact ⟨k + 1, by omega, by omega, z⟩
      · rintro ⟨j, j1, j2, j3⟩
        by_cases w : j = k + 1
        · rw [w] at j3; exact Or.inr j3
        · exact Or.inl ⟨j, j1, by omega, j3⟩
/-- stations up to the one that is due hold nothing fixed -/
theorem due_skip (hf : okF W fx fi) {k d : Nat} (hk : k ≤ 12) (h : rch W fx fi ne k d) : k < due fx fi d ∧ ∀ j, k < j → j < due fx fi d → fi j = 0 := by
  obtain ⟨d1, d2, d3⟩ := due_13 fx fi d
  have hb := rch_fx hf k hk d h
  constructor
  · rcases d3 with z | ⟨z1, z2⟩
    · omega
    · apply Nat.lt_of_not_le
      intro q
      apply z2
      rw [and_0]
      intro i hi
      rw [bit_sdf]
      rintro ⟨hx, hd⟩
      exact hd ((hb i hx).mpr ⟨_, by omega, q, hi⟩)
  · intro j j1 j2
    have du13 : due fx fi d ≤ 13 := (sduL_le fi _ 12 (by omega)).2
    rw [eq0_bit]
    intro i hi
    have hx : fx.testBit i = true := (hf.2.2.1 i).mpr ⟨j, by omega, by omega, hi⟩
    have hd : ¬ d.testBit i = true := by
      rw [hb i hx]
      rintro ⟨x, x1, x2, x3⟩
      have := hf.2.2.2 x j i x1 (by omega) (by omega) (by omega) x3 hi
      omega
    exact and_0.mp (d1 j (by omega) j2) i hi (bit_sdf.mpr ⟨hx, hd⟩)
theorem rch_skip {k d : Nat} (h : rch W fx fi ne k d) : ∀ x, (∀ j, k < j → j ≤ k + x → fi j = 0) → rch W fx fi ne (k + x) d := by
  intro x
  induction x with
  | zero => intro _; exact h
  | succ x ih => intro hx; exact Or.inl ⟨ih (fun j j1 j2 => hx j j1 (by omega)), hx (k + x + 1) (by omega) (by omega)⟩
/-- a level that is found is one -/
theorem rL_sound (hf : okF W fx fi) {C m : Nat} {su : Nat → Nat} (hm : m ≤ 12) : ∀ D e, rL W fx C m su fi ne D e < 1000 → rch W fx fi ne (rL W fx C m su fi ne D e) e ∧ rL W fx C m su fi ne D e ≤ 12 := by
  intro D
  induction D with
  | zero =>
    intro e h
    simp only [rL] at h ⊢
    split at h
    · rename_i q; rw [if_pos q]; exact ⟨q, by omega⟩
    · omega
  | succ D ih =>
    intro e h
    simp only [rL] at h ⊢
    split at h
    · rename_i q
      rw [if_pos q]
      obtain ⟨l, el⟩ : ∃ l, rL W fx C m su fi ne D = l := ⟨_, rfl⟩
      rw [el] at h ih q ⊢
      have q1 := (of_decide_eq_true q).1
      have hD := ih D (by omega)
      unfold stp stL at h ⊢
      by_cases z : D &&& e = D ∧ sdf e D &&& opn W fx (fi (due fx fi D)) D = sdf e D ∧ 0 < sdf e D ∧ sdf (ne (sdf e D)) D = 0 ∧ gos (fi (due fx fi D)) (l D + 1) (due fx fi D) (sdf e D) = true ∧ stn (fi (due fx fi D)) (l D + 1) (due fx fi D) (sdf e D) < l e
      · rw [if_pos z]
        obtain ⟨z1, z2, z3, z4, z5, z6⟩ := z
        obtain ⟨s1, s2⟩ := due_skip hf hD.2 hD.1
        have du13 : due fx fi D ≤ 13 := (sduL_le fi _ 12 (by omega)).2
        obtain ⟨du, edu⟩ : ∃ x, due fx fi D = x := ⟨_, rfl⟩
        obtain ⟨t, et⟩ : ∃ x, sdf e D = x := ⟨_, rfl⟩
        rw [edu] at s1 s2 z2 z5 z6 du13 ⊢
        rw [et] at z2 z3 z4 z5 z6 ⊢
        have e1 : e = D ||| t := by rw [← et]; exact (or_sdf z1).symm
        have topn : ∀ i, t.testBit i = true → W.testBit i = true ∧ ¬ D.testBit i = true ∧ (fx.testBit i = true → (fi du).testBit i = true) := by
          intro i hi
          have := sub_iff.mp z2 i hi
          rw [bit_sdf, bit_sdf, bit_sdf] at this
          exact ⟨this.1.1, this.1.2, fun hx => Decidable.not_not.mp fun hn => this.2 ⟨hx, hn⟩⟩
        have hed : ed W ne D t := ⟨sub_iff.mpr fun i hi => (topn i hi).1, and_0.mpr fun i hi h2 => (topn i h2).2.1 hi, z3, z4⟩
        unfold gos at z5
        unfold stn at z6 ⊢
        by_cases w : t &&& fi du = 0
        · rw [if_pos w] at z5 z6 ⊢
          have z5 := of_decide_eq_true z5
          refine ⟨Or.inr ⟨D, t, hD.1, hed, ?_, e1⟩, by omega⟩
          rw [s2 _ (by omega) z5, and_0]
          exact fun i hi hx => and_0.mp w i hi ((topn i hi).2.2 hx)
        · rw [if_neg w] at z5 z6 ⊢
          have z5 := of_decide_eq_true z5
          have du12 : du ≤ 12 := by
            apply Nat.le_of_not_lt
            intro q2
            rw [show du = 13 by omega, hf.2.1] at w
            exact w (Nat.and_zero _)
          have hr := rch_skip hD.1 (du - 1 - l D) (fun j j1 j2 => s2 j j1 (by omega))
          rw [show l D + (du - 1 - l D) = du - 1 by omega] at hr
          refine ⟨?_, du12⟩
          obtain ⟨x, hx⟩ : ∃ x, du = x + 1 := ⟨du - 1, by omega⟩
          rw [hx] at z5 hr topn ⊢
          refine Or.inr ⟨D, t, hr, hed, ?_, e1⟩
          apply tb_ext
          intro i
          rw [bit_and]
          constructor
          · rintro ⟨i1, i2⟩; exact (topn i i1).2.2 i2
          · intro hi
            rw [← z5, bit_and] at hi
            exact ⟨hi.1, (hf.2.2.1 i).mpr ⟨x + 1, by omega, by omega, hi.2⟩⟩
      · rw [if_neg z] at h ⊢
        exact ih e h
    · rename_i q
      rw [if_neg q]
      exact ih e h
theorem fwd_su {C : Nat} {su : Nat → Nat} (hs : ∀ d s, sub d W → ed W ne d s → su (d ||| s) ≤ su d + C) : ∀ j k d, sub d W → fwd W fx fi ne j k d → su W ≤ su d + j * C := by
  intro j
  induction j with
  | zero => intro k d _ h; rw [show d = W from h]; omega
  | succ j ih =>
    rintro k d hd (⟨h, -⟩ | ⟨s, h1, h2, h3⟩)
    · have := ih _ _ hd h
      rw [Nat.succ_mul]; omega
    · have := ih _ _ (or_sub hd h1.1) h3
      have := hs d s hd h1
      rw [Nat.succ_mul]; omega
theorem stp_le (l : Nat → Nat) (d e : Nat) : stp W fx fi ne l d e ≤ l e := by
  unfold stp stL
  split
  · rename_i q; omega
  · exact Nat.le_refl _
theorem rL_mono {C m : Nat} {su : Nat → Nat} (e : Nat) : ∀ x D, rL W fx C m su fi ne (D + x) e ≤ rL W fx C m su fi ne D e := by
  intro x
  induction x with
  | zero => intro D; exact Nat.le_refl _
  | succ x ih =>
    intro D
    refine Nat.le_trans ?_ (ih D)
    show rL W fx C m su fi ne (D + x + 1) e ≤ _
    simp only [rL]
    split
    · exact stp_le _ _ _
    · exact Nat.le_refl _
/-- all that lines of m stations pass is found -/
theorem rL_done (hf : okF W fx fi) {C m : Nat} {su : Nat → Nat} (hm : m ≤ 12) (hs : ∀ d s, sub d W → ed W ne d s → su (d ||| s) ≤ su d + C) : ∀ k e, rch W fx fi ne k e → ∀ j, fwd W fx fi ne j k e → k + j ≤ m → rL W fx C m su fi ne e e ≤ k := by
  intro k
  induction k with
  | zero => intro e h j _ _; rw [show e = 0 from h]; exact Nat.le_refl _
  | succ k ih =>
    rintro e (⟨h, h0⟩ | ⟨d, s, h1, h2, h3, h4⟩) j hj hjm
    · have := ih e h (j + 1) (Or.inl ⟨hj, h0⟩) (by omega)
      omega
    · have hfw : fwd W fx fi ne (j + 1) k d := Or.inr ⟨s, h2, h3, by rw [← h4]; exact hj⟩
      have hl := ih d h1 (j + 1) hfw (by omega)
      have hd := rch_sub k d h1
      have hsu := fwd_su hs (j + 1) k d hd hfw
      obtain ⟨l, el⟩ : ∃ l, rL W fx C m su fi ne d = l := ⟨_, rfl⟩
      rw [el] at hl
      have hce : cew W C m su l d = true := by
        refine decide_eq_true ⟨by omega, ?_⟩
        have : (j + 1) * C ≤ (m - l d) * C := Nat.mul_le_mul_right _ (by omega)
        omega
      have hgt : d < e := by rw [h4]; exact or_gt h2.2.1 h2.2.2.1
      have hmono := rL_mono (W := W) (fx := fx) (fi := fi) (ne := ne) (C := C) (m := m) (su := su) e (e - (d + 1)) (d + 1)
      rw [show d + 1 + (e - (d + 1)) = e by omega] at hmono
      refine Nat.le_trans hmono ?_
      simp only [rL]
      rw [el, if_pos hce]
      have hls := rL_sound (ne := ne) hf (C := C) (su := su) hm d d (by rw [el]; omega)
      rw [el] at hls
      obtain ⟨s1, s2⟩ := due_skip hf (show k ≤ 12 by omega) h1
      have du13 : due fx fi d ≤ 13 := (sduL_le fi _ 12 (by omega)).2
      obtain ⟨-, -, d3⟩ := due_13 fx fi d
      have hb := rch_fx hf k (by omega) d h1
      -- what is fixed in the next station is not done
      have hnd : ∀ i, (fi (k + 1)).testBit i = true → ¬ d.testBit i = true := by
        intro i hi z
        have hx : fx.testBit i = true := (hf.2.2.1 i).mpr ⟨k + 1, by omega, by omega, hi⟩
        obtain ⟨x, x1, x2, x3⟩ := (hb i hx).mp z
        have := hf.2.2.2 x (k + 1) i x1 (by omega) (by omega) (by omega) x3 hi
        omega
      have et : sdf e d = s := by rw [h4]; exact sdf_or h2.2.1
      have hde : d &&& e = d := by rw [h4]; exact sub_or_l d s
      by_cases w : fi (k + 1) = 0
      · -- nothing is due there
        have hdu : k + 1 < due fx fi d := by
          rcases d3 with z | ⟨z1, z2⟩
          · omega
          · apply Nat.lt_of_le_of_ne s1
            intro z
            rw [← show k + 1 = due fx fi d from z, w] at z2
            exact z2 (Nat.zero_and _)
        rw [w] at h3
        have hput : ∀ i, s.testBit i = true → ¬ fx.testBit i = true := fun i hi hx => and_0.mp h3 i hi hx
        have hp0 : s &&& fi (due fx fi d) = 0 := by
          rw [and_0]
          intro i hi h5
          by_cases q : due fx fi d = 13
          · rw [q, hf.2.1] at h5; simp at h5
          · exact hput i hi ((hf.2.2.1 i).mpr ⟨_, by omega, by omega, h5⟩)
        unfold stp stL
        rw [et]
        by_cases q : stn (fi (due fx fi d)) (l d + 1) (due fx fi d) s < l e
        · rw [if_pos]
          · unfold stn; rw [if_pos hp0]; omega
          · refine ⟨hde, ?_, h2.2.2.1, h2.2.2.2, ?_, q⟩
            · show sub s _
              rw [sub_iff]
              intro i hi
              rw [bit_sdf, bit_sdf, bit_sdf]
              exact ⟨⟨sub_iff.mp h2.1 i hi, fun z => and_0.mp h2.2.1 i z hi⟩, fun z => hput i hi z.1⟩
            · unfold gos; rw [if_pos hp0]; exact decide_eq_true (by omega)
        · rw [if_neg (fun z => q z.2.2.2.2.2)]
          unfold stn at q
          rw [if_pos hp0] at q
          omega
      · -- it is the one that is due
        have hdu : due fx fi d = k + 1 := by
          apply Nat.le_antisymm _ s1
          apply Nat.le_of_not_lt
          intro q
          exact w (s2 (k + 1) (by omega) q)
        have hp : s &&& fi (k + 1) = fi (k + 1) := by
          apply tb_ext
          intro i
          rw [bit_and]
          refine ⟨fun z => z.2, fun z => ⟨?_, z⟩⟩
          rw [← h3, bit_and] at z
          exact z.1
        have hp0 : ¬ s &&& fi (k + 1) = 0 := by rw [hp]; exact w
        unfold stp stL
        rw [et, hdu]
        by_cases q : stn (fi (k + 1)) (l d + 1) (k + 1) s < l e
        · rw [if_pos]
          · unfold stn; rw [if_neg hp0]; exact Nat.le_refl _
          · refine ⟨hde, ?_, h2.2.2.1, h2.2.2.2, ?_, q⟩
            · show sub s _
              rw [sub_iff]
              intro i hi
              rw [bit_sdf, bit_sdf, bit_sdf]
              refine ⟨⟨sub_iff.mp h2.1 i hi, fun z => and_0.mp h2.2.1 i z hi⟩, fun z => z.2 ?_⟩
              rw [← h3, bit_and]
              exact ⟨hi, z.1⟩
            · unfold gos; rw [if_neg hp0]; exact decide_eq_true hp
        · rw [if_neg (fun z => q z.2.2.2.2.2)]
          unfold stn at q
          rw [if_neg hp0] at q
          omega
/-- from d on, levels of d stay -/
theorem rL_stays {C m : Nat} {su : Nat → Nat} (e : Nat) : ∀ x, rL W fx C m su fi ne (e + x) e = rL W fx C m su fi ne e e := by
  intro x
  induction x with
  | zero => rfl
  | succ x ih =>
    rw [← ih]
    show rL W fx C m su fi ne (e + x + 1) e = _
    simp only [rL]
    split
    · unfold stp stL
      rw [if_neg]
      rintro ⟨z1, z2, z3, -⟩
      have : e + x ≤ e := sub_le z1
      have hx : x = 0 := by omega
      subst hx
      rw [Nat.add_zero, sdf_eq0.mpr (sub_rfl e)] at z3
      omega
    · rfl
theorem fwd_rch : ∀ j k d, rch W fx fi ne k d → fwd W fx fi ne j k d → rch W fx fi ne (k + j) W := by
  intro j
  induction j with
  | zero => intro k d h1 h2; rw [show d = W from h2] at h1; exact h1
  | succ j ih =>
    rintro k d h1 (⟨h2, h3⟩ | ⟨s, h2, h3, h4⟩)
    · have := ih (k + 1) d (Or.inl ⟨h1, h3⟩) h2
      rwa [show k + 1 + j = k + (j + 1) by omega] at this
    · have := ih (k + 1) (d ||| s) (Or.inr ⟨d, s, h1, h2, h3, rfl⟩) h4
      rwa [show k + 1 + j = k + (j + 1) by omega] at this
end SE
/-- r is the least k up to m with P; -4 if there is none -/
def isMin (P : Nat → Prop) (m : Nat) (r : Int32) : Prop := (∃ k, k ≤ m ∧ P k ∧ (∀ j, j < k → ¬ P j) ∧ r = nI k) ∨ ((∀ k, k ≤ m → ¬ P k) ∧ r = -4)
theorem isMin.one {P : Nat → Prop} {m : Nat} {r r' : Int32} (h : isMin P m r) (h' : isMin P m r') : r = r' := by
  rcases h with ⟨k, k1, k2, k3, k4⟩ | ⟨k1, k2⟩ <;> rcases h' with ⟨j, j1, j2, j3, j4⟩ | ⟨j1, j2⟩
  · have : k = j := by
      apply Nat.le_antisymm
      · exact Nat.le_of_not_lt fun q => k3 j q j2
      · exact Nat.le_of_not_lt fun q => j3 k q k2
    rw [k4, j4, this]
  · exact absurd k2 (j1 k k1)
  · exact absurd j2 (k1 j j1)
  · rw [k2, j2]
/-- what the search answers -/
theorem search_min {W fx us : Nat} {fi ne : Nat → Nat} (hf : okF W fx fi) (hW : 0 < W) {C m mm D : Nat} {su : Nat → Nat} {r : Int32} (hm : m ≤ 12) (hs : ∀ d s, sub d W → ed W ne d s → su (d ||| s) ≤ su d + C) (hu : ∀ d s, sub d W → ed W ne d s → sub s us) (hu2 : sub us W)
    (h1 : D = lst us W ∨ rL W fx C mm su fi ne D W ≤ 0) (h2 : mm ≤ m) (h3 : mm = m ∨ rL W fx C mm su fi ne D W ≤ mm) (h4 : r = (if rL W fx C mm su fi ne D W ≤ m then nI (rL W fx C mm su fi ne D W) else -4)) : isMin (fun k => rch W fx fi ne k W) m r := by
  have snd := rL_sound (ne := ne) hf (C := C) (su := su) (show mm ≤ 12 by omega) D W
  have hD : D = lst us W := by
    rcases h1 with z | z
    · exact z
    · have := (snd (by omega)).1
      rw [show rL W fx C mm su fi ne D W = 0 by omega] at this
      exact absurd (show W = 0 from this) (by omega)
  have hus : ∀ k, rch W fx fi ne k W → us &&& W = W := by
    intro k hk
    have : ∀ k e, rch W fx fi ne k e → sub e us := by
      intro k
      induction k with
      | zero => intro e h; rw [show e = 0 from h]; exact sub_0 _
      | succ k ih =>
        rintro e (⟨h, -⟩ | ⟨d, s, g1, g2, -, g4⟩)
        · exact ih e h
        · rw [g4]; exact or_sub (ih d g1) (hu d s (rch_sub k d g1) g2)
    have := this k W hk
    rw [Nat.and_comm]; exact this
  have low : ∀ k, k ≤ mm → rch W fx fi ne k W → rL W fx C mm su fi ne D W ≤ k := by
    intro k hk hr
    have e1 := hus k hr
    have e2 : us = W := by have : us &&& W = us := hu2; rw [← this, e1]
    have e3 : D = W := by rw [hD]; unfold lst; rw [if_pos e2]
    rw [e3]
    exact rL_done hf (by omega) hs k W hr 0 rfl (by omega)
  by_cases w : ∃ k, k ≤ m ∧ rch W fx fi ne k W
  · obtain ⟨k0, k1, k2⟩ := w
    -- the level is one, and none is below it
    have hle : rL W fx C mm su fi ne D W ≤ mm := by
      rcases h3 with z | z
      · exact Nat.le_trans (low k0 (by omega) k2) (by omega)
      · exact z
    refine Or.inl ⟨rL W fx C mm su fi ne D W, by omega, (snd (by omega)).1, fun j hj hr => ?_, by rw [h4, if_pos (by omega)]⟩
    exact absurd (low j (by omega) hr) (by omega)
  · refine Or.inr ⟨fun k hk hr => w ⟨k, hk, hr⟩, ?_⟩
    rw [h4, if_neg]
    intro q
    exact w ⟨_, q, (snd (by omega)).1⟩
theorem hasLine_iff {W fx us : Nat} {fi ne : Nat → Nat} (hf : okF W fx fi) (hW : 0 < W) {C m D : Nat} {su : Nat → Nat} (hm : m ≤ 12) (hs : ∀ d s, sub d W → ed W ne d s → su (d ||| s) ≤ su d + C) (hu : ∀ d s, sub d W → ed W ne d s → sub s us) (hu2 : sub us W)
    (h1 : D = lst us W ∨ rL W fx C m su fi ne D W ≤ m) : rL W fx C m su fi ne D W ≤ m ↔ ∃ k, k ≤ m ∧ rch W fx fi ne k W := by
  constructor
  · intro h
    exact ⟨_, h, (rL_sound hf hm D W (by omega)).1⟩
  · rintro ⟨k, k1, k2⟩
    rcases h1 with z | z
    · have : ∀ k e, rch W fx fi ne k e → sub e us := by
        intro k
        induction k with
        | zero => intro e h; rw [show e = 0 from h]; exact sub_0 _
        | succ k ih =>
          rintro e (⟨h, -⟩ | ⟨d, s, g1, g2, -, g4⟩)
          · exact ih e h
          · rw [g4]; exact or_sub (ih d g1) (hu d s (rch_sub k d g1) g2)
      have e1 : W &&& us = W := this k W k2
      have e2 : us = W := by have : us &&& W = us := hu2; rw [← this, Nat.and_comm, e1]
      have e3 : D = W := by rw [z]; unfold lst; rw [if_pos e2]
      rw [e3]
      exact Nat.le_trans (rL_done hf hm hs k W k2 0 rfl (by omega)) k1
    · exact z
