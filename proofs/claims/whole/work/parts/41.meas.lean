/-! WHAT A MEASURED ROW OF SETS SAYS; searching in it. -/
/-- what must be done ahead of a station that holds just s; 4096: s can be none -/
def nd (n C : Nat) (T B A J : Nat → Nat) (s : Nat) : Nat := if s = 0 then 4096 else if tsum T s n ≤ C ∧ sdf (bor J s n) s = 0 ∧ bor A s n &&& s = 0 then sdf (bor B s n) s else 4096
theorem tsum_or {f : Nat → Nat} {a b : Nat} (h : a &&& b = 0) : ∀ n, tsum f (a ||| b) n = tsum f a n + tsum f b n := by
  intro n
  induction n with
  | zero => rfl
  | succ n ih =>
    simp only [tsum]
    rw [ih]
    have hb := and_0.mp h n
    cases ha : a.testBit n <;> cases hc : b.testBit n
    · simp [Nat.testBit_or, ha, hc]
    · simp [Nat.testBit_or, ha, hc]; omega
    · simp [Nat.testBit_or, ha, hc]; omega
    · exact absurd hc (hb ha)
def lnM (n C : Nat) (T B A J : Nat → Nat) (us : Nat) (F G : Nat → Nat → Nat) : Prop := mP n T B A J F G ∧ (∀ s, s < 2 ^ n → F 7 s = nd n C T B A J s) ∧ sub us (2 ^ n - 1) ∧ ∀ s, s < 2 ^ n → 0 < s → fts F C s = true → sub s us
/-- what is always so of the rows -/
def lnG (F G : Nat → Nat → Nat) : Prop := (F 3 0 = 0 ∧ F 4 0 = 0 ∧ F 5 0 = 0 ∧ F 6 0 = 0 ∧ G 1 0 = 0) ∧ (∀ k s, F k s ≤ 2000000) ∧ (∀ s, G 0 s < 2 ^ 60) ∧ (∀ k, F 2 k < 4096) ∧ F 2 13 = 0
theorem fitU_in {F : Nat → Nat → Nat} {C : Nat} : ∀ k s, s ≤ k → 0 < s → fts F C s = true → sub s (fitU F C k) := by
  intro k
  induction k with
  | zero => intro s h1 h2; omega
  | succ k ih =>
    intro s h1 h2 h3
    simp only [fitU]
    by_cases w : s = k + 1
    · rw [← w, if_pos h3]; exact sub_or_r _ _
    · split
      · exact sub_trans (ih s (by omega) h2 h3) (sub_or_l _ _)
      · exact ih s (by omega) h2 h3
theorem fitU_sub {F : Nat → Nat → Nat} {C n : Nat} : ∀ k, k < 2 ^ n → fitU F C k < 2 ^ n := by
  intro k
  induction k with
  | zero => intro h; exact h
  | succ k ih =>
    intro hk
    simp only [fitU]
    split
    · exact or_lt (ih (by omega)) hk
    · exact ih (by omega)
theorem lnM_of {n C : Nat} {T B A J : Nat → Nat} {F G : Nat → Nat → Nat} (h : mP n T B A J F G) : lnM n C T B A J (fitU F C (2 ^ n - 1)) (va_up F 7 (fitN F C (2 ^ n))) G := by
  have hp := Nat.two_pow_pos n
  refine ⟨h, fun s hs => ?_, sub_all.mpr (fitU_sub _ (by omega)), fun s hs h0 hf => fitU_in _ _ (by omega) h0 hf⟩
  show fitN F C (2 ^ n) s = _
  obtain ⟨m1, m2, m3, m4, m5⟩ := h s hs
  unfold fitN nd
  by_cases z : s = 0
  · rw [if_pos z, if_pos z]
  · rw [if_neg z, if_neg z, if_pos hs]
    unfold fts
    rw [m1, m2, m3, m4]
    by_cases w : tsum T s n ≤ C ∧ sdf (bor J s n) s = 0 ∧ bor A s n &&& s = 0
    · rw [if_pos w, if_pos (decide_eq_true w)]
    · rw [if_neg w, if_neg (by rw [decide_eq_false w]; decide)]
section ME
variable {n C us : Nat} {T B A J : Nat → Nat} {F G : Nat → Nat → Nat}
theorem sdf_4096 {d : Nat} (h : d < 4096) : ¬ sdf 4096 d = 0 := by
  intro z
  have := sub_iff.mp (sdf_eq0.mp z) 12 (by decide)
  rw [tb_ge (k := 12) (by omega) (by omega)] at this
  cases this
theorem ed_fits {d s : Nat} (hn : n ≤ 12) (hd : sub d (2 ^ n - 1)) (h : ed (2 ^ n - 1) (nd n C T B A J) d s) : s < 2 ^ n ∧ tsum T s n ≤ C ∧ sdf (bor J s n) s = 0 ∧ bor A s n &&& s = 0 ∧ sub (bor B s n) (d ||| s) := by
  obtain ⟨h1, h2, h3, h4⟩ := h
  have hs := sub_all.mp h1
  have hd := sub_all.mp hd
  have l12 : 2 ^ n ≤ 2 ^ 12 := Nat.pow_le_pow_right (by omega) hn
  unfold nd at h4
  rw [if_neg (by omega)] at h4
  by_cases w : tsum T s n ≤ C ∧ sdf (bor J s n) s = 0 ∧ bor A s n &&& s = 0
  · rw [if_pos w] at h4
    refine ⟨hs, w.1, w.2.1, w.2.2, sub_iff.mpr fun i hi => ?_⟩
    rw [bit_or]
    by_cases q : s.testBit i = true
    · exact Or.inr q
    · exact Or.inl (sub_iff.mp (sdf_eq0.mp h4) i (bit_sdf.mpr ⟨hi, q⟩))
  · rw [if_neg w] at h4
    exact absurd h4 (sdf_4096 (by omega))
theorem ed_c {W : Nat} {ne ne' : Nat → Nat} (h : ∀ s, sub s W → ne s = ne' s) (d s : Nat) : ed W ne d s ↔ ed W ne' d s := by
  unfold ed
  constructor
  · rintro ⟨h1, h2, h3, h4⟩; exact ⟨h1, h2, h3, by rw [← h s h1]; exact h4⟩
  · rintro ⟨h1, h2, h3, h4⟩; exact ⟨h1, h2, h3, by rw [h s h1]; exact h4⟩
theorem rch_c {W fx : Nat} {fi fi' ne ne' : Nat → Nat} (h : ∀ s, sub s W → ne s = ne' s) (hf : ∀ k, 1 ≤ k → k ≤ 12 → fi k = fi' k) : ∀ k, k ≤ 12 → ∀ e, rch W fx fi ne k e ↔ rch W fx fi' ne' k e := by
  intro k
  induction k with
  | zero => intro _ e; exact Iff.rfl
  | succ k ih =>
    intro hk e
    simp only [rch]
    rw [hf (k + 1) (by omega) hk]
    simp only [ih (by omega), ed_c h]
theorem lnM.ne (hM : lnM n C T B A J us F G) : ∀ s, sub s (2 ^ n - 1) → F 7 s = nd n C T B A J s := fun s hs => hM.2.1 s (sub_all.mp hs)
theorem lnM.su (hM : lnM n C T B A J us F G) (hn : n ≤ 12) (d s : Nat) (hd : sub d (2 ^ n - 1)) (h : ed (2 ^ n - 1) (F 7) d s) : F 3 (d ||| s) ≤ F 3 d + C := by
  obtain ⟨h1, h2, -⟩ := ed_fits hn hd ((ed_c hM.ne d s).mp h)
  have e1 := (hM.1 d (sub_all.mp hd)).1
  have e2 := (hM.1 (d ||| s) (or_lt (sub_all.mp hd) h1)).1
  rw [e1, e2, tsum_or h.2.1]
  omega
theorem lnM.inU (hM : lnM n C T B A J us F G) (hn : n ≤ 12) (d s : Nat) (hd : sub d (2 ^ n - 1)) (h : ed (2 ^ n - 1) (F 7) d s) : sub s us := by
  obtain ⟨h1, h2, h3, h4, -⟩ := ed_fits hn hd ((ed_c hM.ne d s).mp h)
  refine hM.2.2.2 s h1 h.2.2.1 ?_
  obtain ⟨m1, m2, m3, m4, m5⟩ := hM.1 s h1
  unfold fts
  rw [m1, m3, m4]
  exact decide_eq_true ⟨h2, h3, h4⟩
theorem okF_free (W : Nat) : okF W 0 (fun _ => 0) := ⟨sub_0 W, rfl, fun i => by simp, fun j k i _ _ _ _ h => by simp at h⟩
/-- a level's row that a search has left: what is found is so, and all on lines of K stations is found -/
def lvG (W fx : Nat) (fi ne l : Nat → Nat) (K : Nat) : Prop := (∀ e, l e ≤ 1000) ∧ (∀ e, l e < 1000 → rch W fx fi ne (l e) e ∧ l e ≤ 12) ∧ l W = K ∧ ∀ i d j, rch W fx fi ne i d → fwd W fx fi ne j i d → i + j ≤ K → l d ≤ i
section LN
variable {h : hc_H} {a N fx : Nat}
theorem m_search (hp : isLn h a N fx (2 ^ n - 1) (nI C) us F G) (hM : lnM n C T B A J us F G) (hg : lnG F G) (hN : N ≤ 4096) (hnN : 2 ^ n ≤ N) (hn : 1 ≤ n ∧ n ≤ 12) (hC : C < 2000) (hf : okF (2 ^ n - 1) fx (F 2)) {lo m : Nat} (hlo : lo ≤ 1000) (hm : m ≤ 12) :
    ∃ h' l r, MA M_L_search [.ref a, .int (nI lo), .int (nI m)] h (some (.int r)) h' ∧ isLn h' a N fx (2 ^ n - 1) (nI C) us (va_up F 8 l) G ∧ frm h h' (a + 8) 1 ∧ isMin (fun k => rch (2 ^ n - 1) fx (F 2) (F 7) k (2 ^ n - 1)) m r ∧ (∀ e, l e ≤ 1000) ∧ (r ≠ -4 → ∃ K, 1 ≤ K ∧ K ≤ m ∧ r = nI K ∧ lvG (2 ^ n - 1) fx (F 2) (F 7) l K) := by
  have hp2 : 2 ≤ 2 ^ n := by
    have : 2 ^ 1 ≤ 2 ^ n := Nat.pow_le_pow_right (by omega) hn.1
    omega
  have l12 : 2 ^ n ≤ 2 ^ 12 := Nat.pow_le_pow_right (by omega) hn.2
  have hus : us < 4096 := by have := sub_le hM.2.2.1; omega
  obtain ⟨h', mm, D, r, d1, d2, d3, d4, d5, d6, d7, d8⟩ := c_L_search hp hN (by omega) ⟨n, rfl⟩ hus hg.2.1 hg.2.2.2.1 hC hlo (show m ≤ 900 by omega)
  have hmin := search_min (su := F 3) hf (show 0 < 2 ^ n - 1 by omega) hm (hM.su hn.2) (hM.inU hn.2) hM.2.2.1 d4 d6 d7 d8
  refine ⟨h', _, r, d1, d2, d3, hmin, fun e => rL_le _ _, fun hr => ?_⟩
  have snd := rL_sound (ne := F 7) hf (C := C) (su := F 3) (show mm ≤ 12 by omega) D
  obtain ⟨l, el⟩ : ∃ l, rL (2 ^ n - 1) fx C mm (F 3) (F 2) (F 7) D = l := ⟨_, rfl⟩
  rw [el] at d4 d7 d8 snd
  have hle : l (2 ^ n - 1) ≤ m := by
    apply Decidable.byContradiction
    intro q
    rw [if_neg q] at d8
    exact hr d8
  rw [if_pos hle] at d8
  have h0 : ¬ l (2 ^ n - 1) = 0 := by
    intro z
    have := (snd (2 ^ n - 1) (by omega)).1
    rw [z] at this
    have : 2 ^ n - 1 = 0 := this
    omega
  have hD : D = lst us (2 ^ n - 1) := by
    rcases d4 with z | z
    · exact z
    · omega
  have hD2 : D = 2 ^ n - 1 := by
    rw [hD]
    unfold lst
    by_cases q : us = 2 ^ n - 1
    · rw [if_pos q]
    · exfalso
      rw [hD] at el
      unfold lst at el
      rw [if_neg q] at el
      have : l (2 ^ n - 1) = 1000 := by
        rw [← el]
        show (if _ then 0 else 1000) = 1000
        rw [if_neg (by omega)]
      omega
  refine ⟨l (2 ^ n - 1), by omega, hle, d8, fun e => by rw [el]; exact (el ▸ rL_le (W := 2 ^ n - 1) (fx := fx) (C := C) (m := mm) (su := F 3) (fi := F 2) (ne := F 7) D e), fun e he => by rw [el] at he ⊢; exact snd e he, by rw [el], fun i d j hi hj hij => ?_⟩
  have hlm : l (2 ^ n - 1) ≤ mm := by
    rcases d7 with z | z
    · omega
    · exact z
  have hdw := rch_sub i d hi
  have := rL_done (ne := F 7) hf (show mm ≤ 12 by omega) (hM.su hn.2) i d hi j hj (by omega)
  have st := rL_stays (W := 2 ^ n - 1) (fx := fx) (fi := F 2) (ne := F 7) (C := C) (m := mm) (su := F 3) d (2 ^ n - 1 - d)
  rw [show d + (2 ^ n - 1 - d) = 2 ^ n - 1 by have := sub_le hdw; omega] at st
  rw [hD2, st]
  exact this
theorem m_hasLine (hp : isLn h a N fx (2 ^ n - 1) (nI C) us F G) (hM : lnM n C T B A J us F G) (hg : lnG F G) (hN : N ≤ 4096) (hnN : 2 ^ n ≤ N) (hn : 1 ≤ n ∧ n ≤ 12) (hC : C < 2000) (hf : okF (2 ^ n - 1) fx (F 2)) {m : Nat} (hm : m ≤ 12) :
    ∃ h' l b, MA M_L_hasLine [.ref a, .int (nI m)] h (some (.int (nI (Bool.toNat b)))) h' ∧ isLn h' a N fx (2 ^ n - 1) (nI C) us (va_up F 8 l) G ∧ frm h h' (a + 8) 1 ∧ (∀ e, l e ≤ 1000) ∧ (b = true ↔ ∃ k, k ≤ m ∧ rch (2 ^ n - 1) fx (F 2) (F 7) k (2 ^ n - 1)) := by
  have hp2 : 2 ≤ 2 ^ n := by
    have : 2 ^ 1 ≤ 2 ^ n := Nat.pow_le_pow_right (by omega) hn.1
    omega
  have l12 : 2 ^ n ≤ 2 ^ 12 := Nat.pow_le_pow_right (by omega) hn.2
  have hus : us < 4096 := by have := sub_le hM.2.2.1; omega
  obtain ⟨h', D, d1, d2, d3, d4, d5⟩ := c_L_hasLine hp hN (by omega) ⟨n, rfl⟩ hus hg.2.1 hg.2.2.2.1 hC (show m ≤ 900 by omega)
  have := hasLine_iff (su := F 3) hf (show 0 < 2 ^ n - 1 by omega) hm (hM.su hn.2) (hM.inU hn.2) hM.2.2.1 d5
  exact ⟨h', _, _, d1, d2, d3, fun e => rL_le _ _, by rw [decide_eq_true_eq]; exact this⟩
end LN
end ME
