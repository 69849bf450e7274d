/-! THE MODEL: how it begins. -/
theorem nst_f {h h1 : hc_H} {kd N p ci k z s : Nat} {fs : List Value} (e : nst h kd N p ci k fs = h1) (h2 : h.2 = (z, s)) (hz : ¬ z = p) : h1.2 = (z + 1, s + N) ∧ h1.1 p = some (.inr (ci, fs.set k (.ref z))) ∧ h1.1 z = some (.inl (kd, N, if kd = 2 then .inr (.inl (fun _ => 0)) else .inl (fun _ => 0))) ∧ ∀ a, ¬ a = p → ¬ a = z → h1.1 a = h.1 a := by
  have e1 : h.2.1 = z := by rw [h2]
  have e2 : h.2.2 = s := by rw [h2]
  subst e
  refine ⟨by rw [nst_2, e1, e2], by rw [nst_p, e1], by rw [nst_at, e1, if_neg hz, if_pos rfl], fun a h3 h4 => by rw [nst_at, e1, if_neg h3, if_neg h4]⟩
def tI : Nat → Nat := (va_up (va_up (va_up (va_up (va_up (va_up (va_up (va_up (va_up (fun _ => 0) 0 6) 1 9) 2 4) 3 5) 4 11) 5 3) 6 8) 7 7) 8 10)
def bI : Nat → Nat := (va_up (va_up (va_up (va_up (va_up (va_up (va_up (va_up (va_up (fun _ => 0) 0 0) 1 0) 2 1) 3 2) 4 8) 5 4) 6 32) 7 16) 8 192)
def aI : Nat → Nat := va_up (va_up (fun _ => 0) 0 2) 1 1
def jI : Nat → Nat := va_up (va_up (fun _ => 0) 2 32) 5 4
set_option maxRecDepth 8000 in
theorem c_R_init {h : hc_H} {m s : Nat} (hp : h.1 m = some (.inr (6, [.int 0, .null, .null, .null, .int 0, .null, .int 0, .null, .null, .null, .null, .null, .null, .null, .int 0]))) (h2 : h.2 = (m + 1, s)) : ∃ h' X Q, MA M_R_init [.ref m] h none h' ∧ isR h' m 0 0 0 0 X Q ∧ X 2 = rowP 9 20 tI bI aI jI (fun _ => 0) ∧ (∀ x, X 11 x = 0) ∧ frA h h' m 14 25302 := by
  obtain ⟨n1, e1⟩ : ∃ x, nst h 0 200 m 6 1 [.int 0, .null, .null, .null, .int 0, .null, .int 0, .null, .null, .null, .null, .null, .null, .null, .int 0] = x := ⟨_, rfl⟩
  obtain ⟨a1, b1, c1, d1⟩ := nst_f e1 h2 (by omega)
  have a1 : n1.2 = (m + 2, s + 200) := a1
  have b1 : n1.1 m = some (.inr (6, [.int 0, .ref (m + 1), .null, .null, .int 0, .null, .int 0, .null, .null, .null, .null, .null, .null, .null, .int 0])) := b1
  have c1 : n1.1 (m + 1) = some (.inl (0, 200, .inl (fun _ => nI 0))) := c1
  obtain ⟨n2, e2⟩ : ∃ x, nst n1 0 62 m 6 2 [.int 0, .ref (m + 1), .null, .null, .int 0, .null, .int 0, .null, .null, .null, .null, .null, .null, .null, .int 0] = x := ⟨_, rfl⟩
  obtain ⟨a2, b2, c2, d2⟩ := nst_f e2 a1 (by omega)
  have a2 : n2.2 = (m + 3, s + 262) := a2
  have b2 : n2.1 m = some (.inr (6, [.int 0, .ref (m + 1), .ref (m + 2), .null, .int 0, .null, .int 0, .null, .null, .null, .null, .null, .null, .null, .int 0])) := b2
  have c2 : n2.1 (m + 2) = some (.inl (0, 62, .inl (fun _ => nI 0))) := c2
  obtain ⟨n3, e3⟩ : ∃ x, nst n2 0 372 m 6 3 [.int 0, .ref (m + 1), .ref (m + 2), .null, .int 0, .null, .int 0, .null, .null, .null, .null, .null, .null, .null, .int 0] = x := ⟨_, rfl⟩
  obtain ⟨a3, b3, c3, d3⟩ := nst_f e3 a2 (by omega)
  have a3 : n3.2 = (m + 4, s + 634) := a3
  have b3 : n3.1 m = some (.inr (6, [.int 0, .ref (m + 1), .ref (m + 2), .ref (m + 3), .int 0, .null, .int 0, .null, .null, .null, .null, .null, .null, .null, .int 0])) := b3
  have c3 : n3.1 (m + 3) = some (.inl (0, 372, .inl (fun _ => nI 0))) := c3
  obtain ⟨n4, e4⟩ : ∃ x, nst n3 0 62 m 6 5 [.int 0, .ref (m + 1), .ref (m + 2), .ref (m + 3), .int 0, .null, .int 0, .null, .null, .null, .null, .null, .null, .null, .int 0] = x := ⟨_, rfl⟩
  obtain ⟨a4, b4, c4, d4⟩ := nst_f e4 a3 (by omega)
  have a4 : n4.2 = (m + 5, s + 696) := a4
  have b4 : n4.1 m = some (.inr (6, [.int 0, .ref (m + 1), .ref (m + 2), .ref (m + 3), .int 0, .ref (m + 4), .int 0, .null, .null, .null, .null, .null, .null, .null, .int 0])) := b4
  have c4 : n4.1 (m + 4) = some (.inl (0, 62, .inl (fun _ => nI 0))) := c4
  obtain ⟨n5, e5⟩ : ∃ x, nst n4 0 4096 m 6 7 [.int 0, .ref (m + 1), .ref (m + 2), .ref (m + 3), .int 0, .ref (m + 4), .int 0, .null, .null, .null, .null, .null, .null, .null, .int 0] = x := ⟨_, rfl⟩
  obtain ⟨a5, b5, c5, d5⟩ := nst_f e5 a4 (by omega)
  have a5 : n5.2 = (m + 6, s + 4792) := a5
  have b5 : n5.1 m = some (.inr (6, [.int 0, .ref (m + 1), .ref (m + 2), .ref (m + 3), .int 0, .ref (m + 4), .int 0, .ref (m + 5), .null, .null, .null, .null, .null, .null, .int 0])) := b5
  have c5 : n5.1 (m + 5) = some (.inl (0, 4096, .inl (fun _ => nI 0))) := c5
  obtain ⟨n6, e6⟩ : ∃ x, nst n5 1 4096 m 6 8 [.int 0, .ref (m + 1), .ref (m + 2), .ref (m + 3), .int 0, .ref (m + 4), .int 0, .ref (m + 5), .null, .null, .null, .null, .null, .null, .int 0] = x := ⟨_, rfl⟩
  obtain ⟨a6, b6, c6, d6⟩ := nst_f e6 a5 (by omega)
  have a6 : n6.2 = (m + 7, s + 8888) := a6
  have b6 : n6.1 m = some (.inr (6, [.int 0, .ref (m + 1), .ref (m + 2), .ref (m + 3), .int 0, .ref (m + 4), .int 0, .ref (m + 5), .ref (m + 6), .null, .null, .null, .null, .null, .int 0])) := b6
  have c6 : n6.1 (m + 6) = some (.inl (1, 4096, .inl (fun _ => nI 0))) := c6
  obtain ⟨n7, e7⟩ : ∃ x, nst n6 0 4096 m 6 9 [.int 0, .ref (m + 1), .ref (m + 2), .ref (m + 3), .int 0, .ref (m + 4), .int 0, .ref (m + 5), .ref (m + 6), .null, .null, .null, .null, .null, .int 0] = x := ⟨_, rfl⟩
  obtain ⟨a7, b7, c7, d7⟩ := nst_f e7 a6 (by omega)
  have a7 : n7.2 = (m + 8, s + 12984) := a7
  have b7 : n7.1 m = some (.inr (6, [.int 0, .ref (m + 1), .ref (m + 2), .ref (m + 3), .int 0, .ref (m + 4), .int 0, .ref (m + 5), .ref (m + 6), .ref (m + 7), .null, .null, .null, .null, .int 0])) := b7
  have c7 : n7.1 (m + 7) = some (.inl (0, 4096, .inl (fun _ => nI 0))) := c7
  obtain ⟨n8, e8⟩ : ∃ x, nst n7 0 4096 m 6 10 [.int 0, .ref (m + 1), .ref (m + 2), .ref (m + 3), .int 0, .ref (m + 4), .int 0, .ref (m + 5), .ref (m + 6), .ref (m + 7), .null, .null, .null, .null, .int 0] = x := ⟨_, rfl⟩
  obtain ⟨a8, b8, c8, d8⟩ := nst_f e8 a7 (by omega)
  have a8 : n8.2 = (m + 9, s + 17080) := a8
  have b8 : n8.1 m = some (.inr (6, [.int 0, .ref (m + 1), .ref (m + 2), .ref (m + 3), .int 0, .ref (m + 4), .int 0, .ref (m + 5), .ref (m + 6), .ref (m + 7), .ref (m + 8), .null, .null, .null, .int 0])) := b8
  have c8 : n8.1 (m + 8) = some (.inl (0, 4096, .inl (fun _ => nI 0))) := c8
  obtain ⟨n9, e9⟩ : ∃ x, nst n8 1 4096 m 6 11 [.int 0, .ref (m + 1), .ref (m + 2), .ref (m + 3), .int 0, .ref (m + 4), .int 0, .ref (m + 5), .ref (m + 6), .ref (m + 7), .ref (m + 8), .null, .null, .null, .int 0] = x := ⟨_, rfl⟩
  obtain ⟨a9, b9, c9, d9⟩ := nst_f e9 a8 (by omega)
  have a9 : n9.2 = (m + 10, s + 21176) := a9
  have b9 : n9.1 m = some (.inr (6, [.int 0, .ref (m + 1), .ref (m + 2), .ref (m + 3), .int 0, .ref (m + 4), .int 0, .ref (m + 5), .ref (m + 6), .ref (m + 7), .ref (m + 8), .ref (m + 9), .null, .null, .int 0])) := b9
  have c9 : n9.1 (m + 9) = some (.inl (1, 4096, .inl (fun _ => nI 0))) := c9
  obtain ⟨n10, e10⟩ : ∃ x, nst n9 1 4096 m 6 12 [.int 0, .ref (m + 1), .ref (m + 2), .ref (m + 3), .int 0, .ref (m + 4), .int 0, .ref (m + 5), .ref (m + 6), .ref (m + 7), .ref (m + 8), .ref (m + 9), .null, .null, .int 0] = x := ⟨_, rfl⟩
  obtain ⟨a10, b10, c10, d10⟩ := nst_f e10 a9 (by omega)
  have a10 : n10.2 = (m + 11, s + 25272) := a10
  have b10 : n10.1 m = some (.inr (6, [.int 0, .ref (m + 1), .ref (m + 2), .ref (m + 3), .int 0, .ref (m + 4), .int 0, .ref (m + 5), .ref (m + 6), .ref (m + 7), .ref (m + 8), .ref (m + 9), .ref (m + 10), .null, .int 0])) := b10
  have c10 : n10.1 (m + 10) = some (.inl (1, 4096, .inl (fun _ => nI 0))) := c10
  obtain ⟨n11, e11⟩ : ∃ x, nst n10 0 12 m 6 13 [.int 0, .ref (m + 1), .ref (m + 2), .ref (m + 3), .int 0, .ref (m + 4), .int 0, .ref (m + 5), .ref (m + 6), .ref (m + 7), .ref (m + 8), .ref (m + 9), .ref (m + 10), .null, .int 0] = x := ⟨_, rfl⟩
  obtain ⟨a11, b11, c11, d11⟩ := nst_f e11 a10 (by omega)
  have a11 : n11.2 = (m + 12, s + 25284) := a11
  have b11 : n11.1 m = some (.inr (6, [.int 0, .ref (m + 1), .ref (m + 2), .ref (m + 3), .int 0, .ref (m + 4), .int 0, .ref (m + 5), .ref (m + 6), .ref (m + 7), .ref (m + 8), .ref (m + 9), .ref (m + 10), .ref (m + 11), .int 0])) := b11
  have c11 : n11.1 (m + 11) = some (.inl (0, 12, .inl (fun _ => nI 0))) := c11
  have g1 : n11.1 (m + 1) = some (.inl (0, 200, .inl (fun _ => nI 0))) := by rw [d11 _ (by omega) (by omega), d10 _ (by omega) (by omega), d9 _ (by omega) (by omega), d8 _ (by omega) (by omega), d7 _ (by omega) (by omega), d6 _ (by omega) (by omega), d5 _ (by omega) (by omega), d4 _ (by omega) (by omega), d3 _ (by omega) (by omega), d2 _ (by omega) (by omega), c1]
  have g2 : n11.1 (m + 2) = some (.inl (0, 62, .inl (fun _ => nI 0))) := by rw [d11 _ (by omega) (by omega), d10 _ (by omega) (by omega), d9 _ (by omega) (by omega), d8 _ (by omega) (by omega), d7 _ (by omega) (by omega), d6 _ (by omega) (by omega), d5 _ (by omega) (by omega), d4 _ (by omega) (by omega), d3 _ (by omega) (by omega), c2]
  have g3 : n11.1 (m + 3) = some (.inl (0, 372, .inl (fun _ => nI 0))) := by rw [d11 _ (by omega) (by omega), d10 _ (by omega) (by omega), d9 _ (by omega) (by omega), d8 _ (by omega) (by omega), d7 _ (by omega) (by omega), d6 _ (by omega) (by omega), d5 _ (by omega) (by omega), d4 _ (by omega) (by omega), c3]
  have g4 : n11.1 (m + 4) = some (.inl (0, 62, .inl (fun _ => nI 0))) := by rw [d11 _ (by omega) (by omega), d10 _ (by omega) (by omega), d9 _ (by omega) (by omega), d8 _ (by omega) (by omega), d7 _ (by omega) (by omega), d6 _ (by omega) (by omega), d5 _ (by omega) (by omega), c4]
  have g5 : n11.1 (m + 5) = some (.inl (0, 4096, .inl (fun _ => nI 0))) := by rw [d11 _ (by omega) (by omega), d10 _ (by omega) (by omega), d9 _ (by omega) (by omega), d8 _ (by omega) (by omega), d7 _ (by omega) (by omega), d6 _ (by omega) (by omega), c5]
  have g6 : n11.1 (m + 6) = some (.inl (1, 4096, .inl (fun _ => nI 0))) := by rw [d11 _ (by omega) (by omega), d10 _ (by omega) (by omega), d9 _ (by omega) (by omega), d8 _ (by omega) (by omega), d7 _ (by omega) (by omega), c6]
  have g7 : n11.1 (m + 7) = some (.inl (0, 4096, .inl (fun _ => nI 0))) := by rw [d11 _ (by omega) (by omega), d10 _ (by omega) (by omega), d9 _ (by omega) (by omega), d8 _ (by omega) (by omega), c7]
  have g8 : n11.1 (m + 8) = some (.inl (0, 4096, .inl (fun _ => nI 0))) := by rw [d11 _ (by omega) (by omega), d10 _ (by omega) (by omega), d9 _ (by omega) (by omega), c8]
  have g9 : n11.1 (m + 9) = some (.inl (1, 4096, .inl (fun _ => nI 0))) := by rw [d11 _ (by omega) (by omega), d10 _ (by omega) (by omega), c9]
  have g10 : n11.1 (m + 10) = some (.inl (1, 4096, .inl (fun _ => nI 0))) := by rw [d11 _ (by omega) (by omega), c10]
  have g11 : n11.1 (m + 11) = some (.inl (0, 12, .inl (fun _ => nI 0))) := by rw [c11]
  have gr : ∀ a, ¬ (m ≤ a ∧ a < m + 12) → n11.1 a = h.1 a := fun a ha => by rw [d11 _ (by omega) (by omega), d10 _ (by omega) (by omega), d9 _ (by omega) (by omega), d8 _ (by omega) (by omega), d7 _ (by omega) (by omega), d6 _ (by omega) (by omega), d5 _ (by omega) (by omega), d4 _ (by omega) (by omega), d3 _ (by omega) (by omega), d2 _ (by omega) (by omega), d1 _ (by omega) (by omega)]
  obtain ⟨p1, ep1⟩ : ∃ x, hc_new n11 (.inl (0, 9, .inl (fun _ => 0))) 9 = x := ⟨_, rfl⟩
  have p1a : p1.1 (m + 12) = some (.inl (0, 9, .inl (fun _ => nI 0))) := by rw [← ep1, hn_at, a11, if_pos rfl]; rfl
  have p1b : p1.2 = (m + 13, s + 25293) := by rw [← ep1, hn_2, a11]
  have p1c : ∀ a, ¬ a = m + 12 → p1.1 a = n11.1 a := fun a ha => by rw [← ep1, hn_at, a11, if_neg ha]
  obtain ⟨p2, ep2⟩ : ∃ x, hc_set p1 (m + 12) (.inl (0, 9, .inl (fun j => nI (tI j)))) = x := ⟨_, rfl⟩
  obtain ⟨p3, ep3⟩ : ∃ x, hc_new p2 (.inl (0, 9, .inl (fun _ => 0))) 9 = x := ⟨_, rfl⟩
  have p2b : p2.2 = (m + 13, s + 25293) := by rw [← ep2]; exact p1b
  have p3a : p3.1 (m + 13) = some (.inl (0, 9, .inl (fun _ => nI 0))) := by rw [← ep3, hn_at, p2b, if_pos rfl]; rfl
  have p3b : p3.2 = (m + 14, s + 25302) := by rw [← ep3, hn_2, p2b]
  have p3c : ∀ a, ¬ a = m + 13 → ¬ a = m + 12 → p3.1 a = n11.1 a := fun a h1 h3 => by rw [← ep3, hn_at, p2b, if_neg h1, ← ep2, hs_ne _ _ h3, p1c a h3]
  have p3d : p3.1 (m + 12) = ii 9 tI := by rw [← ep3, hn_at, p2b, if_neg (by show ¬ m + 12 = m + 13; omega), ← ep2, hs_eq]
  obtain ⟨p4, ep4⟩ : ∃ x, hc_set p3 (m + 13) (.inl (0, 9, .inl (fun j => nI (bI j)))) = x := ⟨_, rfl⟩
  have p4a : p4.1 (m + 13) = ii 9 bI := by rw [← ep4, hs_eq]
  have p4b : p4.2 = (m + 14, s + 25302) := by rw [← ep4]; exact p3b
  have p4c : ∀ a, ¬ a = m + 13 → ¬ a = m + 12 → p4.1 a = n11.1 a := fun a h1 h3 => by rw [← ep4, hs_ne _ _ h1, p3c a h1 h3]
  have p4d : p4.1 (m + 12) = ii 9 tI := by rw [← ep4, hs_ne _ _ (by omega), p3d]
  have p4m : p4.1 m = some (rfO m 0 0 0 0) := by rw [p4c _ (by omega) (by omega), b11]; rfl
  have p42 : p4.1 (m + 2) = ii 62 (fun _ => 0) := by rw [p4c _ (by omega) (by omega), g2]
  let F : Nat → Nat → Nat := fun i => rowP 9 20 (fun t => if t < i then tI t else 0) (fun t => if t < i then bI t else 0) (fun _ => 0) (fun _ => 0) (fun _ => 0)
  let hx : Nat → hc_H := fun i => hc_set p4 (m + 2) (.inl (0, 62, .inl (fun j => nI (F i j))))
  have F9 : F 9 = rowP 9 20 tI bI (fun _ => 0) (fun _ => 0) (fun _ => 0) := by
    have q : ∀ f : Nat → Nat, (∀ t, 9 ≤ t → f t = 0) → (fun t => if t < 9 then f t else 0) = f := fun f hf => by
      funext t
      by_cases e : t < 9
      · rw [if_pos e]
      · rw [if_neg e, hf t (by omega)]
    have zt : ∀ t, 9 ≤ t → tI t = 0 := fun t ht => by
      unfold tI; rw [up_ne (by omega), up_ne (by omega), up_ne (by omega), up_ne (by omega), up_ne (by omega), up_ne (by omega), up_ne (by omega), up_ne (by omega), up_ne (by omega)]
    have zb : ∀ t, 9 ≤ t → bI t = 0 := fun t ht => by
      unfold bI; rw [up_ne (by omega), up_ne (by omega), up_ne (by omega), up_ne (by omega), up_ne (by omega), up_ne (by omega), up_ne (by omega), up_ne (by omega), up_ne (by omega)]
    show rowP 9 20 (fun t => if t < 9 then tI t else 0) (fun t => if t < 9 then bI t else 0) _ _ _ = _
    rw [q _ zt, q _ zb]
  have FS : ∀ i, i < 9 → va_up (va_up (F i) (2 + i) (tI i)) (14 + i) (bI i) = F (i + 1) := fun i hi => by
    funext j
    show va_up (va_up (rowP 9 20 _ _ _ _ _) (2 + i) (tI i)) (14 + i) (bI i) j = rowP 9 20 _ _ _ _ _ j
    by_cases e1 : j = 14 + i
    · rw [e1, up_eq, rp_B (by omega), if_pos (by omega)]
    · rw [up_ne e1]
      by_cases e2 : j = 2 + i
      · rw [e2, up_eq, rp_T (by omega), if_pos (by omega)]
      · rw [up_ne e2]
        unfold rowP
        by_cases q1 : j = 0
        · rw [if_pos q1, if_pos q1]
        rw [if_neg q1, if_neg q1]
        by_cases q2 : j = 1
        · rw [if_pos q2, if_pos q2]
        rw [if_neg q2, if_neg q2]
        by_cases q3 : j < 14
        · rw [if_pos q3, if_pos q3]
          show (if j - 2 < i then tI (j - 2) else 0) = if j - 2 < i + 1 then tI (j - 2) else 0
          by_cases q4 : j - 2 < i
          · rw [if_pos q4, if_pos (by omega)]
          · rw [if_neg q4, if_neg (by omega)]
        rw [if_neg q3, if_neg q3]
        by_cases q4 : j < 26
        · rw [if_pos q4, if_pos q4]
          show (if j - 14 < i then bI (j - 14) else 0) = if j - 14 < i + 1 then bI (j - 14) else 0
          by_cases q5 : j - 14 < i
          · rw [if_pos q5, if_pos (by omega)]
          · rw [if_neg q5, if_neg (by omega)]
        rw [if_neg q4, if_neg q4]
  have x2 : ∀ i, (hx i).1 (m + 2) = ii 62 (F i) := fun i => hs_eq _ _ _
  have x0 : ∀ i, (hx i).1 m = some (rfO m 0 0 0 0) := fun i => by show (hc_set p4 _ _).1 m = _; rw [hs_ne _ _ (by omega), p4m]
  have xT : ∀ i, (hx i).1 (m + 12) = ii 9 tI := fun i => by show (hc_set p4 _ _).1 _ = _; rw [hs_ne _ _ (by omega), p4d]
  have xB : ∀ i, (hx i).1 (m + 13) = ii 9 bI := fun i => by show (hc_set p4 _ _).1 _ = _; rw [hs_ne _ _ (by omega), p4a]
  have xS : ∀ i e, hc_set (hx i) (m + 2) e = hc_set p4 (m + 2) e := fun i e => hs_hs _ _ _ _
  have rw2 : rowP 9 20 tI bI aI jI (fun _ => 0) = va_up (va_up (va_up (va_up (F 9) (26 + 0) 2) (26 + 1) 1) (38 + 2) 32) (38 + 5) 4 := by
    rw [F9]
    funext j
    have key : ∀ f g : Nat → Nat, rowP 9 20 tI bI f g (fun _ => 0) j = if j < 26 then rowP 9 20 tI bI (fun _ => 0) (fun _ => 0) (fun _ => 0) j else if j < 38 then f (j - 26) else if j < 50 then g (j - 38) else 0 := fun f g => by
      unfold rowP
      repeat' split
      all_goals first | rfl | omega
    rw [key]
    by_cases a1 : j = 38 + 5
    · subst a1; rfl
    rw [up_ne a1]
    by_cases a2 : j = 38 + 2
    · subst a2; rfl
    rw [up_ne a2]
    by_cases a3 : j = 26 + 1
    · subst a3; rfl
    rw [up_ne a3]
    by_cases a4 : j = 26 + 0
    · subst a4; rfl
    rw [up_ne a4]
    by_cases w : j < 26
    · rw [if_pos w]
    rw [if_neg w, key (fun _ => 0) (fun _ => 0), if_neg w]
    by_cases w2 : j < 38
    · rw [if_pos w2, if_pos w2]
      unfold aI
      rw [up_ne (by omega), up_ne (by omega)]
    rw [if_neg w2, if_neg w2]
    by_cases w3 : j < 50
    · rw [if_pos w3, if_pos w3]
      unfold jI
      rw [up_ne (by omega), up_ne (by omega)]
    rw [if_neg w3, if_neg w3]
  let hF : hc_H := hc_set p4 (m + 2) (.inl (0, 62, .inl (fun j => nI (rowP 9 20 tI bI aI jI (fun _ => 0) j))))
  have lpq : ∀ i, i ≤ 9 → cx hc_tt M_R_init h hF none 217 [some (.ref m), some (.ref (m + 12)), some (.ref (m + 13)), some (.int (nI i))] [] (hx i) :=
    lp_up
      (by
        refine sn_R_init_217 _ _ _ ?_
        simp only [vc_R_init_217, vc_R_init_252, qi_push, qi_pushl, qi_iload, qi_lload, qi_aload, qi_istore, qi_astore, qi_lstore, qi_iinc, qi_iadd, qi_isub, qi_imul, qi_iand, qi_ior, qi_ixor, qi_ishl, qi_ishr, qi_iushr, qi_idiv, qi_irem, qi_lor, qi_lmul, qi_ladd, qi_lsub, qi_land, qi_lshl, qi_lshr, qi_i2l, qi_l2i, qi_i2c, qi_lcmp, qi_dup, qi_dup2, qi_pop, qi_if_eq, qi_icmp_eq, qi_if_ne, qi_icmp_ne, qi_if_lt, qi_icmp_lt, qi_if_ge, qi_icmp_ge, qi_if_gt, qi_icmp_gt, qi_if_le, qi_icmp_le, qi_sw, qi_get, qi_put, qi_iald, qi_lald, qi_aald, qi_iast, qi_zast, qi_cast, qi_last, qi_aast, qi_alen, qi_new, qi_newa, qi_newq, qi_obj, qi_invS, qi_invV, qi_invI, qi_iret, qi_zret, qi_lret, qi_vret, qi_acopy, qi_max, qi_min, at_o, at_i, at_l, at_q, at_a, lget, lset, lclr, lnon, lnth, spl, shrt, rpush, true_and, and_true, List.set, List.length, Nat.reduceAdd, Nat.reduceLT, Nat.reduceLeDiff, Nat.reduceEqDiff, Nat.reduceSub, x0]
        refine ⟨fun _ => ?_, fun z => absurd (nI_le (Nat.le_refl _) (by omega)) z⟩
        have r1 := c_R_pairs (h := hx 9) (q := m + 2) (t := 26) (a := 0) (b := 1) (u := 0) (v := 0) (x2 9) (by omega) (by omega) (by omega) (by omega) (by rw [F9]; rfl) (by rw [F9]; rfl) true
        rw [upd_nI, upd_nI, xS] at r1
        have r1 : MA M_R_pairs [.ref (m + 2), .int (nI 26), .int (nI 0), .int (nI 1), .int (nI 1)] (hx 9) none (hc_set p4 (m + 2) (.inl (0, 62, .inl (fun j => nI (va_up (va_up (F 9) 26 2) 27 1 j))))) := r1
        refine ⟨_, _, r1, ?_⟩
        have o1 : (hc_set p4 (m + 2) (.inl (0, 62, .inl (fun j => nI (va_up (va_up (F 9) 26 2) 27 1 j))))).1 m = some (rfO m 0 0 0 0) := by rw [hs_ne _ _ (by omega), p4m]
        simp only [qi_push, qi_pushl, qi_iload, qi_lload, qi_aload, qi_istore, qi_astore, qi_lstore, qi_iinc, qi_iadd, qi_isub, qi_imul, qi_iand, qi_ior, qi_ixor, qi_ishl, qi_ishr, qi_iushr, qi_idiv, qi_irem, qi_lor, qi_lmul, qi_ladd, qi_lsub, qi_land, qi_lshl, qi_lshr, qi_i2l, qi_l2i, qi_i2c, qi_lcmp, qi_dup, qi_dup2, qi_pop, qi_if_eq, qi_icmp_eq, qi_if_ne, qi_icmp_ne, qi_if_lt, qi_icmp_lt, qi_if_ge, qi_icmp_ge, qi_if_gt, qi_icmp_gt, qi_if_le, qi_icmp_le, qi_sw, qi_get, qi_put, qi_iald, qi_lald, qi_aald, qi_iast, qi_zast, qi_cast, qi_last, qi_aast, qi_alen, qi_new, qi_newa, qi_newq, qi_obj, qi_invS, qi_invV, qi_invI, qi_iret, qi_zret, qi_lret, qi_vret, qi_acopy, qi_max, qi_min, at_o, at_i, at_l, at_q, at_a, lget, lset, lclr, lnon, lnth, spl, shrt, rpush, true_and, and_true, List.set, List.length, Nat.reduceAdd, Nat.reduceLT, Nat.reduceLeDiff, Nat.reduceEqDiff, Nat.reduceSub, o1]
        have r2 := c_R_pairs (h := hc_set p4 (m + 2) (.inl (0, 62, .inl (fun j => nI (va_up (va_up (F 9) 26 2) 27 1 j))))) (q := m + 2) (t := 38) (a := 2) (b := 5) (u := 0) (v := 0) (hs_eq _ _ _) (by omega) (by omega) (by omega) (by omega) (by rw [F9]; rfl) (by rw [F9]; rfl) true
        rw [upd_nI, upd_nI, hs_hs] at r2
        have r2 : MA M_R_pairs [.ref (m + 2), .int (nI 38), .int (nI 2), .int (nI 5), .int (nI 1)] (hc_set p4 (m + 2) (.inl (0, 62, .inl (fun j => nI (va_up (va_up (F 9) 26 2) 27 1 j))))) none (hc_set p4 (m + 2) (.inl (0, 62, .inl (fun j => nI (va_up (va_up (va_up (va_up (F 9) 26 2) 27 1) 40 32) 43 4 j))))) := r2
        rw [show va_up (va_up (va_up (va_up (F 9) 26 2) 27 1) 40 32) 43 4 = rowP 9 20 tI bI aI jI (fun _ => 0) from rw2.symm] at r2
        refine ⟨_, _, r2, ?_⟩
        simp only [qi_push, qi_pushl, qi_iload, qi_lload, qi_aload, qi_istore, qi_astore, qi_lstore, qi_iinc, qi_iadd, qi_isub, qi_imul, qi_iand, qi_ior, qi_ixor, qi_ishl, qi_ishr, qi_iushr, qi_idiv, qi_irem, qi_lor, qi_lmul, qi_ladd, qi_lsub, qi_land, qi_lshl, qi_lshr, qi_i2l, qi_l2i, qi_i2c, qi_lcmp, qi_dup, qi_dup2, qi_pop, qi_if_eq, qi_icmp_eq, qi_if_ne, qi_icmp_ne, qi_if_lt, qi_icmp_lt, qi_if_ge, qi_icmp_ge, qi_if_gt, qi_icmp_gt, qi_if_le, qi_icmp_le, qi_sw, qi_get, qi_put, qi_iald, qi_lald, qi_aald, qi_iast, qi_zast, qi_cast, qi_last, qi_aast, qi_alen, qi_new, qi_newa, qi_newq, qi_obj, qi_invS, qi_invV, qi_invI, qi_iret, qi_zret, qi_lret, qi_vret, qi_acopy, qi_max, qi_min, at_o, at_i, at_l, at_q, at_a, lget, lset, lclr, lnon, lnth, spl, shrt, rpush, true_and, and_true, List.set, List.length, Nat.reduceAdd, Nat.reduceLT, Nat.reduceLeDiff, Nat.reduceEqDiff, Nat.reduceSub]
        exact (by first | trivial | exact ⟨rfl, rfl⟩))
      (fun i hi ih => by
        refine sn_R_init_217 _ _ _ ?_
        have v1 : vp_in (nI (2 + i)) 62 := vp_in_nI (by omega) (by omega)
        have v2 : vp_in (nI (14 + i)) 62 := vp_in_nI (by omega) (by omega)
        have v3 : vp_in (nI i) 9 := vp_in_nI (by omega) (by omega)
        have q1 : (nI (2 + i)).toNatClampNeg = 2 + i := nI_clamp (by omega)
        have q2 : (nI (14 + i)).toNatClampNeg = 14 + i := nI_clamp (by omega)
        have q3 : (nI i).toNatClampNeg = i := nI_clamp (by omega)
        have s0 : ∀ e, (hc_set p4 (m + 2) e).1 m = some (rfO m 0 0 0 0) := fun e => by rw [hs_ne _ _ (by omega), p4m]
        have sB : ∀ e, (hc_set p4 (m + 2) e).1 (m + 13) = ii 9 bI := fun e => by rw [hs_ne _ _ (by omega), p4a]
        simp only [vc_R_init_217, qi_push, qi_pushl, qi_iload, qi_lload, qi_aload, qi_istore, qi_astore, qi_lstore, qi_iinc, qi_iadd, qi_isub, qi_imul, qi_iand, qi_ior, qi_ixor, qi_ishl, qi_ishr, qi_iushr, qi_idiv, qi_irem, qi_lor, qi_lmul, qi_ladd, qi_lsub, qi_land, qi_lshl, qi_lshr, qi_i2l, qi_l2i, qi_i2c, qi_lcmp, qi_dup, qi_dup2, qi_pop, qi_if_eq, qi_icmp_eq, qi_if_ne, qi_icmp_ne, qi_if_lt, qi_icmp_lt, qi_if_ge, qi_icmp_ge, qi_if_gt, qi_icmp_gt, qi_if_le, qi_icmp_le, qi_sw, qi_get, qi_put, qi_iald, qi_lald, qi_aald, qi_iast, qi_zast, qi_cast, qi_last, qi_aast, qi_alen, qi_new, qi_newa, qi_newq, qi_obj, qi_invS, qi_invV, qi_invI, qi_iret, qi_zret, qi_lret, qi_vret, qi_acopy, qi_max, qi_min, at_o, at_i, at_l, at_q, at_a, lget, lset, lclr, lnon, lnth, spl, shrt, rpush, true_and, and_true, List.set, List.length, Nat.reduceAdd, Nat.reduceLT, Nat.reduceLeDiff, Nat.reduceEqDiff, Nat.reduceSub, x0, x2, xT, xB, xS, nI_add, v1, v2, v3, q1, q2, q3, upd_nI, s0, sB, hs_eq, hs_hs, FS i hi]
        exact ⟨fun z => absurd z (nI_ge hi (by omega)), fun _ => ih⟩)
  refine ⟨hF, fun k j => if k = 2 then rowP 9 20 tI bI aI jI (fun _ => 0) j else 0, fun _ => 0, MX.of (lv := [some (.ref m), none, none, none]) 3 rfl (by decide) (Nat.le_of_ble_eq_true rfl) (sn_R_init_0 _ _ _ ?_), ?_, rfl, fun x => rfl, ⟨by show p4.2 = _; rw [p4b, h2], fun a ha => ?_⟩⟩
  · simp only [vc_R_init_0, qi_aload, qi_obj, qi_push, lget, shrt, true_and]
    refine nst_ok hp (by rw [h2]; show ¬ m = m + 1; omega) (by simp) (by omega) ?_
    rw [e1]
    simp only [qi_aload, qi_push, lget]
    refine nst_ok b1 (by rw [a1]; show ¬ m = m + 2; omega) (by simp) (by omega) ?_
    rw [e2]
    simp only [qi_aload, qi_push, lget]
    refine nst_ok b2 (by rw [a2]; show ¬ m = m + 3; omega) (by simp) (by omega) ?_
    rw [e3]
    simp only [qi_aload, qi_push, lget]
    refine nst_ok b3 (by rw [a3]; show ¬ m = m + 4; omega) (by simp) (by omega) ?_
    rw [e4]
    simp only [qi_aload, qi_push, lget]
    refine nst_ok b4 (by rw [a4]; show ¬ m = m + 5; omega) (by simp) (by omega) ?_
    rw [e5]
    simp only [qi_aload, qi_push, lget]
    refine nst_ok b5 (by rw [a5]; show ¬ m = m + 6; omega) (by simp) (by omega) ?_
    rw [e6]
    simp only [qi_aload, qi_push, lget]
    refine nst_ok b6 (by rw [a6]; show ¬ m = m + 7; omega) (by simp) (by omega) ?_
    rw [e7]
    simp only [qi_aload, qi_push, lget]
    refine nst_ok b7 (by rw [a7]; show ¬ m = m + 8; omega) (by simp) (by omega) ?_
    rw [e8]
    simp only [qi_aload, qi_push, lget]
    refine nst_ok b8 (by rw [a8]; show ¬ m = m + 9; omega) (by simp) (by omega) ?_
    rw [e9]
    simp only [qi_aload, qi_push, lget]
    refine nst_ok b9 (by rw [a9]; show ¬ m = m + 10; omega) (by simp) (by omega) ?_
    rw [e10]
    simp only [qi_aload, qi_push, lget]
    refine nst_ok b10 (by rw [a10]; show ¬ m = m + 11; omega) (by simp) (by omega) ?_
    rw [e11]
    simp only [qi_aload, qi_push, lget]
    have w9 : (nI 9).toNatClampNeg = 9 := nI_clamp (by omega)
    have w0 : ∀ i, i < 9 → vp_in (nI i) 9 := fun i hi => vp_in_nI (by omega) (by omega)
    have wc : ∀ i, i < 9 → (nI i).toNatClampNeg = i := fun i hi => nI_clamp (by omega)
    simp only [qi_newa, w9, a11]
    refine ⟨nI_pos (by omega), by omega, ?_⟩
    rw [if_neg (by decide), ep1]
    simp only [qi_dup, qi_push, qi_iast, at_i, p1a, hs_eq, hs_hs, true_and, w0 0 (by omega), w0 1 (by omega), w0 2 (by omega), w0 3 (by omega), w0 4 (by omega), w0 5 (by omega), w0 6 (by omega), w0 7 (by omega), w0 8 (by omega), wc 0 (by omega), wc 1 (by omega), wc 2 (by omega), wc 3 (by omega), wc 4 (by omega), wc 5 (by omega), wc 6 (by omega), wc 7 (by omega), wc 8 (by omega), upd_nI]
    show qi_astore 1 _ _ _ (hc_set p1 (m + 12) (.inl (0, 9, .inl (fun j => nI (tI j)))))
    rw [ep2]
    simp only [qi_astore, lset, lclr, lnon, List.set, qi_push, qi_newa, w9, p2b]
    refine ⟨nI_pos (by omega), by omega, ?_⟩
    rw [if_neg (by decide), ep3]
    simp only [qi_dup, qi_push, qi_iast, at_i, p3a, hs_eq, hs_hs, true_and, w0 0 (by omega), w0 1 (by omega), w0 2 (by omega), w0 3 (by omega), w0 4 (by omega), w0 5 (by omega), w0 6 (by omega), w0 7 (by omega), w0 8 (by omega), wc 0 (by omega), wc 1 (by omega), wc 2 (by omega), wc 3 (by omega), wc 4 (by omega), wc 5 (by omega), wc 6 (by omega), wc 7 (by omega), wc 8 (by omega), upd_nI]
    show qi_astore 2 _ _ _ (hc_set p3 (m + 13) (.inl (0, 9, .inl (fun j => nI (bI j)))))
    rw [ep4]
    have v1 : vp_in (nI 0) 62 := vp_in_nI (by omega) (by omega)
    have v2 : vp_in (nI 1) 62 := vp_in_nI (by omega) (by omega)
    have s0 : ∀ e, (hc_set p4 (m + 2) e).1 m = some (rfO m 0 0 0 0) := fun e => by rw [hs_ne _ _ (by omega), p4m]
    simp only [qi_push, qi_pushl, qi_iload, qi_lload, qi_aload, qi_istore, qi_astore, qi_lstore, qi_iinc, qi_iadd, qi_isub, qi_imul, qi_iand, qi_ior, qi_ixor, qi_ishl, qi_ishr, qi_iushr, qi_idiv, qi_irem, qi_lor, qi_lmul, qi_ladd, qi_lsub, qi_land, qi_lshl, qi_lshr, qi_i2l, qi_l2i, qi_i2c, qi_lcmp, qi_dup, qi_dup2, qi_pop, qi_if_eq, qi_icmp_eq, qi_if_ne, qi_icmp_ne, qi_if_lt, qi_icmp_lt, qi_if_ge, qi_icmp_ge, qi_if_gt, qi_icmp_gt, qi_if_le, qi_icmp_le, qi_sw, qi_get, qi_put, qi_iald, qi_lald, qi_aald, qi_iast, qi_zast, qi_cast, qi_last, qi_aast, qi_alen, qi_new, qi_newa, qi_newq, qi_obj, qi_invS, qi_invV, qi_invI, qi_iret, qi_zret, qi_lret, qi_vret, qi_acopy, qi_max, qi_min, at_o, at_i, at_l, at_q, at_a, lget, lset, lclr, lnon, lnth, spl, shrt, rpush, true_and, and_true, List.set, List.length, Nat.reduceAdd, Nat.reduceLT, Nat.reduceLeDiff, Nat.reduceEqDiff, Nat.reduceSub, p4m, p42, s0, v1, v2, wc 0 (by omega), wc 1 (by omega), hs_eq, hs_hs, upd_nI]
    have l0 := lpq 0 (by omega)
    have eF : F 0 = va_up (va_up (fun _ => 0) 0 9) 1 20 := by
      funext j
      show rowP _ _ _ _ _ _ _ j = _
      by_cases q1 : j = 1
      · subst q1; rfl
      by_cases q2 : j = 0
      · subst q2; rfl
      rw [up_ne q1, up_ne q2]
      unfold rowP
      rw [if_neg q2, if_neg q1]
      repeat' split
      all_goals first | rfl | omega
    rw [← eF]
    exact l0
  · refine ⟨?_, ?_, hs_eq _ _ _, ?_, ?_, ?_, ?_, ?_, ?_, ?_, ?_, ?_⟩ <;> (show (hc_set p4 (m + 2) _).1 _ = _; rw [hs_ne _ _ (by omega)])
    · exact p4m
    all_goals (rw [p4c _ (by omega) (by omega)]; assumption)
  · show (hc_set p4 (m + 2) _).1 _ = _
    rw [hs_ne _ _ (by omega), p4c _ (by omega) (by omega), gr _ (by omega)]
