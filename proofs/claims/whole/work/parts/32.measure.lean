/-! LINES: measuring a plan. -/
/-- all that members of s bring, by f -/
def bor (f : Nat → Nat) (s : Nat) : Nat → Nat
  | 0 => 0
  | n + 1 => if s.testBit n then bor f s n ||| f n else bor f s n
def spn (s n : Nat) : Nat := tsum (fun x => 2 ^ (4 * (11 - x))) s n
theorem tsum_c {f : Nat → Nat} {s r : Nat} : ∀ n, (∀ x, x < n → s.testBit x = r.testBit x) → tsum f s n = tsum f r n := by
  intro n
  induction n with
  | zero => intro _; rfl
  | succ n ih => intro h; simp only [tsum]; rw [ih (fun x hx => h x (by omega)), h n (by omega)]
theorem bor_c {f : Nat → Nat} {s r : Nat} : ∀ n, (∀ x, x < n → s.testBit x = r.testBit x) → bor f s n = bor f r n := by
  intro n
  induction n with
  | zero => intro _; rfl
  | succ n ih => intro h; simp only [bor]; rw [ih (fun x hx => h x (by omega)), h n (by omega)]
theorem bor_lt {f : Nat → Nat} (hf : ∀ x, f x < 4096) (s : Nat) : ∀ n, bor f s n < 4096 := by
  intro n
  induction n with
  | zero => show 0 < 4096; omega
  | succ n ih =>
    simp only [bor]
    split
    · exact or_lt (k := 12) ih (hf n)
    · exact ih
theorem bor_bit {f : Nat → Nat} {s i : Nat} : ∀ n, (bor f s n).testBit i = true ↔ ∃ x, x < n ∧ s.testBit x = true ∧ (f x).testBit i = true := by
  intro n
  induction n with
  | zero => simp [bor]
  | succ n ih =>
    simp only [bor]
    constructor
    · intro h
      split at h
      · rename_i q
        rw [Nat.testBit_or, Bool.or_eq_true] at h
        rcases h with h | h
        · obtain ⟨x, h1, h2⟩ := ih.mp h; exact ⟨x, by omega, h2⟩
        · exact ⟨n, by omega, q, h⟩
      · obtain ⟨x, h1, h2⟩ := ih.mp h; exact ⟨x, by omega, h2⟩
    · rintro ⟨x, h1, h2, h3⟩
      by_cases q : x = n
      · subst q
        rw [if_pos h2, Nat.testBit_or, h3, Bool.or_true]
      · have := ih.mpr ⟨x, by omega, h2, h3⟩
        split
        · rw [Nat.testBit_or, this]; rfl
        · exact this
theorem lN_or (a b : Nat) : lN a ||| lN b = lN (a ||| b) := by
  apply Int64.toBitVec_inj.1
  show BitVec.ofNat 64 a ||| BitVec.ofNat 64 b = BitVec.ofNat 64 (a ||| b)
  apply BitVec.eq_of_getLsbD_eq
  intro i hi
  simp [hi]
theorem spn_dvd (s : Nat) : ∀ t, t ≤ 12 → ∃ q, spn s t = 2 ^ (4 * (12 - t)) * q := by
  intro t
  induction t with
  | zero => intro _; exact ⟨0, rfl⟩
  | succ t ih =>
    intro ht
    obtain ⟨q, hq⟩ := ih (by omega)
    have e : 4 * (12 - t) = 4 * (12 - (t + 1)) + 4 := by omega
    have e2 : 11 - t = 12 - (t + 1) := by omega
    unfold spn at hq ⊢
    simp only [tsum]
    split
    · refine ⟨2 ^ 4 * q + 1, ?_⟩
      rw [hq, e, Nat.pow_add, Nat.mul_assoc, Nat.mul_add, Nat.mul_one, e2]
    · refine ⟨2 ^ 4 * q, ?_⟩
      rw [hq, e, Nat.pow_add, Nat.mul_assoc, Nat.add_zero]
theorem spn_lt (s : Nat) : ∀ t, t ≤ 12 → spn s t < 2 ^ 48 := by
  have h : ∀ t, t ≤ 12 → spn s t + 2 ^ (4 * (12 - t)) ≤ 2 ^ 48 := by
    intro t
    induction t with
    | zero => intro _; show 0 + 2 ^ 48 ≤ 2 ^ 48; omega
    | succ t ih =>
      intro ht
      have := ih (by omega)
      have e : 4 * (12 - t) = 4 * (12 - (t + 1)) + 4 := by omega
      have e2 : 11 - t = 12 - (t + 1) := by omega
      rw [e, Nat.pow_add] at this
      unfold spn at this ⊢
      simp only [tsum, e2]
      have p := Nat.two_pow_pos (4 * (12 - (t + 1)))
      split <;> omega
  intro t ht
  have := h t ht
  have := Nat.two_pow_pos (4 * (12 - t))
  omega
theorem spn_or {r t : Nat} (ht : t < 12) : spn r t ||| 2 ^ (4 * (11 - t)) = spn r t + 2 ^ (4 * (11 - t)) := by
  obtain ⟨q, hq⟩ := spn_dvd r t (by omega)
  have e : 4 * (12 - t) = 4 * (11 - t) + 4 := by omega
  rw [hq, e]
  have hlt : 2 ^ (4 * (11 - t)) < 2 ^ (4 * (11 - t) + 4) := Nat.pow_lt_pow_right (by omega) (by omega)
  exact (Nat.two_pow_add_eq_or_of_lt hlt q).symm
theorem ll_shl : ∀ t : Nat, t < 12 → (lN 1) <<< ((nI (4 * (11 - t))).toInt64 &&& 63) = lN (2 ^ (4 * (11 - t))) := by decide +kernel
/-- measured up to t -/
def mP (n : Nat) (T B A J : Nat → Nat) (F G : Nat → Nat → Nat) : Prop := ∀ s, s < 2 ^ n → F 3 s = tsum T s n ∧ F 4 s = bor B s n ∧ F 5 s = bor J s n ∧ F 6 s = bor A s n ∧ G 1 s = spn s n
theorem tb_low {t r x : Nat} (hr : r < 2 ^ t) (hx : x < t) : (r ||| 2 ^ t).testBit x = r.testBit x := by
  rw [Nat.testBit_or, Nat.testBit_two_pow]
  simp; omega
theorem or_pow {t r : Nat} (hr : r < 2 ^ t) : r ||| 2 ^ t = r + 2 ^ t := by
  have := Nat.two_pow_add_eq_or_of_lt hr 1
  rw [Nat.mul_one] at this
  rw [Nat.or_comm, ← this, Nat.add_comm]
section LN
variable {a N fx us n C : Nat} {p : Nat} {T B A J S : Nat → Nat}
theorem up_le {α : Nat} {F : Nat → Nat → Nat} {i : Nat} {f : Nat → Nat} (hF : ∀ k s, F k s ≤ α) (hf : ∀ s, f s ≤ α) : ∀ k s, va_up F i f k s ≤ α := by
  intro k s
  unfold va_up
  split
  · exact hf s
  · exact hF k s
theorem up1_le {α : Nat} {f : Nat → Nat} {i v : Nat} (hf : ∀ s, f s ≤ α) (hv : v ≤ α) : ∀ s, va_up f i v s ≤ α := by
  intro s
  unfold va_up
  split
  · exact hv
  · exact hf s
set_option maxRecDepth 20000 in
set_option maxHeartbeats 2000000 in
theorem c_L_measure {h : hc_H} {wh : Nat} {c : Int32} {F G : Nat → Nat → Nat} (hp : isLn h a N fx wh c us F G) (hN : N ≤ 4096) (hn2 : 2 ^ n ≤ N) (hF : ∀ k s, F k s ≤ 2000000) (hq : isPl h p n (nI C) T B A J S) (hw : pw n T B A J S) (hC : C < 1000) (hd : p + 6 ≤ a ∨ a + 13 ≤ p) (hz : F 3 0 = 0 ∧ F 4 0 = 0 ∧ F 5 0 = 0 ∧ F 6 0 = 0 ∧ G 1 0 = 0) : ∃ h' F' G', MA M_L_measure [.ref a, .ref p] h none h' ∧ isLn h' a N fx (2 ^ n - 1) (nI C) (fitU F' C (2 ^ n - 1)) (va_up F' 7 (fitN F' C (2 ^ n))) G' ∧ frm h h' a 13 ∧ mP n T B A J F' G' ∧ (∀ k s, F' k s ≤ 2000000) ∧ F' 1 = F 1 ∧ F' 2 = F 2 ∧ F' 8 = F 8 ∧ F' 9 = F 9 ∧ F' 10 = F 10 ∧ F' 7 = F 7 ∧ G' 0 = G 0 := by
  have hn := hw.1
  have l12 : 2 ^ n ≤ 4096 := by omega
  -- the state at a loop's head
  let I : hc_H → (Nat → Nat → Nat) → (Nat → Nat → Nat) → Prop := fun h1 F1 G1 => isLn h1 a N fx (2 ^ n - 1) c us F1 G1 ∧ frm h h1 a 13 ∧ (∀ k s, F1 k s ≤ 2000000) ∧ F1 1 = F 1 ∧ F1 2 = F 2 ∧ F1 8 = F 8 ∧ F1 9 = F 9 ∧ F1 10 = F 10 ∧ F1 7 = F 7 ∧ G1 0 = G 0
  let Z : hc_H → Prop := fun h' => ∃ F' G', isLn h' a N fx (2 ^ n - 1) (nI C) (fitU F' C (2 ^ n - 1)) (va_up F' 7 (fitN F' C (2 ^ n))) G' ∧ frm h h' a 13 ∧ mP n T B A J F' G' ∧ (∀ k s, F' k s ≤ 2000000) ∧ F' 1 = F 1 ∧ F' 2 = F 2 ∧ F' 8 = F 8 ∧ F' 9 = F 9 ∧ F' 10 = F 10 ∧ F' 7 = F 7 ∧ G' 0 = G 0
  have loop := lp_up (P := fun t => ∀ h1 F1 G1, I h1 F1 G1 → mP t T B A J F1 G1 → ∃ h', Z h' ∧ ∀ o3 o4 o6 o7, cx hc_tt M_L_measure h h' none 10 [some (.ref a), some (.ref p), some (.int (nI t)), o3, o4, none, o6, o7] [] h1) (n := n)
    (by intro h1 F1 G1 ⟨i1, i2, i3, i4⟩ hm
        have q1 : isPl h1 p n (nI C) T B A J S := hq.keep i2 (by omega)
        have lp := Nat.two_pow_pos n
        obtain ⟨h', c1, c2, c3⟩ := c_L_fit i1 hN (by omega) i3 (C := C) (by omega)
        rw [show 2 ^ n - 1 + 1 = 2 ^ n by omega] at c2
        refine ⟨h', ⟨F1, G1, c2, i2.trans c3, hm, i3, i4⟩, fun o3 o4 o6 o7 => sn_L_measure_10 _ _ _ ?_⟩
        simp only [vc_L_measure_10, vc_L_measure_158, qi_push, qi_pushl, qi_iload, qi_lload, qi_aload, qi_istore, qi_astore, qi_lstore, qi_iinc, qi_iadd, qi_isub, qi_imul, qi_iand, qi_ior, qi_ixor, qi_ishl, qi_ishr, qi_iushr, qi_idiv, qi_irem, qi_lor, qi_lmul, qi_ladd, qi_lsub, qi_land, qi_lshl, qi_lshr, qi_i2l, qi_l2i, qi_i2c, qi_lcmp, qi_dup, qi_dup2, qi_pop, qi_if_eq, qi_icmp_eq, qi_if_ne, qi_icmp_ne, qi_if_lt, qi_icmp_lt, qi_if_ge, qi_icmp_ge, qi_if_gt, qi_icmp_gt, qi_if_le, qi_icmp_le, qi_sw, qi_get, qi_put, qi_iald, qi_lald, qi_aald, qi_iast, qi_zast, qi_cast, qi_last, qi_aast, qi_alen, qi_new, qi_newa, qi_newq, qi_obj, qi_invS, qi_invV, qi_invI, qi_iret, qi_zret, qi_lret, qi_vret, qi_acopy, qi_max, qi_min, at_o, at_i, at_l, at_q, at_a, lget, lset, lclr, lnon, lnth, spl, shrt, rpush, true_and, and_true, List.set, List.length, Nat.reduceAdd, Nat.reduceLT, Nat.reduceLeDiff, Nat.reduceEqDiff, Nat.reduceSub, q1.1, i1.1]
        refine ⟨fun _ => ⟨_, _, c1, ?_⟩, fun z => absurd (nI_le (by omega) (by omega)) z⟩
        simp only [qi_push, qi_pushl, qi_iload, qi_lload, qi_aload, qi_istore, qi_astore, qi_lstore, qi_iinc, qi_iadd, qi_isub, qi_imul, qi_iand, qi_ior, qi_ixor, qi_ishl, qi_ishr, qi_iushr, qi_idiv, qi_irem, qi_lor, qi_lmul, qi_ladd, qi_lsub, qi_land, qi_lshl, qi_lshr, qi_i2l, qi_l2i, qi_i2c, qi_lcmp, qi_dup, qi_dup2, qi_pop, qi_if_eq, qi_icmp_eq, qi_if_ne, qi_icmp_ne, qi_if_lt, qi_icmp_lt, qi_if_ge, qi_icmp_ge, qi_if_gt, qi_icmp_gt, qi_if_le, qi_icmp_le, qi_sw, qi_get, qi_put, qi_iald, qi_lald, qi_aald, qi_iast, qi_zast, qi_cast, qi_last, qi_aast, qi_alen, qi_new, qi_newa, qi_newq, qi_obj, qi_invS, qi_invV, qi_invI, qi_iret, qi_zret, qi_lret, qi_vret, qi_acopy, qi_max, qi_min, at_o, at_i, at_l, at_q, at_a, lget, lset, lclr, lnon, lnth, spl, shrt, rpush, true_and, and_true, List.set, List.length, Nat.reduceAdd, Nat.reduceLT, Nat.reduceLeDiff, Nat.reduceEqDiff, Nat.reduceSub])
    (fun t ht ih h1 F1 G1 hi1 hm1 => by
        have pt : 2 ^ (t + 1) ≤ 2 ^ n := Nat.pow_le_pow_right (by omega) (by omega)
        have pt2 : 2 ^ (t + 1) = 2 ^ t + 2 ^ t := by rw [Nat.pow_succ]; omega
        have inner := lp_up (P := fun r => ∀ h2 F2 G2, I h2 F2 G2 → mP t T B A J F2 G2 → (∀ s, s < r → F2 3 (s + 2 ^ t) = tsum T s t + T t ∧ F2 4 (s + 2 ^ t) = bor B s t ||| B t ∧ F2 5 (s + 2 ^ t) = bor J s t ||| J t ∧ F2 6 (s + 2 ^ t) = bor A s t ||| A t ∧ G2 1 (s + 2 ^ t) = spn s t + 2 ^ (4 * (11 - t))) → ∃ h', Z h' ∧ ∀ o7, cx hc_tt M_L_measure h h' none 33 [some (.ref a), some (.ref p), some (.int (nI t)), some (.int (nI (2 ^ t))), some (.long (lN (2 ^ (4 * (11 - t))))), none, some (.int (nI r)), o7] [] h2) (n := 2 ^ t)
          (by intro h2 F2 G2 hi2 hm2 hr2
              have hm3 : mP (t + 1) T B A J F2 G2 := by
                intro s hs
                by_cases q : s < 2 ^ t
                · obtain ⟨g1, g2, g3, g4, g5⟩ := hm2 s q
                  have b0 : s.testBit t = false := tb_ge q (Nat.le_refl _)
                  refine ⟨?_, ?_, ?_, ?_, ?_⟩
                  · simp only [tsum, b0]; exact g1
                  · simp only [bor, b0]; exact g2
                  · simp only [bor, b0]; exact g3
                  · simp only [bor, b0]; exact g4
                  · unfold spn; simp only [tsum, b0]; exact g5
                · obtain ⟨r, rfl⟩ : ∃ r, s = r + 2 ^ t := ⟨s - 2 ^ t, by omega⟩
                  have hr : r < 2 ^ t := by omega
                  obtain ⟨g1, g2, g3, g4, g5⟩ := hr2 r hr
                  have b1 : (r + 2 ^ t).testBit t = true := by rw [← or_pow hr, Nat.testBit_or, Nat.testBit_two_pow_self, Bool.or_true]
                  have bl : ∀ x, x < t → (r + 2 ^ t).testBit x = r.testBit x := fun x hx => by rw [← or_pow hr]; exact tb_low hr hx
                  refine ⟨?_, ?_, ?_, ?_, ?_⟩
                  · simp only [tsum, b1, tsum_c t bl]; exact g1
                  · simp only [bor, b1, bor_c t bl]; exact g2
                  · simp only [bor, b1, bor_c t bl]; exact g3
                  · simp only [bor, b1, bor_c t bl]; exact g4
                  · unfold spn; simp only [tsum, b1, tsum_c t bl]; exact g5
              obtain ⟨h', z1, z2⟩ := ih h2 F2 G2 hi2 hm3
              refine ⟨h', z1, fun o7 => sn_L_measure_33 _ _ _ ?_⟩
              simp only [vc_L_measure_33, vc_L_measure_152, qi_push, qi_pushl, qi_iload, qi_lload, qi_aload, qi_istore, qi_astore, qi_lstore, qi_iinc, qi_iadd, qi_isub, qi_imul, qi_iand, qi_ior, qi_ixor, qi_ishl, qi_ishr, qi_iushr, qi_idiv, qi_irem, qi_lor, qi_lmul, qi_ladd, qi_lsub, qi_land, qi_lshl, qi_lshr, qi_i2l, qi_l2i, qi_i2c, qi_lcmp, qi_dup, qi_dup2, qi_pop, qi_if_eq, qi_icmp_eq, qi_if_ne, qi_icmp_ne, qi_if_lt, qi_icmp_lt, qi_if_ge, qi_icmp_ge, qi_if_gt, qi_icmp_gt, qi_if_le, qi_icmp_le, qi_sw, qi_get, qi_put, qi_iald, qi_lald, qi_aald, qi_iast, qi_zast, qi_cast, qi_last, qi_aast, qi_alen, qi_new, qi_newa, qi_newq, qi_obj, qi_invS, qi_invV, qi_invI, qi_iret, qi_zret, qi_lret, qi_vret, qi_acopy, qi_max, qi_min, at_o, at_i, at_l, at_q, at_a, lget, lset, lclr, lnon, lnth, spl, shrt, rpush, true_and, and_true, List.set, List.length, Nat.reduceAdd, Nat.reduceLT, Nat.reduceLeDiff, Nat.reduceEqDiff, Nat.reduceSub, nI_add]
              exact ⟨fun _ => z2 _ _ _ _, fun z => absurd (nI_le (by omega) (by omega)) z⟩)
          (fun r hr ihr h2 F2 G2 hi2 hm2 hr2 => by
              obtain ⟨i1, i2, i3, i4, i5, i6, i7, i8, i9, i10⟩ := id hi2
              have q1 : isPl h2 p n (nI C) T B A J S := hq.keep i2 (by omega)
              obtain ⟨m1, m2, m3, m4, m5⟩ := hm2 r hr
              have so : r ||| 2 ^ t = r + 2 ^ t := or_pow hr
              have hv : vp_in (nI (r + 2 ^ t)) N := vp_in_nI (by omega) (by omega)
              have hvr : vp_in (nI r) N := vp_in_nI (by omega) (by omega)
              have hvt : vp_in (nI t) 12 := vp_in_nI (by omega) (by omega)
              have cr : (nI r).toNatClampNeg = r := nI_clamp (by omega)
              have ct : (nI t).toNatClampNeg = t := nI_clamp (by omega)
              have cs : (nI (r + 2 ^ t)).toNatClampNeg = r + 2 ^ t := nI_clamp (by omega)
              -- the five stores
              obtain ⟨k3, ek3⟩ : ∃ k, hc_set h2 (a + 3) (.inl (0, N, .inl (fun j => nI (va_up (F2 3) (r + 2 ^ t) (F2 3 r + T t) j)))) = k := ⟨_, rfl⟩
              obtain ⟨k4, ek4⟩ : ∃ k, hc_set k3 (a + 4) (.inl (0, N, .inl (fun j => nI (va_up (F2 4) (r + 2 ^ t) (F2 4 r ||| B t) j)))) = k := ⟨_, rfl⟩
              obtain ⟨k5, ek5⟩ : ∃ k, hc_set k4 (a + 5) (.inl (0, N, .inl (fun j => nI (va_up (F2 5) (r + 2 ^ t) (F2 5 r ||| J t) j)))) = k := ⟨_, rfl⟩
              obtain ⟨k6, ek6⟩ : ∃ k, hc_set k5 (a + 6) (.inl (0, N, .inl (fun j => nI (va_up (F2 6) (r + 2 ^ t) (F2 6 r ||| A t) j)))) = k := ⟨_, rfl⟩
              obtain ⟨k9, ek9⟩ : ∃ k, hc_set k6 (a + 12) (.inl (2, N, .inr (.inl (fun j => lN (va_up (G2 1) (r + 2 ^ t) (G2 1 r ||| 2 ^ (4 * (11 - t))) j))))) = k := ⟨_, rfl⟩
              have l3 : isLn k3 a N fx (2 ^ n - 1) c us (va_up F2 3 (va_up (F2 3) (r + 2 ^ t) (F2 3 r + T t))) G2 := ek3 ▸ i1.set3
              have l4 : isLn k4 a N fx (2 ^ n - 1) c us (va_up (va_up F2 3 (va_up (F2 3) (r + 2 ^ t) (F2 3 r + T t))) 4 (va_up (F2 4) (r + 2 ^ t) (F2 4 r ||| B t))) G2 := ek4 ▸ l3.set4
              have l5 : isLn k5 a N fx (2 ^ n - 1) c us (va_up (va_up (va_up F2 3 (va_up (F2 3) (r + 2 ^ t) (F2 3 r + T t))) 4 (va_up (F2 4) (r + 2 ^ t) (F2 4 r ||| B t))) 5 (va_up (F2 5) (r + 2 ^ t) (F2 5 r ||| J t))) G2 := ek5 ▸ l4.set5
              have l6 : isLn k6 a N fx (2 ^ n - 1) c us (va_up (va_up (va_up (va_up F2 3 (va_up (F2 3) (r + 2 ^ t) (F2 3 r + T t))) 4 (va_up (F2 4) (r + 2 ^ t) (F2 4 r ||| B t))) 5 (va_up (F2 5) (r + 2 ^ t) (F2 5 r ||| J t))) 6 (va_up (F2 6) (r + 2 ^ t) (F2 6 r ||| A t))) G2 := ek6 ▸ l5.set6
              have l9 : isLn k9 a N fx (2 ^ n - 1) c us (va_up (va_up (va_up (va_up F2 3 (va_up (F2 3) (r + 2 ^ t) (F2 3 r + T t))) 4 (va_up (F2 4) (r + 2 ^ t) (F2 4 r ||| B t))) 5 (va_up (F2 5) (r + 2 ^ t) (F2 5 r ||| J t))) 6 (va_up (F2 6) (r + 2 ^ t) (F2 6 r ||| A t))) (va_up G2 1 (va_up (G2 1) (r + 2 ^ t) (G2 1 r ||| 2 ^ (4 * (11 - t))))) := ek9 ▸ l6.setQ
              have f3 : frm h k3 a 13 := ek3 ▸ i2.set (by omega)
              have f4 : frm h k4 a 13 := ek4 ▸ f3.set (by omega)
              have f5 : frm h k5 a 13 := ek5 ▸ f4.set (by omega)
              have f6 : frm h k6 a 13 := ek6 ▸ f5.set (by omega)
              have f9 : frm h k9 a 13 := ek9 ▸ f6.set (by omega)
              have q3 : isPl k3 p n (nI C) T B A J S := hq.keep f3 (by omega)
              have q4 : isPl k4 p n (nI C) T B A J S := hq.keep f4 (by omega)
              have q5 : isPl k5 p n (nI C) T B A J S := hq.keep f5 (by omega)
              have lT := hw.2.1 t
              have t3 : F2 3 r + T t ≤ 2000000 := by have := tsum_le (f := T) (s := r) (b := 60) t (fun x _ => hw.2.1 x); rw [m1]; omega
              have t4 : F2 4 r ||| B t ≤ 2000000 := by have := or_lt (k := 12) (bor_lt hw.2.2.1 r t) (hw.2.2.1 t); rw [m2]; omega
              have t5 : F2 5 r ||| J t ≤ 2000000 := by have := or_lt (k := 12) (bor_lt hw.2.2.2.2.1 r t) (hw.2.2.2.2.1 t); rw [m3]; omega
              have t6 : F2 6 r ||| A t ≤ 2000000 := by have := or_lt (k := 12) (bor_lt hw.2.2.2.1 r t) (hw.2.2.2.1 t); rw [m4]; omega
              obtain ⟨h', z1, z2⟩ := ihr k9 _ _
                ⟨l9, f9, up_le (up_le (up_le (up_le i3 (up1_le (i3 3) t3)) (up1_le (i3 4) t4)) (up1_le (i3 5) t5)) (up1_le (i3 6) t6), i4, i5, i6, i7, i8, i9, i10⟩
                (fun s hs => by
                  have ne : ¬ s = r + 2 ^ t := by omega
                  have := hm2 s hs
                  unfold va_up
                  simp [ne]
                  exact this)
                (fun s hs => by
                  by_cases q : s = r
                  · subst q
                    unfold va_up
                    simp only [Nat.reduceEqDiff, if_true, if_false]
                    refine ⟨?_, ?_, ?_, ?_, ?_⟩
                    · rw [m1]
                    · rw [m2]
                    · rw [m3]
                    · rw [m4]
                    · rw [m5]; exact spn_or (by omega)
                  · have ne : ¬ s + 2 ^ t = r + 2 ^ t := by omega
                    have := hr2 s (by omega)
                    unfold va_up
                    simp [ne, q]
                    exact this)
              refine ⟨h', z1, fun o7 => sn_L_measure_33 _ _ _ ?_⟩
              have d0 := i1.1
              have d3 := i1.2.2.2.1
              have x3 := l3.1
              have d4 : k3.1 (a + 4) = ii N (F2 4) := l3.2.2.2.2.1
              have x4 := l4.1
              have d5 : k4.1 (a + 5) = ii N (F2 5) := l4.2.2.2.2.2.1
              have x5 := l5.1
              have d6 : k5.1 (a + 6) = ii N (F2 6) := l5.2.2.2.2.2.2.1
              have x6 := l6.1
              have d9 := l6.2.2.2.2.2.2.2.2.2.2.2.2
              have y0 := q1.1
              have y1 := q1.2.1
              have w3 := q3.1
              have y2 := q3.2.2.1
              have w4 := q4.1
              have y4 := q4.2.2.2.2.1
              have w5 := q5.1
              have y3 := q5.2.2.2.1
              simp only [vc_L_measure_33, qi_push, qi_pushl, qi_iload, qi_lload, qi_aload, qi_istore, qi_astore, qi_lstore, qi_iinc, qi_iadd, qi_isub, qi_imul, qi_iand, qi_ior, qi_ixor, qi_ishl, qi_ishr, qi_iushr, qi_idiv, qi_irem, qi_lor, qi_lmul, qi_ladd, qi_lsub, qi_land, qi_lshl, qi_lshr, qi_i2l, qi_l2i, qi_i2c, qi_lcmp, qi_dup, qi_dup2, qi_pop, qi_if_eq, qi_icmp_eq, qi_if_ne, qi_icmp_ne, qi_if_lt, qi_icmp_lt, qi_if_ge, qi_icmp_ge, qi_if_gt, qi_icmp_gt, qi_if_le, qi_icmp_le, qi_sw, qi_get, qi_put, qi_iald, qi_lald, qi_aald, qi_iast, qi_zast, qi_cast, qi_last, qi_aast, qi_alen, qi_new, qi_newa, qi_newq, qi_obj, qi_invS, qi_invV, qi_invI, qi_iret, qi_zret, qi_lret, qi_vret, qi_acopy, qi_max, qi_min, at_o, at_i, at_l, at_q, at_a, lget, lset, lclr, lnon, lnth, spl, shrt, rpush, true_and, and_true, List.set, List.length, Nat.reduceAdd, Nat.reduceLT, Nat.reduceLeDiff, Nat.reduceEqDiff, Nat.reduceSub, ni_or, so, d0, d3, y0, y1, hv, hvr, hvt, cr, ct, cs, upd_nI, nI_add, ek3, x3, d4, w3, y2, ek4, x4, d5, w4, y4, ek5, x5, d6, w5, y3, ek6, x6, d9, lN_or, updL_lN, ek9]
              exact ⟨fun z => absurd z (nI_ge hr (by omega)), fun _ => z2 _⟩)
        obtain ⟨h', z1, z2⟩ := inner 0 (Nat.zero_le _) h1 F1 G1 hi1 hm1 (fun s hs => by omega)
        refine ⟨h', z1, fun o3 o4 o6 o7 => sn_L_measure_10 _ _ _ ?_⟩
        obtain ⟨i1, i2, -⟩ := hi1
        have q1 : isPl h1 p n (nI C) T B A J S := hq.keep i2 (by omega)
        simp only [vc_L_measure_10, qi_push, qi_pushl, qi_iload, qi_lload, qi_aload, qi_istore, qi_astore, qi_lstore, qi_iinc, qi_iadd, qi_isub, qi_imul, qi_iand, qi_ior, qi_ixor, qi_ishl, qi_ishr, qi_iushr, qi_idiv, qi_irem, qi_lor, qi_lmul, qi_ladd, qi_lsub, qi_land, qi_lshl, qi_lshr, qi_i2l, qi_l2i, qi_i2c, qi_lcmp, qi_dup, qi_dup2, qi_pop, qi_if_eq, qi_icmp_eq, qi_if_ne, qi_icmp_ne, qi_if_lt, qi_icmp_lt, qi_if_ge, qi_icmp_ge, qi_if_gt, qi_icmp_gt, qi_if_le, qi_icmp_le, qi_sw, qi_get, qi_put, qi_iald, qi_lald, qi_aald, qi_iast, qi_zast, qi_cast, qi_last, qi_aast, qi_alen, qi_new, qi_newa, qi_newq, qi_obj, qi_invS, qi_invV, qi_invI, qi_iret, qi_zret, qi_lret, qi_vret, qi_acopy, qi_max, qi_min, at_o, at_i, at_l, at_q, at_a, lget, lset, lclr, lnon, lnth, spl, shrt, rpush, true_and, and_true, List.set, List.length, Nat.reduceAdd, Nat.reduceLT, Nat.reduceLeDiff, Nat.reduceEqDiff, Nat.reduceSub, q1.1]
        refine ⟨fun z => absurd z (nI_ge ht (by omega)), fun _ => ⟨_, _, c_L_placeShift (by omega), ?_⟩⟩
        simp only [qi_push, qi_pushl, qi_iload, qi_lload, qi_aload, qi_istore, qi_astore, qi_lstore, qi_iinc, qi_iadd, qi_isub, qi_imul, qi_iand, qi_ior, qi_ixor, qi_ishl, qi_ishr, qi_iushr, qi_idiv, qi_irem, qi_lor, qi_lmul, qi_ladd, qi_lsub, qi_land, qi_lshl, qi_lshr, qi_i2l, qi_l2i, qi_i2c, qi_lcmp, qi_dup, qi_dup2, qi_pop, qi_if_eq, qi_icmp_eq, qi_if_ne, qi_icmp_ne, qi_if_lt, qi_icmp_lt, qi_if_ge, qi_icmp_ge, qi_if_gt, qi_icmp_gt, qi_if_le, qi_icmp_le, qi_sw, qi_get, qi_put, qi_iald, qi_lald, qi_aald, qi_iast, qi_zast, qi_cast, qi_last, qi_aast, qi_alen, qi_new, qi_newa, qi_newq, qi_obj, qi_invS, qi_invV, qi_invI, qi_iret, qi_zret, qi_lret, qi_vret, qi_acopy, qi_max, qi_min, at_o, at_i, at_l, at_q, at_a, lget, lset, lclr, lnon, lnth, spl, shrt, rpush, true_and, and_true, List.set, List.length, Nat.reduceAdd, Nat.reduceLT, Nat.reduceLeDiff, Nat.reduceEqDiff, Nat.reduceSub]
        rw [ll_shl t (by omega), ni_1shl (by omega)]
        exact z2 _)
  have l1 : isLn (hc_set h a (lnO a fx (2 ^ n - 1) c us)) a N fx (2 ^ n - 1) c us F G := hp.setO
  have f1 : frm h (hc_set h a (lnO a fx (2 ^ n - 1) c us)) a 13 := frm.rfl'.set (by omega)
  obtain ⟨h', ⟨F', G', z1⟩, z2⟩ := loop 0 (Nat.zero_le _) _ F G ⟨l1, f1, hF, rfl, rfl, rfl, rfl, rfl, rfl, rfl⟩ (fun s hs => by
    have : s = 0 := by simp at hs; omega
    subst this
    exact hz)
  refine ⟨h', F', G', MX.of (lv := [some (.ref a), some (.ref p), none, none, none, none, none, none]) 6 rfl (by decide) (Nat.le_of_ble_eq_true rfl) (sn_L_measure_0 _ _ _ ?_), z1⟩
  simp only [vc_L_measure_0, qi_push, qi_pushl, qi_iload, qi_lload, qi_aload, qi_istore, qi_astore, qi_lstore, qi_iinc, qi_iadd, qi_isub, qi_imul, qi_iand, qi_ior, qi_ixor, qi_ishl, qi_ishr, qi_iushr, qi_idiv, qi_irem, qi_lor, qi_lmul, qi_ladd, qi_lsub, qi_land, qi_lshl, qi_lshr, qi_i2l, qi_l2i, qi_i2c, qi_lcmp, qi_dup, qi_dup2, qi_pop, qi_if_eq, qi_icmp_eq, qi_if_ne, qi_icmp_ne, qi_if_lt, qi_icmp_lt, qi_if_ge, qi_icmp_ge, qi_if_gt, qi_icmp_gt, qi_if_le, qi_icmp_le, qi_sw, qi_get, qi_put, qi_iald, qi_lald, qi_aald, qi_iast, qi_zast, qi_cast, qi_last, qi_aast, qi_alen, qi_new, qi_newa, qi_newq, qi_obj, qi_invS, qi_invV, qi_invI, qi_iret, qi_zret, qi_lret, qi_vret, qi_acopy, qi_max, qi_min, at_o, at_i, at_l, at_q, at_a, lget, lset, lclr, lnon, lnth, spl, shrt, rpush, true_and, and_true, List.set, List.length, Nat.reduceAdd, Nat.reduceLT, Nat.reduceLeDiff, Nat.reduceEqDiff, Nat.reduceSub, hq.1]
  refine ⟨_, _, c_P_everyTask hq hn, ?_⟩
  simp only [qi_push, qi_pushl, qi_iload, qi_lload, qi_aload, qi_istore, qi_astore, qi_lstore, qi_iinc, qi_iadd, qi_isub, qi_imul, qi_iand, qi_ior, qi_ixor, qi_ishl, qi_ishr, qi_iushr, qi_idiv, qi_irem, qi_lor, qi_lmul, qi_ladd, qi_lsub, qi_land, qi_lshl, qi_lshr, qi_i2l, qi_l2i, qi_i2c, qi_lcmp, qi_dup, qi_dup2, qi_pop, qi_if_eq, qi_icmp_eq, qi_if_ne, qi_icmp_ne, qi_if_lt, qi_icmp_lt, qi_if_ge, qi_icmp_ge, qi_if_gt, qi_icmp_gt, qi_if_le, qi_icmp_le, qi_sw, qi_get, qi_put, qi_iald, qi_lald, qi_aald, qi_iast, qi_zast, qi_cast, qi_last, qi_aast, qi_alen, qi_new, qi_newa, qi_newq, qi_obj, qi_invS, qi_invV, qi_invI, qi_iret, qi_zret, qi_lret, qi_vret, qi_acopy, qi_max, qi_min, at_o, at_i, at_l, at_q, at_a, lget, lset, lclr, lnon, lnth, spl, shrt, rpush, true_and, and_true, List.set, List.length, Nat.reduceAdd, Nat.reduceLT, Nat.reduceLeDiff, Nat.reduceEqDiff, Nat.reduceSub, hp.1]
  exact ⟨hc_fit_i, z2 _ _ _ _⟩
end LN
