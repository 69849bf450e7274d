/-! THE MODEL: orders that bind. -/
def bl (P : Nat → Nat → Bool) (n : Nat) : Nat → List Nat
  | 0 => []
  | k + 1 => bl P n k ++ if k / 12 < n ∧ k % 12 < n ∧ P (k / 12) (k % 12) = true then [100 * (k / 12) + k % 12] else []
theorem bl_row (P : Nat → Nat → Bool) (n a : Nat) : ∀ b, b ≤ 12 → bl P n (12 * a + b) = bl P n (12 * a) ++ if a < n then brow P a (min b n) else [] := by
  intro b
  induction b with
  | zero =>
    intro _
    rw [Nat.zero_min, Nat.add_zero]
    show _ = _ ++ if a < n then [] else []
    simp
  | succ b ih =>
    intro hb
    have e : bl P n (12 * a + (b + 1)) = bl P n (12 * a + b) ++ if (12 * a + b) / 12 < n ∧ (12 * a + b) % 12 < n ∧ P ((12 * a + b) / 12) ((12 * a + b) % 12) = true then [100 * ((12 * a + b) / 12) + (12 * a + b) % 12] else [] := rfl
    rw [e, ih (by omega), show (12 * a + b) / 12 = a by omega, show (12 * a + b) % 12 = b by omega, List.append_assoc]
    congr 1
    by_cases w : a < n
    · rw [if_pos w, if_pos w]
      by_cases w2 : b < n
      · rw [show min (b + 1) n = b + 1 by omega, show min b n = b by omega]
        show _ = brow P a b ++ if P a b then [100 * a + b] else []
        congr 1
        by_cases w3 : P a b = true
        · rw [if_pos ⟨w, w2, w3⟩, if_pos w3]
        · rw [if_neg (fun q => w3 q.2.2), if_neg w3]
      · rw [show min (b + 1) n = n by omega, show min b n = n by omega, if_neg (fun q => w2 q.2.1), List.append_nil]
    · rw [if_neg w, if_neg w, if_neg (fun q => w q.1)]; rfl
theorem bl_all (P : Nat → Nat → Bool) {n : Nat} (hn : n ≤ 12) : ∀ a, a ≤ 12 → bl P n (12 * a) = blist P n (min a n) := by
  intro a
  induction a with
  | zero => intro _; rw [Nat.zero_min]; rfl
  | succ a ih =>
    intro ha
    rw [show 12 * (a + 1) = 12 * a + 12 by omega, bl_row P n a 12 (Nat.le_refl _), ih (by omega)]
    by_cases w : a < n
    · rw [if_pos w, show min (a + 1) n = a + 1 by omega, show min a n = a by omega, show min 12 n = n by omega]; rfl
    · rw [if_neg w, show min (a + 1) n = n by omega, show min a n = n by omega, List.append_nil]
theorem bl_144 (P : Nat → Nat → Bool) {n : Nat} (hn : n ≤ 12) : bl P n 144 = blist P n n := by
  have := bl_all P hn 12 (Nat.le_refl _)
  rwa [show min 12 n = n by omega] at this
theorem bl_pre (P : Nat → Nat → Bool) (n k : Nat) : ∀ x, ∃ l, bl P n (k + x) = bl P n k ++ l := by
  intro x
  induction x with
  | zero => exact ⟨[], by rw [List.append_nil]; rfl⟩
  | succ x ih =>
    obtain ⟨l, hl⟩ := ih
    exact ⟨_, by show bl P n (k + x) ++ _ = _; rw [hl, List.append_assoc]⟩
theorem bl_len (P : Nat → Nat → Bool) (n : Nat) : ∀ k, (bl P n k).length ≤ k := by
  intro k
  induction k with
  | zero => exact Nat.le_refl _
  | succ k ih =>
    simp only [bl]
    rw [List.length_append]
    split
    · show _ + 1 ≤ _; omega
    · show _ + 0 ≤ _; omega
theorem own_lt {n C own r m : Nat} {T B A J B' : Nat → Nat} (hn : n ≤ 12) (h : rOk n (2 ^ n - 1) (nd n C T B A J) 0 own) (hm : m ≤ n) (hb : (m = n ∧ ∀ k, k ≤ n → ¬ lin n C T B A J k) ∨ (lin n C T B A J (m + 1) ∧ ∀ j, j ≤ m → ¬ lin n C T B A J j)) (h' : rOk n (2 ^ n - 1) (nd n C T B' A J) 0 r) : r < own ↔ linC n T B' A J m C := by
  rw [← rest_linC (by omega) h']
  have r12 : r = 100 ∨ r ≤ n := by
    rcases h' with ⟨q, -⟩ | ⟨q, -⟩
    · exact Or.inl q
    · exact Or.inr (by omega)
  rcases h with ⟨h1, h2⟩ | ⟨h1, h2, h3⟩
  · rcases hb with ⟨b1, b2⟩ | ⟨b1, b2⟩
    · omega
    · exact absurd (lin_go.mp b1) (h2 _)
  · rw [cn_0] at h1
    rcases hb with ⟨b1, b2⟩ | ⟨b1, b2⟩
    · exact absurd (lin_go.mpr h2) (b2 own h1)
    · have a1 := h3 _ (lin_go.mp b1)
      have a2 : ¬ own ≤ m := fun q => b2 own q (lin_go.mpr h2)
      omega
theorem xor_back {b x : Nat} (h : b.testBit x = true) : sdf b (2 ^ x) ^^^ 2 ^ x = b := by
  apply Nat.eq_of_testBit_eq
  intro i
  rw [Nat.testBit_xor, sdf_bit, Nat.testBit_two_pow]
  by_cases e : x = i
  · subst e; rw [h]; simp
  · simp [e]
section MO
variable {h : hc_H} {m len um sp fs n C : Nat} {X : Nat → Nat → Nat} {Q : Nat → Int32} {T B A J S : Nat → Nat}
theorem c_R_binds_bad (h : hc_H) {i : Int32} (hi : i < -1) : MA M_R_binds [.ref m, .int i] h (some (.int (-1))) h := by
  refine MX.of (lv := [some (.ref m), some (.int i), none, none, none, none, none, none]) 6 rfl (by decide) (Nat.le_of_ble_eq_true rfl) (sn_R_binds_0 _ _ _ ?_)
  simp only [vc_R_binds_0, qi_push, qi_pushl, qi_iload, qi_lload, qi_aload, qi_istore, qi_astore, qi_lstore, qi_iinc, qi_iadd, qi_isub, qi_imul, qi_iand, qi_ior, qi_ixor, qi_ishl, qi_ishr, qi_iushr, qi_idiv, qi_irem, qi_lor, qi_lmul, qi_ladd, qi_lsub, qi_land, qi_lshl, qi_lshr, qi_i2l, qi_l2i, qi_i2c, qi_lcmp, qi_dup, qi_dup2, qi_pop, qi_if_eq, qi_icmp_eq, qi_if_ne, qi_icmp_ne, qi_if_lt, qi_icmp_lt, qi_if_ge, qi_icmp_ge, qi_if_gt, qi_icmp_gt, qi_if_le, qi_icmp_le, qi_sw, qi_get, qi_put, qi_iald, qi_lald, qi_aald, qi_iast, qi_zast, qi_cast, qi_last, qi_aast, qi_alen, qi_new, qi_newa, qi_newq, qi_obj, qi_invS, qi_invV, qi_invI, qi_iret, qi_zret, qi_lret, qi_vret, qi_acopy, qi_max, qi_min, at_o, at_i, at_l, at_q, at_a, lget, lset, lclr, lnon, lnth, spl, shrt, rpush, true_and, and_true, List.set, List.length, Nat.reduceAdd, Nat.reduceLT, Nat.reduceLeDiff, Nat.reduceEqDiff, Nat.reduceSub]
  exact ⟨fun q => absurd hi (Int32.not_lt.mpr q), fun _ => (by first | trivial | exact ⟨rfl, rfl⟩)⟩
theorem c_R_binds (hr : isR h m len um sp fs X Q) (hX : X 2 = rowP n C T B A J S) (hw : pw n T B A J S) (hn1 : 1 ≤ n) (hC : C ≤ 120) (hB : ∀ x, ¬ (B x).testBit x = true) {P : Nat → Nat → Bool} (hP : bndS n C T B A J P) {i : Int32} (hi : ¬ i < -1) : ∃ h' X', MA M_R_binds [.ref m, .int i] h (some (.int (lstI (blist P n n) i))) h' ∧ isR h' m len um sp fs X' Q ∧ (∀ j, ¬ j = 5 → ¬ j = 6 → ¬ j = 7 → X' j = X j) ∧ frm h h' m 12 := by
  have hn := hw.1
  obtain ⟨mm, hm1, hm2, hm3⟩ := hP
  obtain ⟨h1, X1, a1, a2, a3, a4, a5⟩ := c_R_findRest hr hX hw hn1 (c := C) (by omega)
  obtain ⟨own, eown⟩ : ∃ z, X1 7 0 = z := ⟨_, rfl⟩
  have hown := a4.2 0 (Nat.zero_le _)
  rw [eown] at hown a1
  have own12 := rOk_le hn hown
  have v1 : vp_in (nI 1) 62 := vp_in_nI (by omega) (by omega)
  rw [← bl_144 P hn]
  have lqA := lp_up (P := fun k => ∀ h2 X2, isR h2 m len um sp fs X2 Q → (∀ j, ¬ j = 5 → ¬ j = 6 → ¬ j = 7 → X2 j = X j) → frm h h2 m 12 → (i < 0 ∨ ∃ j, i = nI j ∧ j < 2 ^ 31 ∧ (bl P n k).length ≤ j) → ∃ h' X', (∀ o5 o6 o7, cx hc_tt M_R_binds h h' (some (.int (lstI (bl P n 144) i))) 23 [some (.ref m), some (.int i), some (.int (nI own)), some (.int (nI (bl P n k).length)), some (.int (nI k)), o5, o6, o7] [] h2) ∧ isR h' m len um sp fs X' Q ∧ (∀ j, ¬ j = 5 → ¬ j = 6 → ¬ j = 7 → X' j = X j) ∧ frm h h' m 12) (n := 144)
    (by
      intro h2 X2 r2 q2 f2 hij
      refine ⟨h2, X2, fun o5 o6 o7 => sn_R_binds_23 _ _ _ ?_, r2, q2, f2⟩
      simp only [vc_R_binds_23, vc_R_binds_167, vc_R_binds_175, vc_R_binds_177, qi_push, qi_pushl, qi_iload, qi_lload, qi_aload, qi_istore, qi_astore, qi_lstore, qi_iinc, qi_iadd, qi_isub, qi_imul, qi_iand, qi_ior, qi_ixor, qi_ishl, qi_ishr, qi_iushr, qi_idiv, qi_irem, qi_lor, qi_lmul, qi_ladd, qi_lsub, qi_land, qi_lshl, qi_lshr, qi_i2l, qi_l2i, qi_i2c, qi_lcmp, qi_dup, qi_dup2, qi_pop, qi_if_eq, qi_icmp_eq, qi_if_ne, qi_icmp_ne, qi_if_lt, qi_icmp_lt, qi_if_ge, qi_icmp_ge, qi_if_gt, qi_icmp_gt, qi_if_le, qi_icmp_le, qi_sw, qi_get, qi_put, qi_iald, qi_lald, qi_aald, qi_iast, qi_zast, qi_cast, qi_last, qi_aast, qi_alen, qi_new, qi_newa, qi_newq, qi_obj, qi_invS, qi_invV, qi_invI, qi_iret, qi_zret, qi_lret, qi_vret, qi_acopy, qi_max, qi_min, at_o, at_i, at_l, at_q, at_a, lget, lset, lclr, lnon, lnth, spl, shrt, rpush, true_and, and_true, List.set, List.length, Nat.reduceAdd, Nat.reduceLT, Nat.reduceLeDiff, Nat.reduceEqDiff, Nat.reduceSub]
      refine ⟨fun _ => ⟨fun c => ?_, fun c => ?_⟩, fun c => absurd (by decide) c⟩
      · rcases hij with q | ⟨j, j1, j2, j3⟩
        · exact absurd q (Int32.not_lt.mpr c)
        · unfold lstI
          rw [if_neg (Int32.not_lt.mpr c), j1, nI_clamp j2, List.getElem?_eq_none j3]
      · unfold lstI
        rw [if_pos (Int32.not_le.mp c)])
    (fun k hk ih h2 X2 r2 q2 f2 hij => by
      have lk := bl_len P n k
      obtain ⟨a, ea⟩ : ∃ z, k / 12 = z := ⟨_, rfl⟩
      obtain ⟨b, eb⟩ : ∃ z, k % 12 = z := ⟨_, rfl⟩
      have a12 : a < 12 := by omega
      have b12 : b < 12 := by omega
      have x2 : X2 2 = rowP n C T B A J S := by rw [q2 2 (by omega) (by omega) (by omega), hX]
      have x0 : X2 2 0 = n := by rw [x2]; rfl
      have o0 := r2.1
      have o2 := r2.2.2.1
      rw [x2] at o2
      have e : bl P n (k + 1) = bl P n k ++ if a < n ∧ b < n ∧ P a b = true then [100 * a + b] else [] := by rw [← ea, ← eb]; rfl
      have bB := hw.2.2.1 b
      have v14 : vp_in (nI (14 + b)) 62 := vp_in_nI (by omega) (by omega)
      have q14 : (nI (14 + b)).toNatClampNeg = 14 + b := nI_clamp (by omega)
      have id' : nI k / nI 12 = nI a := by rw [pk_div (by omega) (by omega) (by omega), ea]
      have ix : nI k - nI a * nI 12 = nI b := by rw [← id', pk_rem (by omega) (by omega) (by omega), eb]
      by_cases w : a < n ∧ b < n ∧ (B b).testBit a = true
      · obtain ⟨w1, w2, w3⟩ := w
        have hab : ¬ a = b := fun q => by rw [q] at w3; exact hB b w3
        have hw2 : pw n T (va_up B b (sdf (B b) (2 ^ a))) A J S := hw.ord (x := a) (y := b) (by omega) false
        have r3 := r2.setN (f := rowP n C T (va_up B b (sdf (B b) (2 ^ a))) A J S)
        obtain ⟨h4, X4, b1, b2, b3, b4, b5⟩ := c_R_findRest r3 rfl hw2 hn1 (c := C) (by omega)
        have x4 : X4 2 = rowP n C T (va_up B b (sdf (B b) (2 ^ a))) A J S := by rw [b3 2 (by omega) (by omega) (by omega)]; exact up_eq
        have r5 := b2.setN (f := rowP n C T B A J S)
        have q5 : ∀ j, ¬ j = 5 → ¬ j = 6 → ¬ j = 7 → va_up X4 2 (rowP n C T B A J S) j = X j := fun j j5 j6 j7 => by
          by_cases e : j = 2
          · subst e; rw [up_eq, hX]
          · rw [up_ne e, b3 j j5 j6 j7, up_ne e]; exact q2 j j5 j6 j7
        have f5 : frm h (hc_set h4 (m + 2) (.inl (0, 62, .inl (fun j => nI (rowP n C T B A J S j))))) m 12 := (frm.trans (f2.set (by omega)) b5).set (by omega)
        have b4' := b4.2 0 (Nat.zero_le _)
        have r12 := rOk_le hn b4'
        have lt := own_lt hn hown hm1 hm2 b4'
        have xr : B b ^^^ 2 ^ a = sdf (B b) (2 ^ a) := xor_ord (w := false) (by rw [w3]; decide)
        have s0 := b2.1
        have s2 := b2.2.2.1
        rw [x4] at s2
        have hPab : P a b = true ↔ X4 7 0 < own := by
          rw [hm3 a b w1 w2, lt]
          exact ⟨fun q => q.2, fun q => ⟨w3, q⟩⟩
        have pre : ∀ {r : Int32} {h' : hc_H} {o5 o6 o7 : Option Value}, (∀ u : Bool, (u = true ↔ P a b = true) → vc_R_binds_110 (some (.int r)) h' (cx hc_tt M_R_binds h h' (some (.int r))) [some (.ref m), some (.int i), some (.int (nI own)), some (.int (nI (bl P n k).length)), some (.int (nI k)), some (.int (nI a)), some (.int (nI b)), o7] [.int (nI u.toNat)] h4) → cx hc_tt M_R_binds h h' (some (.int r)) 23 [some (.ref m), some (.int i), some (.int (nI own)), some (.int (nI (bl P n k).length)), some (.int (nI k)), o5, o6, o7] [] h2 := by
          intro r h' o5 o6 o7 kk
          refine sn_R_binds_23 _ _ _ ?_
          simp only [vc_R_binds_23, qi_push, qi_pushl, qi_iload, qi_lload, qi_aload, qi_istore, qi_astore, qi_lstore, qi_iinc, qi_iadd, qi_isub, qi_imul, qi_iand, qi_ior, qi_ixor, qi_ishl, qi_ishr, qi_iushr, qi_idiv, qi_irem, qi_lor, qi_lmul, qi_ladd, qi_lsub, qi_land, qi_lshl, qi_lshr, qi_i2l, qi_l2i, qi_i2c, qi_lcmp, qi_dup, qi_dup2, qi_pop, qi_if_eq, qi_icmp_eq, qi_if_ne, qi_icmp_ne, qi_if_lt, qi_icmp_lt, qi_if_ge, qi_icmp_ge, qi_if_gt, qi_icmp_gt, qi_if_le, qi_icmp_le, qi_sw, qi_get, qi_put, qi_iald, qi_lald, qi_aald, qi_iast, qi_zast, qi_cast, qi_last, qi_aast, qi_alen, qi_new, qi_newa, qi_newq, qi_obj, qi_invS, qi_invV, qi_invI, qi_iret, qi_zret, qi_lret, qi_vret, qi_acopy, qi_max, qi_min, at_o, at_i, at_l, at_q, at_a, lget, lset, lclr, lnon, lnth, spl, shrt, rpush, true_and, and_true, List.set, List.length, Nat.reduceAdd, Nat.reduceLT, Nat.reduceLeDiff, Nat.reduceEqDiff, Nat.reduceSub, o0, id', ix]
          refine ⟨fun c => absurd c (nI_ge hk (by omega)), fun _ => ⟨by decide, by decide, _, _, c_R_isPair r2 x0 ⟨hn1, hn⟩ (nI a) (nI b), ?_⟩⟩
          rw [dT (pair_i hn w1 w2 hab)]
          simp only [qi_push, qi_pushl, qi_iload, qi_lload, qi_aload, qi_istore, qi_astore, qi_lstore, qi_iinc, qi_iadd, qi_isub, qi_imul, qi_iand, qi_ior, qi_ixor, qi_ishl, qi_ishr, qi_iushr, qi_idiv, qi_irem, qi_lor, qi_lmul, qi_ladd, qi_lsub, qi_land, qi_lshl, qi_lshr, qi_i2l, qi_l2i, qi_i2c, qi_lcmp, qi_dup, qi_dup2, qi_pop, qi_if_eq, qi_icmp_eq, qi_if_ne, qi_icmp_ne, qi_if_lt, qi_icmp_lt, qi_if_ge, qi_icmp_ge, qi_if_gt, qi_icmp_gt, qi_if_le, qi_icmp_le, qi_sw, qi_get, qi_put, qi_iald, qi_lald, qi_aald, qi_iast, qi_zast, qi_cast, qi_last, qi_aast, qi_alen, qi_new, qi_newa, qi_newq, qi_obj, qi_invS, qi_invV, qi_invI, qi_iret, qi_zret, qi_lret, qi_vret, qi_acopy, qi_max, qi_min, at_o, at_i, at_l, at_q, at_a, lget, lset, lclr, lnon, lnth, spl, shrt, rpush, true_and, and_true, List.set, List.length, Nat.reduceAdd, Nat.reduceLT, Nat.reduceLeDiff, Nat.reduceEqDiff, Nat.reduceSub, o0, o2, nI_add, v14, q14, rp_B b12]
          refine ⟨fun c => absurd c c10, fun _ => ⟨_, _, c_R_has h2 (show B b < 2 ^ 31 by omega) (show a < 31 by omega), ?_⟩⟩
          rw [w3]
          simp only [qi_push, qi_pushl, qi_iload, qi_lload, qi_aload, qi_istore, qi_astore, qi_lstore, qi_iinc, qi_iadd, qi_isub, qi_imul, qi_iand, qi_ior, qi_ixor, qi_ishl, qi_ishr, qi_iushr, qi_idiv, qi_irem, qi_lor, qi_lmul, qi_ladd, qi_lsub, qi_land, qi_lshl, qi_lshr, qi_i2l, qi_l2i, qi_i2c, qi_lcmp, qi_dup, qi_dup2, qi_pop, qi_if_eq, qi_icmp_eq, qi_if_ne, qi_icmp_ne, qi_if_lt, qi_icmp_lt, qi_if_ge, qi_icmp_ge, qi_if_gt, qi_icmp_gt, qi_if_le, qi_icmp_le, qi_sw, qi_get, qi_put, qi_iald, qi_lald, qi_aald, qi_iast, qi_zast, qi_cast, qi_last, qi_aast, qi_alen, qi_new, qi_newa, qi_newq, qi_obj, qi_invS, qi_invV, qi_invI, qi_iret, qi_zret, qi_lret, qi_vret, qi_acopy, qi_max, qi_min, at_o, at_i, at_l, at_q, at_a, lget, lset, lclr, lnon, lnth, spl, shrt, rpush, true_and, and_true, List.set, List.length, Nat.reduceAdd, Nat.reduceLT, Nat.reduceLeDiff, Nat.reduceEqDiff, Nat.reduceSub, o0, o2, nI_add, v14, q14, rp_B b12]
          rw [ni_1shl (by omega), ni_xor, upd_nI, rp_upB b12, xr]
          have p0 := r3.1
          have p2 : (hc_set h2 (m + 2) (.inl (0, 62, .inl (fun j => nI (rowP n C T (va_up B b (sdf (B b) (2 ^ a))) A J S j))))).1 (m + 2) = ii 62 (rowP n C T (va_up B b (sdf (B b) (2 ^ a))) A J S) := r3.2.2.1
          simp only [qi_push, qi_pushl, qi_iload, qi_lload, qi_aload, qi_istore, qi_astore, qi_lstore, qi_iinc, qi_iadd, qi_isub, qi_imul, qi_iand, qi_ior, qi_ixor, qi_ishl, qi_ishr, qi_iushr, qi_idiv, qi_irem, qi_lor, qi_lmul, qi_ladd, qi_lsub, qi_land, qi_lshl, qi_lshr, qi_i2l, qi_l2i, qi_i2c, qi_lcmp, qi_dup, qi_dup2, qi_pop, qi_if_eq, qi_icmp_eq, qi_if_ne, qi_icmp_ne, qi_if_lt, qi_icmp_lt, qi_if_ge, qi_icmp_ge, qi_if_gt, qi_icmp_gt, qi_if_le, qi_icmp_le, qi_sw, qi_get, qi_put, qi_iald, qi_lald, qi_aald, qi_iast, qi_zast, qi_cast, qi_last, qi_aast, qi_alen, qi_new, qi_newa, qi_newq, qi_obj, qi_invS, qi_invV, qi_invI, qi_iret, qi_zret, qi_lret, qi_vret, qi_acopy, qi_max, qi_min, at_o, at_i, at_l, at_q, at_a, lget, lset, lclr, lnon, lnth, spl, shrt, rpush, true_and, and_true, List.set, List.length, Nat.reduceAdd, Nat.reduceLT, Nat.reduceLeDiff, Nat.reduceEqDiff, Nat.reduceSub, p0, p2, v1, r1, rp_1]
          refine ⟨fun c => absurd c c10, fun _ => ⟨_, _, b1, ?_⟩⟩
          simp only [vc_R_binds_109, qi_push, qi_pushl, qi_iload, qi_lload, qi_aload, qi_istore, qi_astore, qi_lstore, qi_iinc, qi_iadd, qi_isub, qi_imul, qi_iand, qi_ior, qi_ixor, qi_ishl, qi_ishr, qi_iushr, qi_idiv, qi_irem, qi_lor, qi_lmul, qi_ladd, qi_lsub, qi_land, qi_lshl, qi_lshr, qi_i2l, qi_l2i, qi_i2c, qi_lcmp, qi_dup, qi_dup2, qi_pop, qi_if_eq, qi_icmp_eq, qi_if_ne, qi_icmp_ne, qi_if_lt, qi_icmp_lt, qi_if_ge, qi_icmp_ge, qi_if_gt, qi_icmp_gt, qi_if_le, qi_icmp_le, qi_sw, qi_get, qi_put, qi_iald, qi_lald, qi_aald, qi_iast, qi_zast, qi_cast, qi_last, qi_aast, qi_alen, qi_new, qi_newa, qi_newq, qi_obj, qi_invS, qi_invV, qi_invI, qi_iret, qi_zret, qi_lret, qi_vret, qi_acopy, qi_max, qi_min, at_o, at_i, at_l, at_q, at_a, lget, lset, lclr, lnon, lnth, spl, shrt, rpush, true_and, and_true, List.set, List.length, Nat.reduceAdd, Nat.reduceLT, Nat.reduceLeDiff, Nat.reduceEqDiff, Nat.reduceSub]
          rw [nI_leI (by omega) (by omega)]
          refine ⟨fun c => kk false ⟨fun q => (by cases q), fun q => absurd (hPab.mp q) (by omega)⟩, fun c => kk true ⟨fun _ => hPab.mpr (by omega), fun _ => rfl⟩⟩
        have back : ∀ {r : Int32} {h' : hc_H} {o7 : Option Value} (u : Bool), ((u = true → nI (bl P n k).length = i → r = nI (100 * a + b) ∧ h' = hc_set h4 (m + 2) (.inl (0, 62, .inl (fun j => nI (rowP n C T B A J S j))))) ∧ (¬ (u = true ∧ nI (bl P n k).length = i) → ∀ o5 o6 o7, cx hc_tt M_R_binds h h' (some (.int r)) 23 [some (.ref m), some (.int i), some (.int (nI own)), some (.int (nI ((bl P n k).length + u.toNat))), some (.int (nI (k + 1))), o5, o6, o7] [] (hc_set h4 (m + 2) (.inl (0, 62, .inl (fun j => nI (rowP n C T B A J S j))))))) → vc_R_binds_110 (some (.int r)) h' (cx hc_tt M_R_binds h h' (some (.int r))) [some (.ref m), some (.int i), some (.int (nI own)), some (.int (nI (bl P n k).length)), some (.int (nI k)), some (.int (nI a)), some (.int (nI b)), o7] [.int (nI u.toNat)] h4 := by
          intro r h' o7 u kk
          simp only [vc_R_binds_110, vc_R_binds_148, vc_R_binds_158, vc_R_binds_159, vc_R_binds_161, qi_push, qi_pushl, qi_iload, qi_lload, qi_aload, qi_istore, qi_astore, qi_lstore, qi_iinc, qi_iadd, qi_isub, qi_imul, qi_iand, qi_ior, qi_ixor, qi_ishl, qi_ishr, qi_iushr, qi_idiv, qi_irem, qi_lor, qi_lmul, qi_ladd, qi_lsub, qi_land, qi_lshl, qi_lshr, qi_i2l, qi_l2i, qi_i2c, qi_lcmp, qi_dup, qi_dup2, qi_pop, qi_if_eq, qi_icmp_eq, qi_if_ne, qi_icmp_ne, qi_if_lt, qi_icmp_lt, qi_if_ge, qi_icmp_ge, qi_if_gt, qi_icmp_gt, qi_if_le, qi_icmp_le, qi_sw, qi_get, qi_put, qi_iald, qi_lald, qi_aald, qi_iast, qi_zast, qi_cast, qi_last, qi_aast, qi_alen, qi_new, qi_newa, qi_newq, qi_obj, qi_invS, qi_invV, qi_invI, qi_iret, qi_zret, qi_lret, qi_vret, qi_acopy, qi_max, qi_min, at_o, at_i, at_l, at_q, at_a, lget, lset, lclr, lnon, lnth, spl, shrt, rpush, true_and, and_true, List.set, List.length, Nat.reduceAdd, Nat.reduceLT, Nat.reduceLeDiff, Nat.reduceEqDiff, Nat.reduceSub, s0, s2, nI_add, v14, q14, rp_B b12, up_eq]
          rw [ni_1shl (by omega), ni_xor, xor_back w3, upd_nI, rp_upB b12, show va_up (va_up B b (sdf (B b) (2 ^ a))) b (B b) = B from up_back]
          cases u
          · have k2 := kk.2 (fun q => by cases q.1)
            exact ⟨fun _ => ⟨fun _ => k2 _ _ _, fun q => absurd rfl q⟩, fun q => absurd rfl q⟩
          · refine ⟨fun q => absurd q c10, fun _ => ⟨fun q => ⟨fun z => absurd z c10, fun _ => kk.2 (fun z => q z.2) _ _ _⟩, fun q => ?_⟩⟩
            obtain ⟨k1, k2⟩ := kk.1 rfl q
            rw [pk_mul, nI_add, k1, k2]
            exact ⟨rfl, rfl⟩
        by_cases wp : P a b = true
        · rw [if_pos ⟨w1, w2, wp⟩] at e
          by_cases wi : nI (bl P n k).length = i
          · refine ⟨_, _, fun o5 o6 o7 => pre (fun u hu => back u ⟨fun _ _ => ⟨?_, rfl⟩, fun q => absurd ⟨hu.mpr wp, wi⟩ q⟩), r5, q5, f5⟩
            obtain ⟨l, hl⟩ := bl_pre P n (k + 1) (144 - (k + 1))
            rw [show k + 1 + (144 - (k + 1)) = 144 by omega, e] at hl
            unfold lstI
            rw [← wi, if_neg (nI_pos (by omega)), nI_clamp (by omega), hl, List.append_assoc, List.getElem?_append_right (Nat.le_refl _), Nat.sub_self]
            rfl
          · obtain ⟨h', X', z1, z2⟩ := ih _ _ r5 q5 f5 (by
              rcases hij with q | ⟨j, j1, j2, j3⟩
              · exact Or.inl q
              · refine Or.inr ⟨j, j1, j2, ?_⟩
                rw [e, List.length_append]
                show (bl P n k).length + 1 ≤ j
                have : ¬ (bl P n k).length = j := fun q => wi (by rw [j1, q])
                omega)
            have el : (bl P n (k + 1)).length = (bl P n k).length + 1 := by rw [e, List.length_append]; rfl
            refine ⟨h', X', fun o5 o6 o7 => pre (fun u hu => back u ⟨fun _ q => absurd q wi, fun _ => ?_⟩), z2⟩
            rw [hu.mpr wp]
            show ∀ o5 o6 o7, cx hc_tt M_R_binds h h' _ 23 [_, _, _, some (.int (nI ((bl P n k).length + 1))), _, o5, o6, o7] [] _
            rw [← el]; exact z1
        · rw [if_neg (fun q => wp q.2.2), List.append_nil] at e
          obtain ⟨h', X', z1, z2⟩ := ih _ _ r5 q5 f5 (by rw [e]; exact hij)
          rw [e] at z1
          refine ⟨h', X', fun o5 o6 o7 => pre (fun u hu => back u ⟨fun q => absurd (hu.mp q) wp, fun _ => ?_⟩), z2⟩
          have : u = false := by cases z : u; rfl; exact absurd (hu.mp z) wp
          rw [this]; exact z1
      · have e : bl P n (k + 1) = bl P n k := by
          rw [e, if_neg, List.append_nil]
          rintro ⟨q1, q2, q3⟩
          exact w ⟨q1, q2, ((hm3 a b q1 q2).mp q3).1⟩
        rw [e] at ih
        obtain ⟨h', X', z1, z2⟩ := ih h2 X2 r2 q2 f2 hij
        refine ⟨h', X', fun o5 o6 o7 => sn_R_binds_23 _ _ _ ?_, z2⟩
        simp only [vc_R_binds_23, qi_push, qi_pushl, qi_iload, qi_lload, qi_aload, qi_istore, qi_astore, qi_lstore, qi_iinc, qi_iadd, qi_isub, qi_imul, qi_iand, qi_ior, qi_ixor, qi_ishl, qi_ishr, qi_iushr, qi_idiv, qi_irem, qi_lor, qi_lmul, qi_ladd, qi_lsub, qi_land, qi_lshl, qi_lshr, qi_i2l, qi_l2i, qi_i2c, qi_lcmp, qi_dup, qi_dup2, qi_pop, qi_if_eq, qi_icmp_eq, qi_if_ne, qi_icmp_ne, qi_if_lt, qi_icmp_lt, qi_if_ge, qi_icmp_ge, qi_if_gt, qi_icmp_gt, qi_if_le, qi_icmp_le, qi_sw, qi_get, qi_put, qi_iald, qi_lald, qi_aald, qi_iast, qi_zast, qi_cast, qi_last, qi_aast, qi_alen, qi_new, qi_newa, qi_newq, qi_obj, qi_invS, qi_invV, qi_invI, qi_iret, qi_zret, qi_lret, qi_vret, qi_acopy, qi_max, qi_min, at_o, at_i, at_l, at_q, at_a, lget, lset, lclr, lnon, lnth, spl, shrt, rpush, true_and, and_true, List.set, List.length, Nat.reduceAdd, Nat.reduceLT, Nat.reduceLeDiff, Nat.reduceEqDiff, Nat.reduceSub, o0, id', ix]
        refine ⟨fun c => absurd c (nI_ge hk (by omega)), fun _ => ⟨by decide, by decide, _, _, c_R_isPair r2 x0 ⟨hn1, hn⟩ (nI a) (nI b), ?_⟩⟩
        by_cases w4 : (0 ≤ nI a ∧ nI a < nI n) ∧ (0 ≤ nI b ∧ nI b < nI n) ∧ ¬ nI a = nI b
        · rw [dT w4]
          simp only [vc_R_binds_161, qi_push, qi_pushl, qi_iload, qi_lload, qi_aload, qi_istore, qi_astore, qi_lstore, qi_iinc, qi_iadd, qi_isub, qi_imul, qi_iand, qi_ior, qi_ixor, qi_ishl, qi_ishr, qi_iushr, qi_idiv, qi_irem, qi_lor, qi_lmul, qi_ladd, qi_lsub, qi_land, qi_lshl, qi_lshr, qi_i2l, qi_l2i, qi_i2c, qi_lcmp, qi_dup, qi_dup2, qi_pop, qi_if_eq, qi_icmp_eq, qi_if_ne, qi_icmp_ne, qi_if_lt, qi_icmp_lt, qi_if_ge, qi_icmp_ge, qi_if_gt, qi_icmp_gt, qi_if_le, qi_icmp_le, qi_sw, qi_get, qi_put, qi_iald, qi_lald, qi_aald, qi_iast, qi_zast, qi_cast, qi_last, qi_aast, qi_alen, qi_new, qi_newa, qi_newq, qi_obj, qi_invS, qi_invV, qi_invI, qi_iret, qi_zret, qi_lret, qi_vret, qi_acopy, qi_max, qi_min, at_o, at_i, at_l, at_q, at_a, lget, lset, lclr, lnon, lnth, spl, shrt, rpush, true_and, and_true, List.set, List.length, Nat.reduceAdd, Nat.reduceLT, Nat.reduceLeDiff, Nat.reduceEqDiff, Nat.reduceSub, o0, o2, nI_add, v14, q14, rp_B b12]
          refine ⟨fun c => absurd c c10, fun _ => ⟨_, _, c_R_has h2 (show B b < 2 ^ 31 by omega) (show a < 31 by omega), ?_⟩⟩
          have e0 : (B b).testBit a = false := by
            cases z : (B b).testBit a
            · rfl
            · exact absurd ⟨(nI_ltI (by omega) (by omega)).mp w4.1.2, (nI_ltI (by omega) (by omega)).mp w4.2.1.2, z⟩ w
          rw [e0]
          simp only [vc_R_binds_161, qi_push, qi_pushl, qi_iload, qi_lload, qi_aload, qi_istore, qi_astore, qi_lstore, qi_iinc, qi_iadd, qi_isub, qi_imul, qi_iand, qi_ior, qi_ixor, qi_ishl, qi_ishr, qi_iushr, qi_idiv, qi_irem, qi_lor, qi_lmul, qi_ladd, qi_lsub, qi_land, qi_lshl, qi_lshr, qi_i2l, qi_l2i, qi_i2c, qi_lcmp, qi_dup, qi_dup2, qi_pop, qi_if_eq, qi_icmp_eq, qi_if_ne, qi_icmp_ne, qi_if_lt, qi_icmp_lt, qi_if_ge, qi_icmp_ge, qi_if_gt, qi_icmp_gt, qi_if_le, qi_icmp_le, qi_sw, qi_get, qi_put, qi_iald, qi_lald, qi_aald, qi_iast, qi_zast, qi_cast, qi_last, qi_aast, qi_alen, qi_new, qi_newa, qi_newq, qi_obj, qi_invS, qi_invV, qi_invI, qi_iret, qi_zret, qi_lret, qi_vret, qi_acopy, qi_max, qi_min, at_o, at_i, at_l, at_q, at_a, lget, lset, lclr, lnon, lnth, spl, shrt, rpush, true_and, and_true, List.set, List.length, Nat.reduceAdd, Nat.reduceLT, Nat.reduceLeDiff, Nat.reduceEqDiff, Nat.reduceSub, nI_add]
          exact ⟨fun _ => z1 _ _ _, fun q => absurd rfl q⟩
        · rw [dF w4]
          simp only [vc_R_binds_161, qi_push, qi_pushl, qi_iload, qi_lload, qi_aload, qi_istore, qi_astore, qi_lstore, qi_iinc, qi_iadd, qi_isub, qi_imul, qi_iand, qi_ior, qi_ixor, qi_ishl, qi_ishr, qi_iushr, qi_idiv, qi_irem, qi_lor, qi_lmul, qi_ladd, qi_lsub, qi_land, qi_lshl, qi_lshr, qi_i2l, qi_l2i, qi_i2c, qi_lcmp, qi_dup, qi_dup2, qi_pop, qi_if_eq, qi_icmp_eq, qi_if_ne, qi_icmp_ne, qi_if_lt, qi_icmp_lt, qi_if_ge, qi_icmp_ge, qi_if_gt, qi_icmp_gt, qi_if_le, qi_icmp_le, qi_sw, qi_get, qi_put, qi_iald, qi_lald, qi_aald, qi_iast, qi_zast, qi_cast, qi_last, qi_aast, qi_alen, qi_new, qi_newa, qi_newq, qi_obj, qi_invS, qi_invV, qi_invI, qi_iret, qi_zret, qi_lret, qi_vret, qi_acopy, qi_max, qi_min, at_o, at_i, at_l, at_q, at_a, lget, lset, lclr, lnon, lnth, spl, shrt, rpush, true_and, and_true, List.set, List.length, Nat.reduceAdd, Nat.reduceLT, Nat.reduceLeDiff, Nat.reduceEqDiff, Nat.reduceSub, nI_add]
          exact ⟨fun _ => z1 _ _ _, fun q => absurd rfl q⟩)
  obtain ⟨h', X', z1, z2⟩ := lqA 0 (by omega) h1 X1 a2 a3 a5 (by
    by_cases w : i < 0
    · exact Or.inl w
    · obtain ⟨j, j1, j2⟩ := nI_of w
      exact Or.inr ⟨j, j2, j1, Nat.zero_le _⟩)
  refine ⟨h', X', MX.of (lv := [some (.ref m), some (.int i), none, none, none, none, none, none]) 6 rfl (by decide) (Nat.le_of_ble_eq_true rfl) (sn_R_binds_0 _ _ _ ?_), z2⟩
  have o0 := hr.1
  have o2 := hr.2.2.1
  rw [hX] at o2
  simp only [vc_R_binds_0, vc_R_binds_7, qi_push, qi_pushl, qi_iload, qi_lload, qi_aload, qi_istore, qi_astore, qi_lstore, qi_iinc, qi_iadd, qi_isub, qi_imul, qi_iand, qi_ior, qi_ixor, qi_ishl, qi_ishr, qi_iushr, qi_idiv, qi_irem, qi_lor, qi_lmul, qi_ladd, qi_lsub, qi_land, qi_lshl, qi_lshr, qi_i2l, qi_l2i, qi_i2c, qi_lcmp, qi_dup, qi_dup2, qi_pop, qi_if_eq, qi_icmp_eq, qi_if_ne, qi_icmp_ne, qi_if_lt, qi_icmp_lt, qi_if_ge, qi_icmp_ge, qi_if_gt, qi_icmp_gt, qi_if_le, qi_icmp_le, qi_sw, qi_get, qi_put, qi_iald, qi_lald, qi_aald, qi_iast, qi_zast, qi_cast, qi_last, qi_aast, qi_alen, qi_new, qi_newa, qi_newq, qi_obj, qi_invS, qi_invV, qi_invI, qi_iret, qi_zret, qi_lret, qi_vret, qi_acopy, qi_max, qi_min, at_o, at_i, at_l, at_q, at_a, lget, lset, lclr, lnon, lnth, spl, shrt, rpush, true_and, and_true, List.set, List.length, Nat.reduceAdd, Nat.reduceLT, Nat.reduceLeDiff, Nat.reduceEqDiff, Nat.reduceSub, o0, o2, v1, r1, rp_1]
  refine ⟨fun _ => ⟨_, _, a1, ?_⟩, fun q => absurd (Int32.not_lt.mp hi) q⟩
  simp only [qi_push, qi_pushl, qi_iload, qi_lload, qi_aload, qi_istore, qi_astore, qi_lstore, qi_iinc, qi_iadd, qi_isub, qi_imul, qi_iand, qi_ior, qi_ixor, qi_ishl, qi_ishr, qi_iushr, qi_idiv, qi_irem, qi_lor, qi_lmul, qi_ladd, qi_lsub, qi_land, qi_lshl, qi_lshr, qi_i2l, qi_l2i, qi_i2c, qi_lcmp, qi_dup, qi_dup2, qi_pop, qi_if_eq, qi_icmp_eq, qi_if_ne, qi_icmp_ne, qi_if_lt, qi_icmp_lt, qi_if_ge, qi_icmp_ge, qi_if_gt, qi_icmp_gt, qi_if_le, qi_icmp_le, qi_sw, qi_get, qi_put, qi_iald, qi_lald, qi_aald, qi_iast, qi_zast, qi_cast, qi_last, qi_aast, qi_alen, qi_new, qi_newa, qi_newq, qi_obj, qi_invS, qi_invV, qi_invI, qi_iret, qi_zret, qi_lret, qi_vret, qi_acopy, qi_max, qi_min, at_o, at_i, at_l, at_q, at_a, lget, lset, lclr, lnon, lnth, spl, shrt, rpush, true_and, and_true, List.set, List.length, Nat.reduceAdd, Nat.reduceLT, Nat.reduceLeDiff, Nat.reduceEqDiff, Nat.reduceSub]
  exact z1 _ _ _
end MO
