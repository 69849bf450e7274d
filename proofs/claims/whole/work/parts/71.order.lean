/-! THE MODEL: orders, zones, by hand. -/
theorem rp_setA {n C a b : Nat} {w : Bool} {T B A J S : Nat → Nat} (ha : a < 12) (hb : b < 12) (hab : ¬ a = b) (j : Nat) : upd (upd (fun j => nI (rowP n C T B A J S j)) (26 + a) (nI (if w then A a ||| 2 ^ b else sdf (A a) (2 ^ b)))) (26 + b) (nI (if w then A b ||| 2 ^ a else sdf (A b) (2 ^ a))) j = nI (rowP n C T B (prs A a b w) J S j) := by
  unfold upd
  have pa : prs A a b w a = if w then A a ||| 2 ^ b else sdf (A a) (2 ^ b) := by
    unfold prs va_up; simp only [if_neg hab, if_true]
  have pb : prs A a b w b = if w then A b ||| 2 ^ a else sdf (A b) (2 ^ a) := by
    unfold prs va_up; simp only [if_neg (fun q => hab q.symm : ¬ b = a), if_true]
  have po : ∀ x, ¬ x = a → ¬ x = b → prs A a b w x = A x := fun x h1 h2 => by
    unfold prs va_up; simp only [if_neg h1, if_neg h2]
  by_cases e1 : j = 26 + b
  · rw [if_pos e1, e1, rp_A hb, pb]
  · rw [if_neg e1]
    by_cases e2 : j = 26 + a
    · rw [if_pos e2, e2, rp_A ha, pa]
    · rw [if_neg e2]
      apply congrArg nI
      unfold rowP
      by_cases e3 : j < 26
      · simp only [e3, if_true]
      · by_cases e4 : j < 38
        · rw [po (j - 26) (by omega) (by omega)]
        · simp only [e4, if_false]
theorem rp_setJ {n C a b : Nat} {w : Bool} {T B A J S : Nat → Nat} (ha : a < 12) (hb : b < 12) (hab : ¬ a = b) (j : Nat) : upd (upd (fun j => nI (rowP n C T B A J S j)) (38 + a) (nI (if w then J a ||| 2 ^ b else sdf (J a) (2 ^ b)))) (38 + b) (nI (if w then J b ||| 2 ^ a else sdf (J b) (2 ^ a))) j = nI (rowP n C T B A (prs J a b w) S j) := by
  unfold upd
  have pa : prs J a b w a = if w then J a ||| 2 ^ b else sdf (J a) (2 ^ b) := by
    unfold prs va_up; simp only [if_neg hab, if_true]
  have pb : prs J a b w b = if w then J b ||| 2 ^ a else sdf (J b) (2 ^ a) := by
    unfold prs va_up; simp only [if_neg (fun q => hab q.symm : ¬ b = a), if_true]
  have po : ∀ x, ¬ x = a → ¬ x = b → prs J a b w x = J x := fun x h1 h2 => by
    unfold prs va_up; simp only [if_neg h1, if_neg h2]
  by_cases e1 : j = 38 + b
  · rw [if_pos e1, e1, rp_J hb, pb]
  · rw [if_neg e1]
    by_cases e2 : j = 38 + a
    · rw [if_pos e2, e2, rp_J ha, pa]
    · rw [if_neg e2]
      apply congrArg nI
      unfold rowP
      by_cases e3 : j < 38
      · simp only [e3, if_true]
      · by_cases e4 : j < 50
        · rw [po (j - 38) (by omega) (by omega)]
        · simp only [e4, if_false]
theorem c_R_pairs {h : hc_H} {q t a b u v : Nat} {f : Nat → Int32} (hq : h.1 q = some (.inl (0, 62, .inl f))) (ha : a < 12) (hb : b < 12) (hab : ¬ a = b) (ht : t ≤ 50) (hu : f (t + a) = nI u) (hv : f (t + b) = nI v) (w : Bool) : MA M_R_pairs [.ref q, .int (nI t), .int (nI a), .int (nI b), .int (nI w.toNat)] h none (hc_set h q (.inl (0, 62, .inl (upd (upd f (t + a) (nI (if w then u ||| 2 ^ b else sdf u (2 ^ b)))) (t + b) (nI (if w then v ||| 2 ^ a else sdf v (2 ^ a))))))) := by
  refine MX.of (lv := [some (.ref q), some (.int (nI t)), some (.int (nI a)), some (.int (nI b)), some (.int (nI w.toNat))]) 0 rfl (by decide) (Nat.le_of_ble_eq_true rfl) (sn_R_pairs_0 _ _ _ ?_)
  have v1 : vp_in (nI (t + a)) 62 := vp_in_nI (by omega) (by omega)
  have v2 : vp_in (nI (t + b)) 62 := vp_in_nI (by omega) (by omega)
  have q1 : (nI (t + a)).toNatClampNeg = t + a := nI_clamp (by omega)
  have q2 : (nI (t + b)).toNatClampNeg = t + b := nI_clamp (by omega)
  have s1 : nI 1 <<< (nI a &&& 31) = nI (2 ^ a) := ni_1shl (by omega)
  have s2 : nI 1 <<< (nI b &&& 31) = nI (2 ^ b) := ni_1shl (by omega)
  have o : ∀ x, upd f (t + a) x (t + b) = nI v := fun x => by
    show (if t + b = t + a then x else f (t + b)) = _
    rw [if_neg (by omega), hv]
  simp only [vc_R_pairs_0, vc_R_pairs_21, vc_R_pairs_32, vc_R_pairs_54, vc_R_pairs_65, qi_push, qi_pushl, qi_iload, qi_lload, qi_aload, qi_istore, qi_astore, qi_lstore, qi_iinc, qi_iadd, qi_isub, qi_imul, qi_iand, qi_ior, qi_ixor, qi_ishl, qi_ishr, qi_iushr, qi_idiv, qi_irem, qi_lor, qi_lmul, qi_ladd, qi_lsub, qi_land, qi_lshl, qi_lshr, qi_i2l, qi_l2i, qi_i2c, qi_lcmp, qi_dup, qi_dup2, qi_pop, qi_if_eq, qi_icmp_eq, qi_if_ne, qi_icmp_ne, qi_if_lt, qi_icmp_lt, qi_if_ge, qi_icmp_ge, qi_if_gt, qi_icmp_gt, qi_if_le, qi_icmp_le, qi_sw, qi_get, qi_put, qi_iald, qi_lald, qi_aald, qi_iast, qi_zast, qi_cast, qi_last, qi_aast, qi_alen, qi_new, qi_newa, qi_newq, qi_obj, qi_invS, qi_invV, qi_invI, qi_iret, qi_zret, qi_lret, qi_vret, qi_acopy, qi_max, qi_min, at_o, at_i, at_l, at_q, at_a, lget, lset, lclr, lnon, lnth, spl, shrt, rpush, true_and, and_true, List.set, List.length, Nat.reduceAdd, Nat.reduceLT, Nat.reduceLeDiff, Nat.reduceEqDiff, Nat.reduceSub, hq, hs_eq, nI_add, v1, v2, q1, q2, s1, s2, hu, o, ni_not, ni_or, hs_hs, nb_eq0, nb_ne0]
  cases w
  · exact ⟨fun _ => ⟨fun _ => (by first | trivial | exact ⟨rfl, rfl⟩), fun c => absurd c (by decide)⟩, fun c => absurd c (by decide)⟩
  · exact ⟨fun c => absurd c (by decide), fun _ => ⟨fun c => absurd c (by decide), fun _ => (by first | trivial | exact ⟨rfl, rfl⟩)⟩⟩
theorem xor_ord {b x : Nat} {w : Bool} (h : ¬ b.testBit x = w) : b ^^^ 2 ^ x = if w then b ||| 2 ^ x else sdf b (2 ^ x) := by
  apply Nat.eq_of_testBit_eq
  intro i
  rw [Nat.testBit_xor, Nat.testBit_two_pow]
  cases w
  · have hb : b.testBit x = true := by cases q : b.testBit x; exact absurd q h; rfl
    show _ = (sdf b (2 ^ x)).testBit i
    rw [sdf_bit, Nat.testBit_two_pow]
    by_cases e : x = i
    · subst e; rw [hb]; simp
    · simp [e]
  · have hb : b.testBit x = false := by cases q : b.testBit x; rfl; exact absurd q h
    show _ = (b ||| 2 ^ x).testBit i
    rw [Nat.testBit_or, Nat.testBit_two_pow]
    by_cases e : x = i
    · subst e; rw [hb]; simp
    · simp [e]
section MO
variable {h : hc_H} {m len um sp fs n C : Nat} {X : Nat → Nat → Nat} {Q : Nat → Int32} {T B A J S : Nat → Nat}
theorem c_R_order_bad (hr : isR h m len um sp fs X Q) (h0 : X 2 0 = n) (hn : 1 ≤ n ∧ n ≤ 12) {x y i : Int32} (hx : ¬ (((0 ≤ x ∧ x < nI n) ∧ (0 ≤ y ∧ y < nI n) ∧ ¬ x = y) ∧ (nI 0 ≤ i ∧ i ≤ nI 1))) : MA M_R_order [.ref m, .int x, .int y, .int i] h (some (.int (-1))) h := by
  have o0 := hr.1
  refine MX.of (lv := [some (.ref m), some (.int x), some (.int y), some (.int i)]) 0 rfl (by decide) (Nat.le_of_ble_eq_true rfl) (sn_R_order_0 _ _ _ ?_)
  simp only [vc_R_order_0, vc_R_order_19, qi_push, qi_pushl, qi_iload, qi_lload, qi_aload, qi_istore, qi_astore, qi_lstore, qi_iinc, qi_iadd, qi_isub, qi_imul, qi_iand, qi_ior, qi_ixor, qi_ishl, qi_ishr, qi_iushr, qi_idiv, qi_irem, qi_lor, qi_lmul, qi_ladd, qi_lsub, qi_land, qi_lshl, qi_lshr, qi_i2l, qi_l2i, qi_i2c, qi_lcmp, qi_dup, qi_dup2, qi_pop, qi_if_eq, qi_icmp_eq, qi_if_ne, qi_icmp_ne, qi_if_lt, qi_icmp_lt, qi_if_ge, qi_icmp_ge, qi_if_gt, qi_icmp_gt, qi_if_le, qi_icmp_le, qi_sw, qi_get, qi_put, qi_iald, qi_lald, qi_aald, qi_iast, qi_zast, qi_cast, qi_last, qi_aast, qi_alen, qi_new, qi_newa, qi_newq, qi_obj, qi_invS, qi_invV, qi_invI, qi_iret, qi_zret, qi_lret, qi_vret, qi_acopy, qi_max, qi_min, at_o, at_i, at_l, at_q, at_a, lget, lset, lclr, lnon, lnth, spl, shrt, rpush, true_and, and_true, List.set, List.length, Nat.reduceAdd, Nat.reduceLT, Nat.reduceLeDiff, Nat.reduceEqDiff, Nat.reduceSub, o0]
  refine ⟨_, _, c_R_isPair hr h0 hn x y, ?_⟩
  by_cases w : (0 ≤ x ∧ x < nI n) ∧ (0 ≤ y ∧ y < nI n) ∧ ¬ x = y
  · rw [dT w]
    simp only [qi_push, qi_pushl, qi_iload, qi_lload, qi_aload, qi_istore, qi_astore, qi_lstore, qi_iinc, qi_iadd, qi_isub, qi_imul, qi_iand, qi_ior, qi_ixor, qi_ishl, qi_ishr, qi_iushr, qi_idiv, qi_irem, qi_lor, qi_lmul, qi_ladd, qi_lsub, qi_land, qi_lshl, qi_lshr, qi_i2l, qi_l2i, qi_i2c, qi_lcmp, qi_dup, qi_dup2, qi_pop, qi_if_eq, qi_icmp_eq, qi_if_ne, qi_icmp_ne, qi_if_lt, qi_icmp_lt, qi_if_ge, qi_icmp_ge, qi_if_gt, qi_icmp_gt, qi_if_le, qi_icmp_le, qi_sw, qi_get, qi_put, qi_iald, qi_lald, qi_aald, qi_iast, qi_zast, qi_cast, qi_last, qi_aast, qi_alen, qi_new, qi_newa, qi_newq, qi_obj, qi_invS, qi_invV, qi_invI, qi_iret, qi_zret, qi_lret, qi_vret, qi_acopy, qi_max, qi_min, at_o, at_i, at_l, at_q, at_a, lget, lset, lclr, lnon, lnth, spl, shrt, rpush, true_and, and_true, List.set, List.length, Nat.reduceAdd, Nat.reduceLT, Nat.reduceLeDiff, Nat.reduceEqDiff, Nat.reduceSub]
    refine ⟨fun _ => (by first | trivial | exact ⟨rfl, rfl⟩), fun _ => ⟨_, _, c_R_inI h i (by omega) (by omega), ?_⟩⟩
    rw [dF (fun q => hx ⟨w, q⟩)]
    simp only [qi_push, qi_pushl, qi_iload, qi_lload, qi_aload, qi_istore, qi_astore, qi_lstore, qi_iinc, qi_iadd, qi_isub, qi_imul, qi_iand, qi_ior, qi_ixor, qi_ishl, qi_ishr, qi_iushr, qi_idiv, qi_irem, qi_lor, qi_lmul, qi_ladd, qi_lsub, qi_land, qi_lshl, qi_lshr, qi_i2l, qi_l2i, qi_i2c, qi_lcmp, qi_dup, qi_dup2, qi_pop, qi_if_eq, qi_icmp_eq, qi_if_ne, qi_icmp_ne, qi_if_lt, qi_icmp_lt, qi_if_ge, qi_icmp_ge, qi_if_gt, qi_icmp_gt, qi_if_le, qi_icmp_le, qi_sw, qi_get, qi_put, qi_iald, qi_lald, qi_aald, qi_iast, qi_zast, qi_cast, qi_last, qi_aast, qi_alen, qi_new, qi_newa, qi_newq, qi_obj, qi_invS, qi_invV, qi_invI, qi_iret, qi_zret, qi_lret, qi_vret, qi_acopy, qi_max, qi_min, at_o, at_i, at_l, at_q, at_a, lget, lset, lclr, lnon, lnth, spl, shrt, rpush, true_and, and_true, List.set, List.length, Nat.reduceAdd, Nat.reduceLT, Nat.reduceLeDiff, Nat.reduceEqDiff, Nat.reduceSub]
    exact ⟨fun c => absurd rfl c, fun _ => (by first | trivial | exact ⟨rfl, rfl⟩)⟩
  · rw [dF w]
    simp only [qi_push, qi_pushl, qi_iload, qi_lload, qi_aload, qi_istore, qi_astore, qi_lstore, qi_iinc, qi_iadd, qi_isub, qi_imul, qi_iand, qi_ior, qi_ixor, qi_ishl, qi_ishr, qi_iushr, qi_idiv, qi_irem, qi_lor, qi_lmul, qi_ladd, qi_lsub, qi_land, qi_lshl, qi_lshr, qi_i2l, qi_l2i, qi_i2c, qi_lcmp, qi_dup, qi_dup2, qi_pop, qi_if_eq, qi_icmp_eq, qi_if_ne, qi_icmp_ne, qi_if_lt, qi_icmp_lt, qi_if_ge, qi_icmp_ge, qi_if_gt, qi_icmp_gt, qi_if_le, qi_icmp_le, qi_sw, qi_get, qi_put, qi_iald, qi_lald, qi_aald, qi_iast, qi_zast, qi_cast, qi_last, qi_aast, qi_alen, qi_new, qi_newa, qi_newq, qi_obj, qi_invS, qi_invV, qi_invI, qi_iret, qi_zret, qi_lret, qi_vret, qi_acopy, qi_max, qi_min, at_o, at_i, at_l, at_q, at_a, lget, lset, lclr, lnon, lnth, spl, shrt, rpush, true_and, and_true, List.set, List.length, Nat.reduceAdd, Nat.reduceLT, Nat.reduceLeDiff, Nat.reduceEqDiff, Nat.reduceSub]
    exact ⟨fun _ => (by first | trivial | exact ⟨rfl, rfl⟩), fun c => absurd rfl c⟩
theorem R_order_pre (hr : isR h m len um sp fs X Q) (hX : X 2 = rowP n C T B A J S) (hw : pw n T B A J S) (hn : 1 ≤ n) {x y : Nat} (hx : x < n) (hy : y < n) (hxy : ¬ x = y) (w : Bool) {h' : hc_H} {r : Int32} (k1 : ((B y).testBit x = w ∨ (w = true ∧ (aa_r B 12 (B x) 12).testBit y = true)) → vc_R_order_67 (some (.int r)) h' (cx hc_tt M_R_order h h' (some (.int r))) [some (.ref m), some (.int (nI x)), some (.int (nI y)), some (.int (nI w.toNat))] [] h) (k2 : ¬ ((B y).testBit x = w ∨ (w = true ∧ (aa_r B 12 (B x) 12).testBit y = true)) → vc_R_order_70 (some (.int r)) h' (cx hc_tt M_R_order h h' (some (.int r))) [some (.ref m), some (.int (nI x)), some (.int (nI y)), some (.int (nI w.toNat))] [] h) (hh : h.2.1 ≤ h'.2.1 ∧ h.2.2 ≤ h'.2.2) : MA M_R_order [.ref m, .int (nI x), .int (nI y), .int (nI w.toNat)] h (some (.int r)) h' := by
  have o0 := hr.1
  have o2 := hr.2.2.1
  have h0 : X 2 0 = n := by rw [hX]; rfl
  rw [hX] at o2
  have hn12 := hw.1
  have bB := hw.2.2.1 y
  have bF := aa_r_lt2 (n := 12) hw.2.2.1 (hw.2.2.1 x) 12
  refine MX.of (lv := [some (.ref m), some (.int (nI x)), some (.int (nI y)), some (.int (nI w.toNat))]) 0 rfl (by decide) (Nat.le_of_ble_eq_true rfl) (sn_R_order_0 _ _ _ ?_)
  simp only [vc_R_order_0, vc_R_order_19, vc_R_order_21, qi_push, qi_pushl, qi_iload, qi_lload, qi_aload, qi_istore, qi_astore, qi_lstore, qi_iinc, qi_iadd, qi_isub, qi_imul, qi_iand, qi_ior, qi_ixor, qi_ishl, qi_ishr, qi_iushr, qi_idiv, qi_irem, qi_lor, qi_lmul, qi_ladd, qi_lsub, qi_land, qi_lshl, qi_lshr, qi_i2l, qi_l2i, qi_i2c, qi_lcmp, qi_dup, qi_dup2, qi_pop, qi_if_eq, qi_icmp_eq, qi_if_ne, qi_icmp_ne, qi_if_lt, qi_icmp_lt, qi_if_ge, qi_icmp_ge, qi_if_gt, qi_icmp_gt, qi_if_le, qi_icmp_le, qi_sw, qi_get, qi_put, qi_iald, qi_lald, qi_aald, qi_iast, qi_zast, qi_cast, qi_last, qi_aast, qi_alen, qi_new, qi_newa, qi_newq, qi_obj, qi_invS, qi_invV, qi_invI, qi_iret, qi_zret, qi_lret, qi_vret, qi_acopy, qi_max, qi_min, at_o, at_i, at_l, at_q, at_a, lget, lset, lclr, lnon, lnth, spl, shrt, rpush, true_and, and_true, List.set, List.length, Nat.reduceAdd, Nat.reduceLT, Nat.reduceLeDiff, Nat.reduceEqDiff, Nat.reduceSub, o0]
  refine ⟨_, _, c_R_isPair hr h0 ⟨hn, hn12⟩ (nI x) (nI y), ?_⟩
  rw [dT (pair_i hn12 hx hy hxy)]
  simp only [qi_push, qi_pushl, qi_iload, qi_lload, qi_aload, qi_istore, qi_astore, qi_lstore, qi_iinc, qi_iadd, qi_isub, qi_imul, qi_iand, qi_ior, qi_ixor, qi_ishl, qi_ishr, qi_iushr, qi_idiv, qi_irem, qi_lor, qi_lmul, qi_ladd, qi_lsub, qi_land, qi_lshl, qi_lshr, qi_i2l, qi_l2i, qi_i2c, qi_lcmp, qi_dup, qi_dup2, qi_pop, qi_if_eq, qi_icmp_eq, qi_if_ne, qi_icmp_ne, qi_if_lt, qi_icmp_lt, qi_if_ge, qi_icmp_ge, qi_if_gt, qi_icmp_gt, qi_if_le, qi_icmp_le, qi_sw, qi_get, qi_put, qi_iald, qi_lald, qi_aald, qi_iast, qi_zast, qi_cast, qi_last, qi_aast, qi_alen, qi_new, qi_newa, qi_newq, qi_obj, qi_invS, qi_invV, qi_invI, qi_iret, qi_zret, qi_lret, qi_vret, qi_acopy, qi_max, qi_min, at_o, at_i, at_l, at_q, at_a, lget, lset, lclr, lnon, lnth, spl, shrt, rpush, true_and, and_true, List.set, List.length, Nat.reduceAdd, Nat.reduceLT, Nat.reduceLeDiff, Nat.reduceEqDiff, Nat.reduceSub, o0, o2]
  refine ⟨fun c => absurd c c10, fun _ => ⟨_, _, c_R_inI h (nI w.toNat) (by omega) (by omega), ?_⟩⟩
  rw [dT (by cases w <;> decide)]
  simp only [qi_push, qi_pushl, qi_iload, qi_lload, qi_aload, qi_istore, qi_astore, qi_lstore, qi_iinc, qi_iadd, qi_isub, qi_imul, qi_iand, qi_ior, qi_ixor, qi_ishl, qi_ishr, qi_iushr, qi_idiv, qi_irem, qi_lor, qi_lmul, qi_ladd, qi_lsub, qi_land, qi_lshl, qi_lshr, qi_i2l, qi_l2i, qi_i2c, qi_lcmp, qi_dup, qi_dup2, qi_pop, qi_if_eq, qi_icmp_eq, qi_if_ne, qi_icmp_ne, qi_if_lt, qi_icmp_lt, qi_if_ge, qi_icmp_ge, qi_if_gt, qi_icmp_gt, qi_if_le, qi_icmp_le, qi_sw, qi_get, qi_put, qi_iald, qi_lald, qi_aald, qi_iast, qi_zast, qi_cast, qi_last, qi_aast, qi_alen, qi_new, qi_newa, qi_newq, qi_obj, qi_invS, qi_invV, qi_invI, qi_iret, qi_zret, qi_lret, qi_vret, qi_acopy, qi_max, qi_min, at_o, at_i, at_l, at_q, at_a, lget, lset, lclr, lnon, lnth, spl, shrt, rpush, true_and, and_true, List.set, List.length, Nat.reduceAdd, Nat.reduceLT, Nat.reduceLeDiff, Nat.reduceEqDiff, Nat.reduceSub, o0, o2, nI_add]
  rw [nI_clamp (by omega), rp_B (show y < 12 by omega)]
  refine ⟨fun _ => ⟨vp_in_nI (by omega) (by omega), _, _, c_R_has h (show B y < 2 ^ 31 by omega) (show x < 31 by omega), ?_⟩, fun c => absurd c c10⟩
  have e44 : ∀ o : Bool, o = w → vc_R_order_44 (some (.int r)) h' (cx hc_tt M_R_order h h' (some (.int r))) [some (.ref m), some (.int (nI x)), some (.int (nI y)), some (.int (nI w.toNat))] [.int (nI o.toNat), .int (nI ((B y).testBit x).toNat)] h := by
    intro o ho
    subst ho
    simp only [vc_R_order_44, qi_push, qi_pushl, qi_iload, qi_lload, qi_aload, qi_istore, qi_astore, qi_lstore, qi_iinc, qi_iadd, qi_isub, qi_imul, qi_iand, qi_ior, qi_ixor, qi_ishl, qi_ishr, qi_iushr, qi_idiv, qi_irem, qi_lor, qi_lmul, qi_ladd, qi_lsub, qi_land, qi_lshl, qi_lshr, qi_i2l, qi_l2i, qi_i2c, qi_lcmp, qi_dup, qi_dup2, qi_pop, qi_if_eq, qi_icmp_eq, qi_if_ne, qi_icmp_ne, qi_if_lt, qi_icmp_lt, qi_if_ge, qi_icmp_ge, qi_if_gt, qi_icmp_gt, qi_if_le, qi_icmp_le, qi_sw, qi_get, qi_put, qi_iald, qi_lald, qi_aald, qi_iast, qi_zast, qi_cast, qi_last, qi_aast, qi_alen, qi_new, qi_newa, qi_newq, qi_obj, qi_invS, qi_invV, qi_invI, qi_iret, qi_zret, qi_lret, qi_vret, qi_acopy, qi_max, qi_min, at_o, at_i, at_l, at_q, at_a, lget, lset, lclr, lnon, lnth, spl, shrt, rpush, true_and, and_true, List.set, List.length, Nat.reduceAdd, Nat.reduceLT, Nat.reduceLeDiff, Nat.reduceEqDiff, Nat.reduceSub, o0]
    refine ⟨fun c => k1 (Or.inl ?_), fun c => ⟨fun c2 => k2 ?_, fun c2 => ⟨_, _, c_R_allBehind (t := x) o2 (fun z hz => by rw [rp_B hz]) hw.2.2.1 (by omega), ?_⟩⟩⟩
    · revert c; cases (B y).testBit x <;> cases o <;> decide
    · rintro (q | ⟨q, -⟩)
      · exact c (by rw [q])
      · exact c2 (by rw [q]; rfl)
    · simp only [qi_push, qi_pushl, qi_iload, qi_lload, qi_aload, qi_istore, qi_astore, qi_lstore, qi_iinc, qi_iadd, qi_isub, qi_imul, qi_iand, qi_ior, qi_ixor, qi_ishl, qi_ishr, qi_iushr, qi_idiv, qi_irem, qi_lor, qi_lmul, qi_ladd, qi_lsub, qi_land, qi_lshl, qi_lshr, qi_i2l, qi_l2i, qi_i2c, qi_lcmp, qi_dup, qi_dup2, qi_pop, qi_if_eq, qi_icmp_eq, qi_if_ne, qi_icmp_ne, qi_if_lt, qi_icmp_lt, qi_if_ge, qi_icmp_ge, qi_if_gt, qi_icmp_gt, qi_if_le, qi_icmp_le, qi_sw, qi_get, qi_put, qi_iald, qi_lald, qi_aald, qi_iast, qi_zast, qi_cast, qi_last, qi_aast, qi_alen, qi_new, qi_newa, qi_newq, qi_obj, qi_invS, qi_invV, qi_invI, qi_iret, qi_zret, qi_lret, qi_vret, qi_acopy, qi_max, qi_min, at_o, at_i, at_l, at_q, at_a, lget, lset, lclr, lnon, lnth, spl, shrt, rpush, true_and, and_true, List.set, List.length, Nat.reduceAdd, Nat.reduceLT, Nat.reduceLeDiff, Nat.reduceEqDiff, Nat.reduceSub]
      refine ⟨_, _, c_R_has h (show aa_r B 12 (B x) 12 < 2 ^ 31 by omega) (show y < 31 by omega), ?_⟩
      simp only [qi_push, qi_pushl, qi_iload, qi_lload, qi_aload, qi_istore, qi_astore, qi_lstore, qi_iinc, qi_iadd, qi_isub, qi_imul, qi_iand, qi_ior, qi_ixor, qi_ishl, qi_ishr, qi_iushr, qi_idiv, qi_irem, qi_lor, qi_lmul, qi_ladd, qi_lsub, qi_land, qi_lshl, qi_lshr, qi_i2l, qi_l2i, qi_i2c, qi_lcmp, qi_dup, qi_dup2, qi_pop, qi_if_eq, qi_icmp_eq, qi_if_ne, qi_icmp_ne, qi_if_lt, qi_icmp_lt, qi_if_ge, qi_icmp_ge, qi_if_gt, qi_icmp_gt, qi_if_le, qi_icmp_le, qi_sw, qi_get, qi_put, qi_iald, qi_lald, qi_aald, qi_iast, qi_zast, qi_cast, qi_last, qi_aast, qi_alen, qi_new, qi_newa, qi_newq, qi_obj, qi_invS, qi_invV, qi_invI, qi_iret, qi_zret, qi_lret, qi_vret, qi_acopy, qi_max, qi_min, at_o, at_i, at_l, at_q, at_a, lget, lset, lclr, lnon, lnth, spl, shrt, rpush, true_and, and_true, List.set, List.length, Nat.reduceAdd, Nat.reduceLT, Nat.reduceLeDiff, Nat.reduceEqDiff, Nat.reduceSub]
      have ho : o = true := by revert c2; cases o <;> decide
      rw [nb_eq0]
      refine ⟨fun c3 => k2 ?_, fun c3 => k1 (Or.inr ⟨ho, ?_⟩)⟩
      · rintro (q | ⟨-, q⟩)
        · exact c (by rw [q])
        · rw [c3] at q; cases q
      · cases z : (aa_r B 12 (B x) 12).testBit y
        · exact absurd z c3
        · rfl
  simp only [vc_R_order_43, qi_push, qi_pushl, qi_iload, qi_lload, qi_aload, qi_istore, qi_astore, qi_lstore, qi_iinc, qi_iadd, qi_isub, qi_imul, qi_iand, qi_ior, qi_ixor, qi_ishl, qi_ishr, qi_iushr, qi_idiv, qi_irem, qi_lor, qi_lmul, qi_ladd, qi_lsub, qi_land, qi_lshl, qi_lshr, qi_i2l, qi_l2i, qi_i2c, qi_lcmp, qi_dup, qi_dup2, qi_pop, qi_if_eq, qi_icmp_eq, qi_if_ne, qi_icmp_ne, qi_if_lt, qi_icmp_lt, qi_if_ge, qi_icmp_ge, qi_if_gt, qi_icmp_gt, qi_if_le, qi_icmp_le, qi_sw, qi_get, qi_put, qi_iald, qi_lald, qi_aald, qi_iast, qi_zast, qi_cast, qi_last, qi_aast, qi_alen, qi_new, qi_newa, qi_newq, qi_obj, qi_invS, qi_invV, qi_invI, qi_iret, qi_zret, qi_lret, qi_vret, qi_acopy, qi_max, qi_min, at_o, at_i, at_l, at_q, at_a, lget, lset, lclr, lnon, lnth, spl, shrt, rpush, true_and, and_true, List.set, List.length, Nat.reduceAdd, Nat.reduceLT, Nat.reduceLeDiff, Nat.reduceEqDiff, Nat.reduceSub]
  refine ⟨fun c => e44 false ?_, fun c => e44 true ?_⟩
  · revert c; cases w <;> decide
  · revert c; cases w <;> decide
theorem c_R_order_no (hr : isR h m len um sp fs X Q) (hX : X 2 = rowP n C T B A J S) (hw : pw n T B A J S) (hn : 1 ≤ n) {x y : Nat} (hx : x < n) (hy : y < n) (hxy : ¬ x = y) (w : Bool) (hno : (B y).testBit x = w ∨ (w = true ∧ (aa_r B 12 (B x) 12).testBit y = true)) : MA M_R_order [.ref m, .int (nI x), .int (nI y), .int (nI w.toNat)] h (some (.int (-2))) h :=
  R_order_pre hr hX hw hn hx hy hxy w (fun _ => by simp only [vc_R_order_67, qi_push, qi_pushl, qi_iload, qi_lload, qi_aload, qi_istore, qi_astore, qi_lstore, qi_iinc, qi_iadd, qi_isub, qi_imul, qi_iand, qi_ior, qi_ixor, qi_ishl, qi_ishr, qi_iushr, qi_idiv, qi_irem, qi_lor, qi_lmul, qi_ladd, qi_lsub, qi_land, qi_lshl, qi_lshr, qi_i2l, qi_l2i, qi_i2c, qi_lcmp, qi_dup, qi_dup2, qi_pop, qi_if_eq, qi_icmp_eq, qi_if_ne, qi_icmp_ne, qi_if_lt, qi_icmp_lt, qi_if_ge, qi_icmp_ge, qi_if_gt, qi_icmp_gt, qi_if_le, qi_icmp_le, qi_sw, qi_get, qi_put, qi_iald, qi_lald, qi_aald, qi_iast, qi_zast, qi_cast, qi_last, qi_aast, qi_alen, qi_new, qi_newa, qi_newq, qi_obj, qi_invS, qi_invV, qi_invI, qi_iret, qi_zret, qi_lret, qi_vret, qi_acopy, qi_max, qi_min, at_o, at_i, at_l, at_q, at_a, lget, lset, lclr, lnon, lnth, spl, shrt, rpush, true_and, and_true, List.set, List.length, Nat.reduceAdd, Nat.reduceLT, Nat.reduceLeDiff, Nat.reduceEqDiff, Nat.reduceSub]) (fun q => absurd hno q) ⟨Nat.le_refl _, Nat.le_refl _⟩
theorem c_R_order (hr : isR h m len um sp fs X Q) (hX : X 2 = rowP n C T B A J S) (hw : pw n T B A J S) (hn : 1 ≤ n) (hC : C < 1000) (hu : um ≤ 6) {x y : Nat} (hx : x < n) (hy : y < n) (hxy : ¬ x = y) (w : Bool) (hno : ¬ ((B y).testBit x = w ∨ (w = true ∧ (aa_r B 12 (B x) 12).testBit y = true))) (hp : prOk (ordB B x y w) A J) :
    ∃ h' X', MA M_R_order [.ref m, .int (nI x), .int (nI y), .int (nI w.toNat)] h (some (.int (nI (osum (ordB B x y w) n)))) h' ∧ isR h' m len (kz um) sp fs X' Q ∧ X' 1 = X 1 ∧ X' 2 = rowP n C T (ordB B x y w) A J (tmS n C T (ordB B x y w) A J S n) ∧ X' 3 = ntB um (X 3) (rowP n C T B A J S) ∧ X' 11 = X 11 ∧ frm h h' m 12 := by
  have hn12 := hw.1
  obtain ⟨h1, n1, n2, n3⟩ := c_R_note hr hu
  have hrow : va_up (rowP n C T B A J S) (14 + y) (B y ^^^ 2 ^ x) = rowP n C T (ordB B x y w) A J S := by
    rw [rp_upB (by omega), xor_ord (w := w) (fun q => hno (Or.inl q))]; rfl
  have r2 := n2.setN (f := va_up (rowP n C T B A J S) (14 + y) (B y ^^^ 2 ^ x))
  rw [hrow] at r2
  obtain ⟨h2, eh2⟩ : ∃ z, hc_set h1 (m + 2) (.inl (0, 62, .inl (fun j => nI (rowP n C T (ordB B x y w) A J S j)))) = z := ⟨_, rfl⟩
  rw [eh2] at r2
  have hw2 : pw n T (ordB B x y w) A J S := hw.ord (by omega) w
  obtain ⟨h3, t1, t2, t3⟩ := c_R_takesOff r2 rfl hw2 hC hp
  have hw3 : pw n T (ordB B x y w) A J (tmS n C T (ordB B x y w) A J S n) := ⟨hw2.1, hw2.2.1, hw2.2.2.1, hw2.2.2.2.1, hw2.2.2.2.2.1, fun i => tmS_le hw2.2.2.2.2.2 n i⟩
  have fr : frm h h3 m 12 := by
    refine frm.trans (n3.mono (by omega) (by omega)) (frm.trans (h' := h2) ?_ (t3.mono (by omega) (by omega)))
    rw [← eh2]
    exact frm.rfl'.set (by omega)
  refine ⟨h3, _, R_order_pre hr hX hw hn hx hy hxy w (fun q => absurd q hno) (fun _ => ?_) (by rw [fr.1]; exact ⟨Nat.le_refl _, Nat.le_refl _⟩), t2, rfl, rfl, by rw [← hX]; rfl, rfl, fr⟩
  have o0 := hr.1
  have q0 := n2.1
  have q2 : h1.1 (m + 2) = ii 62 (X 2) := n2.2.2.1
  rw [hX] at q2
  have p0 := r2.1
  have p3 := t2.1
  simp only [vc_R_order_70, qi_push, qi_pushl, qi_iload, qi_lload, qi_aload, qi_istore, qi_astore, qi_lstore, qi_iinc, qi_iadd, qi_isub, qi_imul, qi_iand, qi_ior, qi_ixor, qi_ishl, qi_ishr, qi_iushr, qi_idiv, qi_irem, qi_lor, qi_lmul, qi_ladd, qi_lsub, qi_land, qi_lshl, qi_lshr, qi_i2l, qi_l2i, qi_i2c, qi_lcmp, qi_dup, qi_dup2, qi_pop, qi_if_eq, qi_icmp_eq, qi_if_ne, qi_icmp_ne, qi_if_lt, qi_icmp_lt, qi_if_ge, qi_icmp_ge, qi_if_gt, qi_icmp_gt, qi_if_le, qi_icmp_le, qi_sw, qi_get, qi_put, qi_iald, qi_lald, qi_aald, qi_iast, qi_zast, qi_cast, qi_last, qi_aast, qi_alen, qi_new, qi_newa, qi_newq, qi_obj, qi_invS, qi_invV, qi_invI, qi_iret, qi_zret, qi_lret, qi_vret, qi_acopy, qi_max, qi_min, at_o, at_i, at_l, at_q, at_a, lget, lset, lclr, lnon, lnth, spl, shrt, rpush, true_and, and_true, List.set, List.length, Nat.reduceAdd, Nat.reduceLT, Nat.reduceLeDiff, Nat.reduceEqDiff, Nat.reduceSub, o0]
  refine ⟨_, _, n1, ?_⟩
  simp only [qi_push, qi_pushl, qi_iload, qi_lload, qi_aload, qi_istore, qi_astore, qi_lstore, qi_iinc, qi_iadd, qi_isub, qi_imul, qi_iand, qi_ior, qi_ixor, qi_ishl, qi_ishr, qi_iushr, qi_idiv, qi_irem, qi_lor, qi_lmul, qi_ladd, qi_lsub, qi_land, qi_lshl, qi_lshr, qi_i2l, qi_l2i, qi_i2c, qi_lcmp, qi_dup, qi_dup2, qi_pop, qi_if_eq, qi_icmp_eq, qi_if_ne, qi_icmp_ne, qi_if_lt, qi_icmp_lt, qi_if_ge, qi_icmp_ge, qi_if_gt, qi_icmp_gt, qi_if_le, qi_icmp_le, qi_sw, qi_get, qi_put, qi_iald, qi_lald, qi_aald, qi_iast, qi_zast, qi_cast, qi_last, qi_aast, qi_alen, qi_new, qi_newa, qi_newq, qi_obj, qi_invS, qi_invV, qi_invI, qi_iret, qi_zret, qi_lret, qi_vret, qi_acopy, qi_max, qi_min, at_o, at_i, at_l, at_q, at_a, lget, lset, lclr, lnon, lnth, spl, shrt, rpush, true_and, and_true, List.set, List.length, Nat.reduceAdd, Nat.reduceLT, Nat.reduceLeDiff, Nat.reduceEqDiff, Nat.reduceSub, q0, q2, nI_add]
  rw [nI_clamp (by omega), rp_B (show y < 12 by omega), ni_1shl (by omega), ni_xor, upd_nI, hrow, eh2]
  refine ⟨vp_in_nI (by omega) (by omega), vp_in_nI (by omega) (by omega), ?_⟩
  simp only [qi_push, qi_pushl, qi_iload, qi_lload, qi_aload, qi_istore, qi_astore, qi_lstore, qi_iinc, qi_iadd, qi_isub, qi_imul, qi_iand, qi_ior, qi_ixor, qi_ishl, qi_ishr, qi_iushr, qi_idiv, qi_irem, qi_lor, qi_lmul, qi_ladd, qi_lsub, qi_land, qi_lshl, qi_lshr, qi_i2l, qi_l2i, qi_i2c, qi_lcmp, qi_dup, qi_dup2, qi_pop, qi_if_eq, qi_icmp_eq, qi_if_ne, qi_icmp_ne, qi_if_lt, qi_icmp_lt, qi_if_ge, qi_icmp_ge, qi_if_gt, qi_icmp_gt, qi_if_le, qi_icmp_le, qi_sw, qi_get, qi_put, qi_iald, qi_lald, qi_aald, qi_iast, qi_zast, qi_cast, qi_last, qi_aast, qi_alen, qi_new, qi_newa, qi_newq, qi_obj, qi_invS, qi_invV, qi_invI, qi_iret, qi_zret, qi_lret, qi_vret, qi_acopy, qi_max, qi_min, at_o, at_i, at_l, at_q, at_a, lget, lset, lclr, lnon, lnth, spl, shrt, rpush, true_and, and_true, List.set, List.length, Nat.reduceAdd, Nat.reduceLT, Nat.reduceLeDiff, Nat.reduceEqDiff, Nat.reduceSub, p0]
  refine ⟨_, _, t1, ?_⟩
  simp only [qi_push, qi_pushl, qi_iload, qi_lload, qi_aload, qi_istore, qi_astore, qi_lstore, qi_iinc, qi_iadd, qi_isub, qi_imul, qi_iand, qi_ior, qi_ixor, qi_ishl, qi_ishr, qi_iushr, qi_idiv, qi_irem, qi_lor, qi_lmul, qi_ladd, qi_lsub, qi_land, qi_lshl, qi_lshr, qi_i2l, qi_l2i, qi_i2c, qi_lcmp, qi_dup, qi_dup2, qi_pop, qi_if_eq, qi_icmp_eq, qi_if_ne, qi_icmp_ne, qi_if_lt, qi_icmp_lt, qi_if_ge, qi_icmp_ge, qi_if_gt, qi_icmp_gt, qi_if_le, qi_icmp_le, qi_sw, qi_get, qi_put, qi_iald, qi_lald, qi_aald, qi_iast, qi_zast, qi_cast, qi_last, qi_aast, qi_alen, qi_new, qi_newa, qi_newq, qi_obj, qi_invS, qi_invV, qi_invI, qi_iret, qi_zret, qi_lret, qi_vret, qi_acopy, qi_max, qi_min, at_o, at_i, at_l, at_q, at_a, lget, lset, lclr, lnon, lnth, spl, shrt, rpush, true_and, and_true, List.set, List.length, Nat.reduceAdd, Nat.reduceLT, Nat.reduceLeDiff, Nat.reduceEqDiff, Nat.reduceSub, p3]
  exact ⟨_, _, c_R_ordersMany t2 rfl hw3, (by simp only [qi_push, qi_pushl, qi_iload, qi_lload, qi_aload, qi_istore, qi_astore, qi_lstore, qi_iinc, qi_iadd, qi_isub, qi_imul, qi_iand, qi_ior, qi_ixor, qi_ishl, qi_ishr, qi_iushr, qi_idiv, qi_irem, qi_lor, qi_lmul, qi_ladd, qi_lsub, qi_land, qi_lshl, qi_lshr, qi_i2l, qi_l2i, qi_i2c, qi_lcmp, qi_dup, qi_dup2, qi_pop, qi_if_eq, qi_icmp_eq, qi_if_ne, qi_icmp_ne, qi_if_lt, qi_icmp_lt, qi_if_ge, qi_icmp_ge, qi_if_gt, qi_icmp_gt, qi_if_le, qi_icmp_le, qi_sw, qi_get, qi_put, qi_iald, qi_lald, qi_aald, qi_iast, qi_zast, qi_cast, qi_last, qi_aast, qi_alen, qi_new, qi_newa, qi_newq, qi_obj, qi_invS, qi_invV, qi_invI, qi_iret, qi_zret, qi_lret, qi_vret, qi_acopy, qi_max, qi_min, at_o, at_i, at_l, at_q, at_a, lget, lset, lclr, lnon, lnth, spl, shrt, rpush, true_and, and_true, List.set, List.length, Nat.reduceAdd, Nat.reduceLT, Nat.reduceLeDiff, Nat.reduceEqDiff, Nat.reduceSub])⟩
end MO
