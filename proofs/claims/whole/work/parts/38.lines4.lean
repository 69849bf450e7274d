/-! LINES: the loads that are listed; the constructor. -/
section LN
variable {h : hc_H} {a N fx us C : Nat} {F G : Nat → Nat → Nat}
theorem listed13 {n : Nat} (hp : isLn h a N fx (2 ^ n - 1) (nI C) us F G) (hN : N ≤ 4096) (hW : 2 ^ n ≤ N) (hF : ∀ k s, F k s ≤ 2000000) (i : Int32) (fu : Bool) {h0 : hc_H} : ∀ k s f, s + k = 2 ^ n → f ≤ s → cx hc_tt M_L_listedLoad h0 h (some (.int (pick (fun s => decide (F 7 s = 0) && !(fu && decide (F 10 s ≠ 0))) i k s f))) 13 [some (.ref a), some (.int i), some (.int (nI fu.toNat)), some (.int (nI f)), some (.int (nI s))] [] h := by
  intro k
  obtain ⟨e0, e1, e2, e3, e4, e5, e6, e7, e8, e9, e10, -⟩ := id hp
  induction k with
  | zero =>
    intro s f hs hf
    refine sn_L_listedLoad_13 _ _ _ ?_
    have q : ∀ x : Prop, ¬ s ≤ 2 ^ n - 1 := fun x => by have := Nat.two_pow_pos n; omega
    simp only [vc_L_listedLoad_13, vc_L_listedLoad_63, vc_L_listedLoad_71, vc_L_listedLoad_73, qi_push, qi_pushl, qi_iload, qi_lload, qi_aload, qi_istore, qi_astore, qi_lstore, qi_iinc, qi_iadd, qi_isub, qi_imul, qi_iand, qi_ior, qi_ixor, qi_ishl, qi_ishr, qi_iushr, qi_idiv, qi_irem, qi_lor, qi_lmul, qi_ladd, qi_lsub, qi_land, qi_lshl, qi_lshr, qi_i2l, qi_l2i, qi_i2c, qi_lcmp, qi_dup, qi_dup2, qi_pop, qi_if_eq, qi_icmp_eq, qi_if_ne, qi_icmp_ne, qi_if_lt, qi_icmp_lt, qi_if_ge, qi_icmp_ge, qi_if_gt, qi_icmp_gt, qi_if_le, qi_icmp_le, qi_sw, qi_get, qi_put, qi_iald, qi_lald, qi_aald, qi_iast, qi_zast, qi_cast, qi_last, qi_aast, qi_alen, qi_new, qi_newa, qi_newq, qi_obj, qi_invS, qi_invV, qi_invI, qi_iret, qi_zret, qi_lret, qi_vret, qi_acopy, qi_max, qi_min, at_o, at_i, at_l, at_q, at_a, lget, lset, lclr, lnon, lnth, spl, shrt, rpush, true_and, and_true, List.set, List.length, Nat.reduceAdd, Nat.reduceLT, Nat.reduceLeDiff, Nat.reduceEqDiff, Nat.reduceSub, e0, pick]
    refine ⟨fun _ => ?_, fun z => absurd (nI_lt (by have := Nat.two_pow_pos n; omega) (by omega)) z⟩
    by_cases z : i < 0
    · rw [if_pos z]
      exact ⟨fun w => absurd z (Int32.not_lt.mpr w), fun _ => rfl⟩
    · rw [if_neg z]
      exact ⟨fun _ => rfl, fun w => absurd (Int32.not_lt.mp z) w⟩
  | succ k ih =>
    intro s f hs hf
    have hv : vp_in (nI s) N := vp_in_nI (by omega) (by omega)
    have ct : (nI s).toNatClampNeg = s := nI_clamp (by omega)
    have b7 := hF 7 s
    have b10 := hF 10 s
    have n57 : ∀ g, cx hc_tt M_L_listedLoad h0 h (some (.int (pick (fun s => decide (F 7 s = 0) && !(fu && decide (F 10 s ≠ 0))) i k (s + 1) g))) 13 [some (.ref a), some (.int i), some (.int (nI fu.toNat)), some (.int (nI g)), some (.int (nI (s + 1)))] [] h → vc_L_listedLoad_57 (some (.int (pick (fun s => decide (F 7 s = 0) && !(fu && decide (F 10 s ≠ 0))) i k (s + 1) g))) h (cx hc_tt M_L_listedLoad h0 h (some (.int (pick (fun s => decide (F 7 s = 0) && !(fu && decide (F 10 s ≠ 0))) i k (s + 1) g)))) [some (.ref a), some (.int i), some (.int (nI fu.toNat)), some (.int (nI g)), some (.int (nI s))] [] h := fun g hg => by
      simp only [vc_L_listedLoad_57, qi_push, qi_pushl, qi_iload, qi_lload, qi_aload, qi_istore, qi_astore, qi_lstore, qi_iinc, qi_iadd, qi_isub, qi_imul, qi_iand, qi_ior, qi_ixor, qi_ishl, qi_ishr, qi_iushr, qi_idiv, qi_irem, qi_lor, qi_lmul, qi_ladd, qi_lsub, qi_land, qi_lshl, qi_lshr, qi_i2l, qi_l2i, qi_i2c, qi_lcmp, qi_dup, qi_dup2, qi_pop, qi_if_eq, qi_icmp_eq, qi_if_ne, qi_icmp_ne, qi_if_lt, qi_icmp_lt, qi_if_ge, qi_icmp_ge, qi_if_gt, qi_icmp_gt, qi_if_le, qi_icmp_le, qi_sw, qi_get, qi_put, qi_iald, qi_lald, qi_aald, qi_iast, qi_zast, qi_cast, qi_last, qi_aast, qi_alen, qi_new, qi_newa, qi_newq, qi_obj, qi_invS, qi_invV, qi_invI, qi_iret, qi_zret, qi_lret, qi_vret, qi_acopy, qi_max, qi_min, at_o, at_i, at_l, at_q, at_a, lget, lset, lclr, lnon, lnth, spl, shrt, rpush, true_and, and_true, List.set, List.length, Nat.reduceAdd, Nat.reduceLT, Nat.reduceLeDiff, Nat.reduceEqDiff, Nat.reduceSub]
      rw [nI_add]
      exact hg
    have ls : ¬ 2 ^ n - 1 < s := by omega
    have fb : fu.toNat ≤ 1 := by cases fu <;> decide
    refine sn_L_listedLoad_13 _ _ _ ?_
    have key : ∀ r : Int32, (((decide (F 7 s = 0) && !(fu && decide (F 10 s ≠ 0))) = true → vc_L_listedLoad_46 (some (.int r)) h (cx hc_tt M_L_listedLoad h0 h (some (.int r))) [some (.ref a), some (.int i), some (.int (nI fu.toNat)), some (.int (nI f)), some (.int (nI s))] [] h) ∧ ((decide (F 7 s = 0) && !(fu && decide (F 10 s ≠ 0))) = false → vc_L_listedLoad_57 (some (.int r)) h (cx hc_tt M_L_listedLoad h0 h (some (.int r))) [some (.ref a), some (.int i), some (.int (nI fu.toNat)), some (.int (nI f)), some (.int (nI s))] [] h)) → vc_L_listedLoad_13 (some (.int r)) h (cx hc_tt M_L_listedLoad h0 h (some (.int r))) [some (.ref a), some (.int i), some (.int (nI fu.toNat)), some (.int (nI f)), some (.int (nI s))] [] h := by
      intro r ⟨k1, k2⟩
      simp only [vc_L_listedLoad_13, qi_push, qi_pushl, qi_iload, qi_lload, qi_aload, qi_istore, qi_astore, qi_lstore, qi_iinc, qi_iadd, qi_isub, qi_imul, qi_iand, qi_ior, qi_ixor, qi_ishl, qi_ishr, qi_iushr, qi_idiv, qi_irem, qi_lor, qi_lmul, qi_ladd, qi_lsub, qi_land, qi_lshl, qi_lshr, qi_i2l, qi_l2i, qi_i2c, qi_lcmp, qi_dup, qi_dup2, qi_pop, qi_if_eq, qi_icmp_eq, qi_if_ne, qi_icmp_ne, qi_if_lt, qi_icmp_lt, qi_if_ge, qi_icmp_ge, qi_if_gt, qi_icmp_gt, qi_if_le, qi_icmp_le, qi_sw, qi_get, qi_put, qi_iald, qi_lald, qi_aald, qi_iast, qi_zast, qi_cast, qi_last, qi_aast, qi_alen, qi_new, qi_newa, qi_newq, qi_obj, qi_invS, qi_invV, qi_invI, qi_iret, qi_zret, qi_lret, qi_vret, qi_acopy, qi_max, qi_min, at_o, at_i, at_l, at_q, at_a, lget, lset, lclr, lnon, lnth, spl, shrt, rpush, true_and, and_true, List.set, List.length, Nat.reduceAdd, Nat.reduceLT, Nat.reduceLeDiff, Nat.reduceEqDiff, Nat.reduceSub, e0, e7, e10, hv, ct]
      rw [nI_ltI (by omega) (by omega), ← nI_0, nI_eq (by omega) (by omega), nI_eq (by omega) (by omega), nI_eq (by omega) (by omega)]
      refine ⟨fun z => absurd z ls, fun _ => ⟨fun z => k2 (by rw [decide_eq_false z]; rfl), fun z => ?_⟩⟩
      cases fu
      · exact ⟨fun _ => k1 (by rw [decide_eq_true z]; rfl), fun w => absurd rfl w⟩
      · refine ⟨fun w => absurd w (by decide), fun _ => ⟨fun w => k2 ?_, fun w => k1 ?_⟩⟩
        · rw [decide_eq_true z, decide_eq_true w]; rfl
        · rw [decide_eq_true z, decide_eq_false (fun q => q w)]; rfl
    refine key _ ⟨fun z => ?_, fun z => ?_⟩
    · simp only [pick]
      rw [if_pos z]
      simp only [vc_L_listedLoad_46, vc_L_listedLoad_54, qi_push, qi_pushl, qi_iload, qi_lload, qi_aload, qi_istore, qi_astore, qi_lstore, qi_iinc, qi_iadd, qi_isub, qi_imul, qi_iand, qi_ior, qi_ixor, qi_ishl, qi_ishr, qi_iushr, qi_idiv, qi_irem, qi_lor, qi_lmul, qi_ladd, qi_lsub, qi_land, qi_lshl, qi_lshr, qi_i2l, qi_l2i, qi_i2c, qi_lcmp, qi_dup, qi_dup2, qi_pop, qi_if_eq, qi_icmp_eq, qi_if_ne, qi_icmp_ne, qi_if_lt, qi_icmp_lt, qi_if_ge, qi_icmp_ge, qi_if_gt, qi_icmp_gt, qi_if_le, qi_icmp_le, qi_sw, qi_get, qi_put, qi_iald, qi_lald, qi_aald, qi_iast, qi_zast, qi_cast, qi_last, qi_aast, qi_alen, qi_new, qi_newa, qi_newq, qi_obj, qi_invS, qi_invV, qi_invI, qi_iret, qi_zret, qi_lret, qi_vret, qi_acopy, qi_max, qi_min, at_o, at_i, at_l, at_q, at_a, lget, lset, lclr, lnon, lnth, spl, shrt, rpush, true_and, and_true, List.set, List.length, Nat.reduceAdd, Nat.reduceLT, Nat.reduceLeDiff, Nat.reduceEqDiff, Nat.reduceSub]
      by_cases w : nI f = i
      · rw [if_pos w]
        exact ⟨fun w2 => absurd w w2, fun _ => rfl⟩
      · rw [if_neg w]
        refine ⟨fun _ => ?_, fun w2 => absurd w2 w⟩
        rw [nI_add]
        exact n57 (f + 1) (ih (s + 1) (f + 1) (by omega) (by omega))
    · simp only [pick]
      rw [if_neg (by rw [z]; decide)]
      exact n57 f (ih (s + 1) f (by omega) (by omega))
theorem c_L_listedLoad0 {n : Nat} (hp : isLn h a N fx (2 ^ n - 1) (nI C) us F G) (hN : N ≤ 4096) (hW : 2 ^ n ≤ N) (hF : ∀ k s, F k s ≤ 2000000) (i : Int32) : MA M_L_listedLoad [.ref a, .int i, .int (nI 0)] h (some (.int (pick (fun s => decide (F 7 s = 0)) i (2 ^ n - 1) 1 0))) h := by
  have hpn := Nat.two_pow_pos n
  refine MX.of (lv := [some (.ref a), some (.int i), some (.int (nI 0)), none, none]) 2 rfl (by decide) (Nat.le_of_ble_eq_true rfl) (sn_L_listedLoad_0 _ _ _ ?_)
  simp only [vc_L_listedLoad_0, vc_L_listedLoad_8, qi_push, qi_pushl, qi_iload, qi_lload, qi_aload, qi_istore, qi_astore, qi_lstore, qi_iinc, qi_iadd, qi_isub, qi_imul, qi_iand, qi_ior, qi_ixor, qi_ishl, qi_ishr, qi_iushr, qi_idiv, qi_irem, qi_lor, qi_lmul, qi_ladd, qi_lsub, qi_land, qi_lshl, qi_lshr, qi_i2l, qi_l2i, qi_i2c, qi_lcmp, qi_dup, qi_dup2, qi_pop, qi_if_eq, qi_icmp_eq, qi_if_ne, qi_icmp_ne, qi_if_lt, qi_icmp_lt, qi_if_ge, qi_icmp_ge, qi_if_gt, qi_icmp_gt, qi_if_le, qi_icmp_le, qi_sw, qi_get, qi_put, qi_iald, qi_lald, qi_aald, qi_iast, qi_zast, qi_cast, qi_last, qi_aast, qi_alen, qi_new, qi_newa, qi_newq, qi_obj, qi_invS, qi_invV, qi_invI, qi_iret, qi_zret, qi_lret, qi_vret, qi_acopy, qi_max, qi_min, at_o, at_i, at_l, at_q, at_a, lget, lset, lclr, lnon, lnth, spl, shrt, rpush, true_and, and_true, List.set, List.length, Nat.reduceAdd, Nat.reduceLT, Nat.reduceLeDiff, Nat.reduceEqDiff, Nat.reduceSub]
  have := listed13 hp hN hW hF i false (h0 := h) (2 ^ n - 1) 1 0 (by omega) (by omega)
  rw [show pick (fun s => decide (F 7 s = 0) && !(false && decide (F 10 s ≠ 0))) i (2 ^ n - 1) 1 0 = pick (fun s => decide (F 7 s = 0)) i (2 ^ n - 1) 1 0 from pick_c _ _ _ (fun t _ _ => by simp)] at this
  exact ⟨fun _ => this, fun z => absurd rfl z⟩
theorem c_L_listedLoad1 {n : Nat} (hp : isLn h a N fx (2 ^ n - 1) (nI C) us F G) (hN : N ≤ 4096) (hn : n ≤ 12) (hW : 2 ^ n ≤ N) (hF : ∀ k s, F k s ≤ 2000000) (i : Int32) : ∃ h' cv, MA M_L_listedLoad [.ref a, .int i, .int (nI 1)] h (some (.int (pick (fun s => decide (F 7 s = 0) && !decide (cv s ≠ 0)) i (2 ^ n - 1) 1 0))) h' ∧ isLn h' a N fx (2 ^ n - 1) (nI C) us (va_up F 10 cv) G ∧ frm h h' a 13 ∧ (∀ s, 1 ≤ s → s < 2 ^ n → isCv (F 7) n cv s) ∧ ∀ s, cv s ≤ 2000000 := by
  have hpn := Nat.two_pow_pos n
  obtain ⟨h', cv, d1, d2, d3, d4, d5⟩ := c_L_findCovered hp hN hn hW hF
  refine ⟨h', cv, MX.of (lv := [some (.ref a), some (.int i), some (.int (nI 1)), none, none]) 2 rfl (by decide) (Nat.le_of_ble_eq_true rfl) (sn_L_listedLoad_0 _ _ _ ?_), d2, d3, d4, d5⟩
  have e0 := hp.1
  simp only [vc_L_listedLoad_0, vc_L_listedLoad_8, qi_push, qi_pushl, qi_iload, qi_lload, qi_aload, qi_istore, qi_astore, qi_lstore, qi_iinc, qi_iadd, qi_isub, qi_imul, qi_iand, qi_ior, qi_ixor, qi_ishl, qi_ishr, qi_iushr, qi_idiv, qi_irem, qi_lor, qi_lmul, qi_ladd, qi_lsub, qi_land, qi_lshl, qi_lshr, qi_i2l, qi_l2i, qi_i2c, qi_lcmp, qi_dup, qi_dup2, qi_pop, qi_if_eq, qi_icmp_eq, qi_if_ne, qi_icmp_ne, qi_if_lt, qi_icmp_lt, qi_if_ge, qi_icmp_ge, qi_if_gt, qi_icmp_gt, qi_if_le, qi_icmp_le, qi_sw, qi_get, qi_put, qi_iald, qi_lald, qi_aald, qi_iast, qi_zast, qi_cast, qi_last, qi_aast, qi_alen, qi_new, qi_newa, qi_newq, qi_obj, qi_invS, qi_invV, qi_invI, qi_iret, qi_zret, qi_lret, qi_vret, qi_acopy, qi_max, qi_min, at_o, at_i, at_l, at_q, at_a, lget, lset, lclr, lnon, lnth, spl, shrt, rpush, true_and, and_true, List.set, List.length, Nat.reduceAdd, Nat.reduceLT, Nat.reduceLeDiff, Nat.reduceEqDiff, Nat.reduceSub, e0]
  have := listed13 d2 hN hW (up_le hF d5) i true (h0 := h) (2 ^ n - 1) 1 0 (by omega) (by omega)
  rw [show pick (fun s => decide (va_up F 10 cv 7 s = 0) && !(true && decide (va_up F 10 cv 10 s ≠ 0))) i (2 ^ n - 1) 1 0 = pick (fun s => decide (F 7 s = 0) && !decide (cv s ≠ 0)) i (2 ^ n - 1) 1 0 from pick_c _ _ _ (fun t _ _ => by rw [Bool.true_and]; rfl)] at this
  refine ⟨fun z => absurd z (by decide), fun _ => ⟨_, _, d1, ?_⟩⟩
  simp only [qi_push, qi_pushl, qi_iload, qi_lload, qi_aload, qi_istore, qi_astore, qi_lstore, qi_iinc, qi_iadd, qi_isub, qi_imul, qi_iand, qi_ior, qi_ixor, qi_ishl, qi_ishr, qi_iushr, qi_idiv, qi_irem, qi_lor, qi_lmul, qi_ladd, qi_lsub, qi_land, qi_lshl, qi_lshr, qi_i2l, qi_l2i, qi_i2c, qi_lcmp, qi_dup, qi_dup2, qi_pop, qi_if_eq, qi_icmp_eq, qi_if_ne, qi_icmp_ne, qi_if_lt, qi_icmp_lt, qi_if_ge, qi_icmp_ge, qi_if_gt, qi_icmp_gt, qi_if_le, qi_icmp_le, qi_sw, qi_get, qi_put, qi_iald, qi_lald, qi_aald, qi_iast, qi_zast, qi_cast, qi_last, qi_aast, qi_alen, qi_new, qi_newa, qi_newq, qi_obj, qi_invS, qi_invV, qi_invI, qi_iret, qi_zret, qi_lret, qi_vret, qi_acopy, qi_max, qi_min, at_o, at_i, at_l, at_q, at_a, lget, lset, lclr, lnon, lnth, spl, shrt, rpush, true_and, and_true, List.set, List.length, Nat.reduceAdd, Nat.reduceLT, Nat.reduceLeDiff, Nat.reduceEqDiff, Nat.reduceSub]
  exact this
end LN
set_option maxRecDepth 20000 in
set_option maxHeartbeats 2000000 in
theorem c_L_init {h : hc_H} {a n : Nat} (hn : n ≤ 12) (hp : h.1 a = some (.inr (0, [.null, .null, .null, .null, .null, .null, .null, .null, .null, .null, .null, .null, .int 0, .int 0, .int 0, .int 0]))) (h2 : h.2.1 = a + 1) : ∃ h', MA M_L_init [.ref a, .int (nI n)] h none h' ∧ isLn h' a (2 ^ n) 0 0 (nI 0) 0 (fun _ _ => 0) (fun _ _ => 0) ∧ frA h h' a 13 (27 + 10 * 2 ^ n) := by
  have l12 : 2 ^ n ≤ 2 ^ 12 := Nat.pow_le_pow_right (by omega) hn
  obtain ⟨N, eN⟩ : ∃ N, 2 ^ n = N := ⟨_, rfl⟩
  rw [eN] at l12 ⊢
  let f0 : List Value := [.null, .null, .null, .null, .null, .null, .null, .null, .null, .null, .null, .null, .int 0, .int 0, .int 0, .int 0]
  let n1 := nst h 0 13 a 0 10 f0
  let f1 := f0.set 10 (.ref h.2.1)
  let n2 := nst n1 0 14 a 0 11 f1
  let f2 := f1.set 11 (.ref n1.2.1)
  let n3 := nst n2 0 N a 0 0 f2
  let f3 := f2.set 0 (.ref n2.2.1)
  let n4 := nst n3 0 N a 0 1 f3
  let f4 := f3.set 1 (.ref n3.2.1)
  let n5 := nst n4 0 N a 0 2 f4
  let f5 := f4.set 2 (.ref n4.2.1)
  let n6 := nst n5 0 N a 0 3 f5
  let f6 := f5.set 3 (.ref n5.2.1)
  let n7 := nst n6 0 N a 0 4 f6
  let f7 := f6.set 4 (.ref n6.2.1)
  let n8 := nst n7 0 N a 0 5 f7
  let f8 := f7.set 5 (.ref n7.2.1)
  let n9 := nst n8 0 N a 0 6 f8
  let f9 := f8.set 6 (.ref n8.2.1)
  let n10 := nst n9 1 N a 0 7 f9
  let f10 := f9.set 7 (.ref n9.2.1)
  let n11 := nst n10 2 N a 0 8 f10
  let f11 := f10.set 8 (.ref n10.2.1)
  let n12 := nst n11 2 N a 0 9 f11
  let f12 := f11.set 9 (.ref n11.2.1)
  refine ⟨n12, MX.of (lv := [some (.ref a), some (.int (nI n)), none]) 1 rfl (by decide) (Nat.le_of_ble_eq_true rfl) (sn_L_init_0 _ _ _ ?_), ?_, ?_⟩
  · simp only [vc_L_init_0, qi_aload, qi_obj, qi_push, lget, shrt, true_and]
    refine nst_ok hp (by omega) (by simp) (by omega) ?_
    simp only [qi_aload, qi_push, lget]
    refine nst_ok (nst_p ..) (by rw [nst_21]; omega) (by simp) (by omega) ?_
    simp only [qi_aload, qi_push, qi_iload, qi_min, qi_max, qi_ishl, qi_istore, lget, lset, List.set, List.length, Nat.reduceLT, true_and]
    rw [ni_min (by omega) (by omega), ni_max (by omega) (by omega), Nat.min_eq_left hn, Nat.zero_max, ni_1shl (by omega), eN]
    simp only [qi_istore, lset, lclr, lnon, List.set, List.length, Nat.reduceLT, Nat.reduceAdd, true_and, and_true, qi_aload, qi_iload, lget, shrt]
    refine nst_ok (nst_p ..) (by simp only [nst_21]; omega) (by simp) (by omega) ?_
    simp only [qi_aload, qi_iload, lget]
    refine nst_ok (nst_p ..) (by simp only [nst_21]; omega) (by simp) (by omega) ?_
    simp only [qi_aload, qi_iload, lget]
    refine nst_ok (nst_p ..) (by simp only [nst_21]; omega) (by simp) (by omega) ?_
    simp only [qi_aload, qi_iload, lget]
    refine nst_ok (nst_p ..) (by simp only [nst_21]; omega) (by simp) (by omega) ?_
    simp only [qi_aload, qi_iload, lget]
    refine nst_ok (nst_p ..) (by simp only [nst_21]; omega) (by simp) (by omega) ?_
    simp only [qi_aload, qi_iload, lget]
    refine nst_ok (nst_p ..) (by simp only [nst_21]; omega) (by simp) (by omega) ?_
    simp only [qi_aload, qi_iload, lget]
    refine nst_ok (nst_p ..) (by simp only [nst_21]; omega) (by simp) (by omega) ?_
    simp only [qi_aload, qi_iload, lget]
    refine nst_ok (nst_p ..) (by simp only [nst_21]; omega) (by simp) (by omega) ?_
    simp only [qi_aload, qi_iload, lget]
    refine nst_ok (nst_p ..) (by simp only [nst_21]; omega) (by simp) (by omega) ?_
    simp only [qi_aload, qi_iload, lget]
    refine nst_ok (nst_p ..) (by simp only [nst_21]; omega) (by simp) (by omega) ?_
    simp only [qi_vret]
    exact ⟨trivial, rfl⟩
  · unfold isLn
    refine ⟨?_, ?_, ?_, ?_, ?_, ?_, ?_, ?_, ?_, ?_, ?_, ?_, ?_⟩ <;> first | (simp [n12, n11, n10, n9, n8, n7, n6, n5, n4, n3, n2, n1, f12, f11, f10, f9, f8, f7, f6, f5, f4, f3, f2, f1, f0, nst_at, nst_21, h2, nI_0]; done) | (simp [n12, n11, n10, n9, n8, n7, n6, n5, n4, n3, n2, n1, nst_at, nst_21, h2]; rfl)
  · refine ⟨?_, fun q hq => ?_⟩
    · simp [n12, n11, n10, n9, n8, n7, n6, n5, n4, n3, n2, n1, nst_2, h2]; omega
    · simp only [n12, n11, n10, n9, n8, n7, n6, n5, n4, n3, n2, n1, nst_at, nst_21, h2]
      rw [if_neg (by omega), if_neg (by omega), if_neg (by omega), if_neg (by omega), if_neg (by omega), if_neg (by omega), if_neg (by omega), if_neg (by omega), if_neg (by omega), if_neg (by omega), if_neg (by omega), if_neg (by omega), if_neg (by omega), if_neg (by omega), if_neg (by omega), if_neg (by omega), if_neg (by omega), if_neg (by omega), if_neg (by omega), if_neg (by omega), if_neg (by omega), if_neg (by omega), if_neg (by omega), if_neg (by omega)]
