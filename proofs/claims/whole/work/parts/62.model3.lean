/-! THE MODEL: what is put by, why not. -/
section MO
variable {h : hc_H} {m len um sp fs n C : Nat} {X : Nat → Nat → Nat} {Q : Nat → Int32} {T B A J S : Nat → Nat}
theorem c_R_all (hr : isR h m len um sp fs X Q) (h0 : X 2 0 = n) (hn : n ≤ 12) : MA M_R_all [.ref m] h (some (.int (nI (2 ^ n - 1)))) h := by
  have o0 := hr.1
  have o2 := hr.2.2.1
  refine MX.of (lv := [some (.ref m)]) 0 rfl (by decide) (Nat.le_of_ble_eq_true rfl) (sn_R_all_0 _ _ _ ?_)
  simp only [vc_R_all_0, qi_push, qi_pushl, qi_iload, qi_lload, qi_aload, qi_istore, qi_astore, qi_lstore, qi_iinc, qi_iadd, qi_isub, qi_imul, qi_iand, qi_ior, qi_ixor, qi_ishl, qi_ishr, qi_iushr, qi_idiv, qi_irem, qi_lor, qi_lmul, qi_ladd, qi_lsub, qi_land, qi_lshl, qi_lshr, qi_i2l, qi_l2i, qi_i2c, qi_lcmp, qi_dup, qi_dup2, qi_pop, qi_if_eq, qi_icmp_eq, qi_if_ne, qi_icmp_ne, qi_if_lt, qi_icmp_lt, qi_if_ge, qi_icmp_ge, qi_if_gt, qi_icmp_gt, qi_if_le, qi_icmp_le, qi_sw, qi_get, qi_put, qi_iald, qi_lald, qi_aald, qi_iast, qi_zast, qi_cast, qi_last, qi_aast, qi_alen, qi_new, qi_newa, qi_newq, qi_obj, qi_invS, qi_invV, qi_invI, qi_iret, qi_zret, qi_lret, qi_vret, qi_acopy, qi_max, qi_min, at_o, at_i, at_l, at_q, at_a, lget, lset, lclr, lnon, lnth, spl, shrt, rpush, true_and, and_true, List.set, List.length, Nat.reduceAdd, Nat.reduceLT, Nat.reduceLeDiff, Nat.reduceEqDiff, Nat.reduceSub, o0, o2, r0, h0]
  refine ⟨vp_in_nI (by omega) (by omega), ?_⟩
  rw [ni_every hn]
theorem c_R_farBehind (hr : isR h m len um sp fs X Q) (hX : X 2 = rowP n C T B A J S) (hw : pw n T B A J S) {t : Nat} (ht : t < 12) : MA M_R_farBehind [.ref m, .int (nI t)] h (some (.int (nI (bset (fun k => (aa_r B 12 (B k) 12).testBit t) n)))) h := by
  have o0 := hr.1
  have o2 := hr.2.2.1
  rw [hX] at o2
  have hn := hw.1
  have loop := lp_up (P := fun k => cx hc_tt M_R_farBehind h h (some (.int (nI (bset (fun k => (aa_r B 12 (B k) 12).testBit t) n)))) 4 [some (.ref m), some (.int (nI t)), some (.int (nI (bset (fun k => (aa_r B 12 (B k) 12).testBit t) k))), some (.int (nI k))] [] h) (n := n)
    (by refine sn_R_farBehind_4 _ _ _ ?_
        simp only [vc_R_farBehind_4, vc_R_farBehind_45, qi_push, qi_pushl, qi_iload, qi_lload, qi_aload, qi_istore, qi_astore, qi_lstore, qi_iinc, qi_iadd, qi_isub, qi_imul, qi_iand, qi_ior, qi_ixor, qi_ishl, qi_ishr, qi_iushr, qi_idiv, qi_irem, qi_lor, qi_lmul, qi_ladd, qi_lsub, qi_land, qi_lshl, qi_lshr, qi_i2l, qi_l2i, qi_i2c, qi_lcmp, qi_dup, qi_dup2, qi_pop, qi_if_eq, qi_icmp_eq, qi_if_ne, qi_icmp_ne, qi_if_lt, qi_icmp_lt, qi_if_ge, qi_icmp_ge, qi_if_gt, qi_icmp_gt, qi_if_le, qi_icmp_le, qi_sw, qi_get, qi_put, qi_iald, qi_lald, qi_aald, qi_iast, qi_zast, qi_cast, qi_last, qi_aast, qi_alen, qi_new, qi_newa, qi_newq, qi_obj, qi_invS, qi_invV, qi_invI, qi_iret, qi_zret, qi_lret, qi_vret, qi_acopy, qi_max, qi_min, at_o, at_i, at_l, at_q, at_a, lget, lset, lclr, lnon, lnth, spl, shrt, rpush, true_and, and_true, List.set, List.length, Nat.reduceAdd, Nat.reduceLT, Nat.reduceLeDiff, Nat.reduceEqDiff, Nat.reduceSub, o0, o2, r0, rp_0]
        exact ⟨vp_in_nI (by omega) (by omega), fun _ => trivial, fun c => absurd (nI_le (Nat.le_refl _) (by omega)) c⟩)
    (fun k hk ih => by
        have lB := aa_r_lt2 (n := 12) hw.2.2.1 (hw.2.2.1 k) 12
        refine sn_R_farBehind_4 _ _ _ ?_
        simp only [vc_R_farBehind_4, vc_R_farBehind_36, vc_R_farBehind_37, qi_push, qi_pushl, qi_iload, qi_lload, qi_aload, qi_istore, qi_astore, qi_lstore, qi_iinc, qi_iadd, qi_isub, qi_imul, qi_iand, qi_ior, qi_ixor, qi_ishl, qi_ishr, qi_iushr, qi_idiv, qi_irem, qi_lor, qi_lmul, qi_ladd, qi_lsub, qi_land, qi_lshl, qi_lshr, qi_i2l, qi_l2i, qi_i2c, qi_lcmp, qi_dup, qi_dup2, qi_pop, qi_if_eq, qi_icmp_eq, qi_if_ne, qi_icmp_ne, qi_if_lt, qi_icmp_lt, qi_if_ge, qi_icmp_ge, qi_if_gt, qi_icmp_gt, qi_if_le, qi_icmp_le, qi_sw, qi_get, qi_put, qi_iald, qi_lald, qi_aald, qi_iast, qi_zast, qi_cast, qi_last, qi_aast, qi_alen, qi_new, qi_newa, qi_newq, qi_obj, qi_invS, qi_invV, qi_invI, qi_iret, qi_zret, qi_lret, qi_vret, qi_acopy, qi_max, qi_min, at_o, at_i, at_l, at_q, at_a, lget, lset, lclr, lnon, lnth, spl, shrt, rpush, true_and, and_true, List.set, List.length, Nat.reduceAdd, Nat.reduceLT, Nat.reduceLeDiff, Nat.reduceEqDiff, Nat.reduceSub, o0, o2, r0, rp_0]
        refine ⟨vp_in_nI (by omega) (by omega), fun c => absurd c (nI_ge hk (by omega)), fun _ => ⟨_, _, c_R_allBehind (t := k) o2 (fun x hx => by rw [rp_B hx]) hw.2.2.1 (by omega), ?_⟩⟩
        simp only [qi_push, qi_pushl, qi_iload, qi_lload, qi_aload, qi_istore, qi_astore, qi_lstore, qi_iinc, qi_iadd, qi_isub, qi_imul, qi_iand, qi_ior, qi_ixor, qi_ishl, qi_ishr, qi_iushr, qi_idiv, qi_irem, qi_lor, qi_lmul, qi_ladd, qi_lsub, qi_land, qi_lshl, qi_lshr, qi_i2l, qi_l2i, qi_i2c, qi_lcmp, qi_dup, qi_dup2, qi_pop, qi_if_eq, qi_icmp_eq, qi_if_ne, qi_icmp_ne, qi_if_lt, qi_icmp_lt, qi_if_ge, qi_icmp_ge, qi_if_gt, qi_icmp_gt, qi_if_le, qi_icmp_le, qi_sw, qi_get, qi_put, qi_iald, qi_lald, qi_aald, qi_iast, qi_zast, qi_cast, qi_last, qi_aast, qi_alen, qi_new, qi_newa, qi_newq, qi_obj, qi_invS, qi_invV, qi_invI, qi_iret, qi_zret, qi_lret, qi_vret, qi_acopy, qi_max, qi_min, at_o, at_i, at_l, at_q, at_a, lget, lset, lclr, lnon, lnth, spl, shrt, rpush, true_and, and_true, List.set, List.length, Nat.reduceAdd, Nat.reduceLT, Nat.reduceLeDiff, Nat.reduceEqDiff, Nat.reduceSub]
        refine ⟨_, _, c_R_has h (show aa_r B 12 (B k) 12 < 2 ^ 31 by omega) (show t < 31 by omega), ?_⟩
        simp only [qi_push, qi_pushl, qi_iload, qi_lload, qi_aload, qi_istore, qi_astore, qi_lstore, qi_iinc, qi_iadd, qi_isub, qi_imul, qi_iand, qi_ior, qi_ixor, qi_ishl, qi_ishr, qi_iushr, qi_idiv, qi_irem, qi_lor, qi_lmul, qi_ladd, qi_lsub, qi_land, qi_lshl, qi_lshr, qi_i2l, qi_l2i, qi_i2c, qi_lcmp, qi_dup, qi_dup2, qi_pop, qi_if_eq, qi_icmp_eq, qi_if_ne, qi_icmp_ne, qi_if_lt, qi_icmp_lt, qi_if_ge, qi_icmp_ge, qi_if_gt, qi_icmp_gt, qi_if_le, qi_icmp_le, qi_sw, qi_get, qi_put, qi_iald, qi_lald, qi_aald, qi_iast, qi_zast, qi_cast, qi_last, qi_aast, qi_alen, qi_new, qi_newa, qi_newq, qi_obj, qi_invS, qi_invV, qi_invI, qi_iret, qi_zret, qi_lret, qi_vret, qi_acopy, qi_max, qi_min, at_o, at_i, at_l, at_q, at_a, lget, lset, lclr, lnon, lnth, spl, shrt, rpush, true_and, and_true, List.set, List.length, Nat.reduceAdd, Nat.reduceLT, Nat.reduceLeDiff, Nat.reduceEqDiff, Nat.reduceSub]
        rw [ni_1shl (by omega), ni_or, ni_or, Nat.or_zero, nI_add, nb_eq0]
        have e : bset (fun k => (aa_r B 12 (B k) 12).testBit t) (k + 1) = if (aa_r B 12 (B k) 12).testBit t then bset (fun k => (aa_r B 12 (B k) 12).testBit t) k ||| 2 ^ k else bset (fun k => (aa_r B 12 (B k) 12).testBit t) k := rfl
        refine ⟨fun c => ?_, fun c => ?_⟩
        · rw [if_neg (by rw [c]; decide)] at e
          rw [← e]; exact ih
        · rw [if_pos (by cases w : (aa_r B 12 (B k) 12).testBit t; exact absurd w c; rfl)] at e
          rw [← e]; exact ih)
  refine MX.of (lv := [some (.ref m), some (.int (nI t)), none, none]) 2 rfl (by decide) (Nat.le_of_ble_eq_true rfl) (sn_R_farBehind_0 _ _ _ ?_)
  simp only [vc_R_farBehind_0, qi_push, qi_pushl, qi_iload, qi_lload, qi_aload, qi_istore, qi_astore, qi_lstore, qi_iinc, qi_iadd, qi_isub, qi_imul, qi_iand, qi_ior, qi_ixor, qi_ishl, qi_ishr, qi_iushr, qi_idiv, qi_irem, qi_lor, qi_lmul, qi_ladd, qi_lsub, qi_land, qi_lshl, qi_lshr, qi_i2l, qi_l2i, qi_i2c, qi_lcmp, qi_dup, qi_dup2, qi_pop, qi_if_eq, qi_icmp_eq, qi_if_ne, qi_icmp_ne, qi_if_lt, qi_icmp_lt, qi_if_ge, qi_icmp_ge, qi_if_gt, qi_icmp_gt, qi_if_le, qi_icmp_le, qi_sw, qi_get, qi_put, qi_iald, qi_lald, qi_aald, qi_iast, qi_zast, qi_cast, qi_last, qi_aast, qi_alen, qi_new, qi_newa, qi_newq, qi_obj, qi_invS, qi_invV, qi_invI, qi_iret, qi_zret, qi_lret, qi_vret, qi_acopy, qi_max, qi_min, at_o, at_i, at_l, at_q, at_a, lget, lset, lclr, lnon, lnth, spl, shrt, rpush, true_and, and_true, List.set, List.length, Nat.reduceAdd, Nat.reduceLT, Nat.reduceLeDiff, Nat.reduceEqDiff, Nat.reduceSub]
  exact loop 0 (Nat.zero_le _)
theorem popc_12 {s : Nat} (h : s < 4096) : popc s 13 = popc s 12 := by
  show popc s 12 + (s.testBit 12).toNat = _
  rw [tb_ge (k := 12) (by omega) (by omega)]
  rfl
theorem c_R_ordersMany (hr : isR h m len um sp fs X Q) (hX : X 2 = rowP n C T B A J S) (hw : pw n T B A J S) : MA M_R_ordersMany [.ref m] h (some (.int (nI (osum B n)))) h := by
  have o0 := hr.1
  have o2 := hr.2.2.1
  rw [hX] at o2
  have hn := hw.1
  have loop := lp_up (P := fun k => cx hc_tt M_R_ordersMany h h (some (.int (nI (osum B n)))) 4 [some (.ref m), some (.int (nI (osum B k))), some (.int (nI k))] [] h) (n := n)
    (by refine sn_R_ordersMany_4 _ _ _ ?_
        simp only [vc_R_ordersMany_4, vc_R_ordersMany_35, qi_push, qi_pushl, qi_iload, qi_lload, qi_aload, qi_istore, qi_astore, qi_lstore, qi_iinc, qi_iadd, qi_isub, qi_imul, qi_iand, qi_ior, qi_ixor, qi_ishl, qi_ishr, qi_iushr, qi_idiv, qi_irem, qi_lor, qi_lmul, qi_ladd, qi_lsub, qi_land, qi_lshl, qi_lshr, qi_i2l, qi_l2i, qi_i2c, qi_lcmp, qi_dup, qi_dup2, qi_pop, qi_if_eq, qi_icmp_eq, qi_if_ne, qi_icmp_ne, qi_if_lt, qi_icmp_lt, qi_if_ge, qi_icmp_ge, qi_if_gt, qi_icmp_gt, qi_if_le, qi_icmp_le, qi_sw, qi_get, qi_put, qi_iald, qi_lald, qi_aald, qi_iast, qi_zast, qi_cast, qi_last, qi_aast, qi_alen, qi_new, qi_newa, qi_newq, qi_obj, qi_invS, qi_invV, qi_invI, qi_iret, qi_zret, qi_lret, qi_vret, qi_acopy, qi_max, qi_min, at_o, at_i, at_l, at_q, at_a, lget, lset, lclr, lnon, lnth, spl, shrt, rpush, true_and, and_true, List.set, List.length, Nat.reduceAdd, Nat.reduceLT, Nat.reduceLeDiff, Nat.reduceEqDiff, Nat.reduceSub, o0, o2, r0, rp_0]
        exact ⟨vp_in_nI (by omega) (by omega), fun _ => trivial, fun c => absurd (nI_le (Nat.le_refl _) (by omega)) c⟩)
    (fun k hk ih => by
        have lB := hw.2.2.1 k
        refine sn_R_ordersMany_4 _ _ _ ?_
        simp only [vc_R_ordersMany_4, qi_push, qi_pushl, qi_iload, qi_lload, qi_aload, qi_istore, qi_astore, qi_lstore, qi_iinc, qi_iadd, qi_isub, qi_imul, qi_iand, qi_ior, qi_ixor, qi_ishl, qi_ishr, qi_iushr, qi_idiv, qi_irem, qi_lor, qi_lmul, qi_ladd, qi_lsub, qi_land, qi_lshl, qi_lshr, qi_i2l, qi_l2i, qi_i2c, qi_lcmp, qi_dup, qi_dup2, qi_pop, qi_if_eq, qi_icmp_eq, qi_if_ne, qi_icmp_ne, qi_if_lt, qi_icmp_lt, qi_if_ge, qi_icmp_ge, qi_if_gt, qi_icmp_gt, qi_if_le, qi_icmp_le, qi_sw, qi_get, qi_put, qi_iald, qi_lald, qi_aald, qi_iast, qi_zast, qi_cast, qi_last, qi_aast, qi_alen, qi_new, qi_newa, qi_newq, qi_obj, qi_invS, qi_invV, qi_invI, qi_iret, qi_zret, qi_lret, qi_vret, qi_acopy, qi_max, qi_min, at_o, at_i, at_l, at_q, at_a, lget, lset, lclr, lnon, lnth, spl, shrt, rpush, true_and, and_true, List.set, List.length, Nat.reduceAdd, Nat.reduceLT, Nat.reduceLeDiff, Nat.reduceEqDiff, Nat.reduceSub, o0, o2, r0, rp_0]
        rw [nI_add, nI_clamp (by omega), rp_B (show k < 12 by omega)]
        refine ⟨vp_in_nI (by omega) (by omega), fun c => absurd c (nI_ge hk (by omega)), fun _ => ⟨vp_in_nI (by omega) (by omega), _, _, c_R_ones h (show B k < 2 ^ 31 by omega), ?_⟩⟩
        simp only [qi_push, qi_pushl, qi_iload, qi_lload, qi_aload, qi_istore, qi_astore, qi_lstore, qi_iinc, qi_iadd, qi_isub, qi_imul, qi_iand, qi_ior, qi_ixor, qi_ishl, qi_ishr, qi_iushr, qi_idiv, qi_irem, qi_lor, qi_lmul, qi_ladd, qi_lsub, qi_land, qi_lshl, qi_lshr, qi_i2l, qi_l2i, qi_i2c, qi_lcmp, qi_dup, qi_dup2, qi_pop, qi_if_eq, qi_icmp_eq, qi_if_ne, qi_icmp_ne, qi_if_lt, qi_icmp_lt, qi_if_ge, qi_icmp_ge, qi_if_gt, qi_icmp_gt, qi_if_le, qi_icmp_le, qi_sw, qi_get, qi_put, qi_iald, qi_lald, qi_aald, qi_iast, qi_zast, qi_cast, qi_last, qi_aast, qi_alen, qi_new, qi_newa, qi_newq, qi_obj, qi_invS, qi_invV, qi_invI, qi_iret, qi_zret, qi_lret, qi_vret, qi_acopy, qi_max, qi_min, at_o, at_i, at_l, at_q, at_a, lget, lset, lclr, lnon, lnth, spl, shrt, rpush, true_and, and_true, List.set, List.length, Nat.reduceAdd, Nat.reduceLT, Nat.reduceLeDiff, Nat.reduceEqDiff, Nat.reduceSub]
        rw [nI_add, nI_add, ← popc_12 lB]
        exact ih)
  refine MX.of (lv := [some (.ref m), none, none]) 2 rfl (by decide) (Nat.le_of_ble_eq_true rfl) (sn_R_ordersMany_0 _ _ _ ?_)
  simp only [vc_R_ordersMany_0, qi_push, qi_pushl, qi_iload, qi_lload, qi_aload, qi_istore, qi_astore, qi_lstore, qi_iinc, qi_iadd, qi_isub, qi_imul, qi_iand, qi_ior, qi_ixor, qi_ishl, qi_ishr, qi_iushr, qi_idiv, qi_irem, qi_lor, qi_lmul, qi_ladd, qi_lsub, qi_land, qi_lshl, qi_lshr, qi_i2l, qi_l2i, qi_i2c, qi_lcmp, qi_dup, qi_dup2, qi_pop, qi_if_eq, qi_icmp_eq, qi_if_ne, qi_icmp_ne, qi_if_lt, qi_icmp_lt, qi_if_ge, qi_icmp_ge, qi_if_gt, qi_icmp_gt, qi_if_le, qi_icmp_le, qi_sw, qi_get, qi_put, qi_iald, qi_lald, qi_aald, qi_iast, qi_zast, qi_cast, qi_last, qi_aast, qi_alen, qi_new, qi_newa, qi_newq, qi_obj, qi_invS, qi_invV, qi_invI, qi_iret, qi_zret, qi_lret, qi_vret, qi_acopy, qi_max, qi_min, at_o, at_i, at_l, at_q, at_a, lget, lset, lclr, lnon, lnth, spl, shrt, rpush, true_and, and_true, List.set, List.length, Nat.reduceAdd, Nat.reduceLT, Nat.reduceLeDiff, Nat.reduceEqDiff, Nat.reduceSub]
  exact loop 0 (Nat.zero_le _)
/-- put earlier (by = -1), later (1), or elsewhere (0) -/
def pby (S : Nat → Nat) (s : Nat) (by' : Int32) (x : Nat) : Bool := decide (S x ≠ 0) && (if by' < 0 then decide (S x < s) else if 0 < by' then decide (s < S x) else decide (S x ≠ s))
theorem c_R_putBy (hr : isR h m len um sp fs X Q) (hX : X 2 = rowP n C T B A J S) (hw : pw n T B A J S) {s : Nat} (hs : s < 100) (y : Int32) : MA M_R_putBy [.ref m, .int (nI s), .int y] h (some (.int (nI (bset (pby S s y) n)))) h := by
  have o0 := hr.1
  have o2 := hr.2.2.1
  rw [hX] at o2
  have hn := hw.1
  have loop := lp_up (P := fun k => ∀ u v, cx hc_tt M_R_putBy h h (some (.int (nI (bset (pby S s y) n)))) 5 [some (.ref m), some (.int (nI s)), some (.int y), some (.int (nI (bset (pby S s y) k))), some (.int (nI k)), u, v] [] h) (n := n)
    (fun u v => by
        refine sn_R_putBy_5 _ _ _ ?_
        simp only [vc_R_putBy_5, vc_R_putBy_94, qi_push, qi_pushl, qi_iload, qi_lload, qi_aload, qi_istore, qi_astore, qi_lstore, qi_iinc, qi_iadd, qi_isub, qi_imul, qi_iand, qi_ior, qi_ixor, qi_ishl, qi_ishr, qi_iushr, qi_idiv, qi_irem, qi_lor, qi_lmul, qi_ladd, qi_lsub, qi_land, qi_lshl, qi_lshr, qi_i2l, qi_l2i, qi_i2c, qi_lcmp, qi_dup, qi_dup2, qi_pop, qi_if_eq, qi_icmp_eq, qi_if_ne, qi_icmp_ne, qi_if_lt, qi_icmp_lt, qi_if_ge, qi_icmp_ge, qi_if_gt, qi_icmp_gt, qi_if_le, qi_icmp_le, qi_sw, qi_get, qi_put, qi_iald, qi_lald, qi_aald, qi_iast, qi_zast, qi_cast, qi_last, qi_aast, qi_alen, qi_new, qi_newa, qi_newq, qi_obj, qi_invS, qi_invV, qi_invI, qi_iret, qi_zret, qi_lret, qi_vret, qi_acopy, qi_max, qi_min, at_o, at_i, at_l, at_q, at_a, lget, lset, lclr, lnon, lnth, spl, shrt, rpush, true_and, and_true, List.set, List.length, Nat.reduceAdd, Nat.reduceLT, Nat.reduceLeDiff, Nat.reduceEqDiff, Nat.reduceSub, o0, o2, r0, rp_0]
        exact ⟨vp_in_nI (by omega) (by omega), fun _ => trivial, fun c => absurd (nI_le (Nat.le_refl _) (by omega)) c⟩)
    (fun k hk ih u v => by
        have lS := hw.2.2.2.2.2 k
        have e : bset (pby S s y) (k + 1) = if pby S s y k then bset (pby S s y) k ||| 2 ^ k else bset (pby S s y) k := rfl
        have k70 : ∀ b : Bool, b = pby S s y k → ∀ v, vc_R_putBy_70 (some (.int (nI (bset (pby S s y) n)))) h (cx hc_tt M_R_putBy h h (some (.int (nI (bset (pby S s y) n))))) [some (.ref m), some (.int (nI s)), some (.int y), some (.int (nI (bset (pby S s y) k))), some (.int (nI k)), some (.int (nI (S k))), v] [.int (nI b.toNat)] h := by
          intro b hb v
          simp only [vc_R_putBy_70, vc_R_putBy_85, vc_R_putBy_86, qi_push, qi_pushl, qi_iload, qi_lload, qi_aload, qi_istore, qi_astore, qi_lstore, qi_iinc, qi_iadd, qi_isub, qi_imul, qi_iand, qi_ior, qi_ixor, qi_ishl, qi_ishr, qi_iushr, qi_idiv, qi_irem, qi_lor, qi_lmul, qi_ladd, qi_lsub, qi_land, qi_lshl, qi_lshr, qi_i2l, qi_l2i, qi_i2c, qi_lcmp, qi_dup, qi_dup2, qi_pop, qi_if_eq, qi_icmp_eq, qi_if_ne, qi_icmp_ne, qi_if_lt, qi_icmp_lt, qi_if_ge, qi_icmp_ge, qi_if_gt, qi_icmp_gt, qi_if_le, qi_icmp_le, qi_sw, qi_get, qi_put, qi_iald, qi_lald, qi_aald, qi_iast, qi_zast, qi_cast, qi_last, qi_aast, qi_alen, qi_new, qi_newa, qi_newq, qi_obj, qi_invS, qi_invV, qi_invI, qi_iret, qi_zret, qi_lret, qi_vret, qi_acopy, qi_max, qi_min, at_o, at_i, at_l, at_q, at_a, lget, lset, lclr, lnon, lnth, spl, shrt, rpush, true_and, and_true, List.set, List.length, Nat.reduceAdd, Nat.reduceLT, Nat.reduceLeDiff, Nat.reduceEqDiff, Nat.reduceSub]
          rw [ni_1shl (by omega), ni_or, ni_or, Nat.or_zero, nI_add, nb_eq0]
          refine ⟨fun c => ?_, fun c => ?_⟩
          · rw [if_neg (by rw [← hb, c]; decide)] at e
            rw [← e]; exact ih _ _
          · rw [if_pos (by rw [← hb]; cases b; exact absurd rfl c; rfl)] at e
            rw [← e]; exact ih _ _
        refine sn_R_putBy_5 _ _ _ ?_
        simp only [vc_R_putBy_5, vc_R_putBy_46, vc_R_putBy_59, vc_R_putBy_65, vc_R_putBy_69, qi_push, qi_pushl, qi_iload, qi_lload, qi_aload, qi_istore, qi_astore, qi_lstore, qi_iinc, qi_iadd, qi_isub, qi_imul, qi_iand, qi_ior, qi_ixor, qi_ishl, qi_ishr, qi_iushr, qi_idiv, qi_irem, qi_lor, qi_lmul, qi_ladd, qi_lsub, qi_land, qi_lshl, qi_lshr, qi_i2l, qi_l2i, qi_i2c, qi_lcmp, qi_dup, qi_dup2, qi_pop, qi_if_eq, qi_icmp_eq, qi_if_ne, qi_icmp_ne, qi_if_lt, qi_icmp_lt, qi_if_ge, qi_icmp_ge, qi_if_gt, qi_icmp_gt, qi_if_le, qi_icmp_le, qi_sw, qi_get, qi_put, qi_iald, qi_lald, qi_aald, qi_iast, qi_zast, qi_cast, qi_last, qi_aast, qi_alen, qi_new, qi_newa, qi_newq, qi_obj, qi_invS, qi_invV, qi_invI, qi_iret, qi_zret, qi_lret, qi_vret, qi_acopy, qi_max, qi_min, at_o, at_i, at_l, at_q, at_a, lget, lset, lclr, lnon, lnth, spl, shrt, rpush, true_and, and_true, List.set, List.length, Nat.reduceAdd, Nat.reduceLT, Nat.reduceLeDiff, Nat.reduceEqDiff, Nat.reduceSub, o0, o2, r0, rp_0]
        rw [nI_add, nI_clamp (by omega), rp_S]
        have kf : pby S s y k = false → ∀ v, vc_R_putBy_70 (some (.int (nI (bset (pby S s y) n)))) h (cx hc_tt M_R_putBy h h (some (.int (nI (bset (pby S s y) n))))) [some (.ref m), some (.int (nI s)), some (.int y), some (.int (nI (bset (pby S s y) k))), some (.int (nI k)), some (.int (nI (S k))), v] [.int (nI 0)] h := fun q v => k70 false q.symm v
        have kt : pby S s y k = true → ∀ v, vc_R_putBy_70 (some (.int (nI (bset (pby S s y) n)))) h (cx hc_tt M_R_putBy h h (some (.int (nI (bset (pby S s y) n))))) [some (.ref m), some (.int (nI s)), some (.int y), some (.int (nI (bset (pby S s y) k))), some (.int (nI k)), some (.int (nI (S k))), v] [.int (nI 1)] h := fun q v => k70 true q.symm v
        rw [nI_leI (by omega) (by omega), nI_leI (by omega) (by omega), nI_eq (by omega) (by omega), ← nI_0, nI_leI (by omega) (by omega)]
        refine ⟨vp_in_nI (by omega) (by omega), fun c => absurd c (by omega), fun _ => ⟨vp_in_nI (by omega) (by omega), fun c => kf ?_ _, fun c => ⟨fun c2 => ⟨fun c3 => ⟨fun c4 => kf ?_ _, fun c4 => kt ?_ _⟩, fun c3 => ⟨fun c4 => kf ?_ _, fun c4 => kt ?_ _⟩⟩, fun c2 => ⟨fun c4 => kf ?_ _, fun c4 => kt ?_ _⟩⟩⟩⟩
        · unfold pby; rw [decide_eq_false (by omega)]; rfl
        · rw [nI_0] at c2 c3
          unfold pby
          rw [if_neg (Int32.not_lt.mpr c2), if_neg (Int32.not_lt.mpr c3), decide_eq_false (p := S k ≠ s) (by omega), Bool.and_false]
        · rw [nI_0] at c2 c3
          unfold pby
          rw [if_neg (Int32.not_lt.mpr c2), if_neg (Int32.not_lt.mpr c3), decide_eq_true (p := S k ≠ s) (by omega), decide_eq_true (p := S k ≠ 0) (by omega)]; rfl
        · rw [nI_0] at c2 c3
          unfold pby
          rw [if_neg (Int32.not_lt.mpr c2), if_pos (Int32.not_le.mp c3), decide_eq_false (p := s < S k) (by omega), Bool.and_false]
        · rw [nI_0] at c2 c3
          unfold pby
          rw [if_neg (Int32.not_lt.mpr c2), if_pos (Int32.not_le.mp c3), decide_eq_true (p := s < S k) (by omega), decide_eq_true (p := S k ≠ 0) (by omega)]; rfl
        · rw [nI_0] at c2
          have c4 := (nI_leI (by omega) (by omega)).mp c4
          unfold pby
          rw [if_pos (Int32.not_le.mp c2), decide_eq_false (p := S k < s) (by omega), Bool.and_false]
        · rw [nI_0] at c2
          have c4 : ¬ s ≤ S k := fun q => c4 (nI_le q (by omega))
          unfold pby
          rw [if_pos (Int32.not_le.mp c2), decide_eq_true (p := S k < s) (by omega), decide_eq_true (p := S k ≠ 0) (by omega)]; rfl)
  refine MX.of (lv := [some (.ref m), some (.int (nI s)), some (.int y), none, none, none, none]) 4 rfl (by decide) (Nat.le_of_ble_eq_true rfl) (sn_R_putBy_0 _ _ _ ?_)
  simp only [vc_R_putBy_0, qi_push, qi_pushl, qi_iload, qi_lload, qi_aload, qi_istore, qi_astore, qi_lstore, qi_iinc, qi_iadd, qi_isub, qi_imul, qi_iand, qi_ior, qi_ixor, qi_ishl, qi_ishr, qi_iushr, qi_idiv, qi_irem, qi_lor, qi_lmul, qi_ladd, qi_lsub, qi_land, qi_lshl, qi_lshr, qi_i2l, qi_l2i, qi_i2c, qi_lcmp, qi_dup, qi_dup2, qi_pop, qi_if_eq, qi_icmp_eq, qi_if_ne, qi_icmp_ne, qi_if_lt, qi_icmp_lt, qi_if_ge, qi_icmp_ge, qi_if_gt, qi_icmp_gt, qi_if_le, qi_icmp_le, qi_sw, qi_get, qi_put, qi_iald, qi_lald, qi_aald, qi_iast, qi_zast, qi_cast, qi_last, qi_aast, qi_alen, qi_new, qi_newa, qi_newq, qi_obj, qi_invS, qi_invV, qi_invI, qi_iret, qi_zret, qi_lret, qi_vret, qi_acopy, qi_max, qi_min, at_o, at_i, at_l, at_q, at_a, lget, lset, lclr, lnon, lnth, spl, shrt, rpush, true_and, and_true, List.set, List.length, Nat.reduceAdd, Nat.reduceLT, Nat.reduceLeDiff, Nat.reduceEqDiff, Nat.reduceSub]
  exact loop 0 (Nat.zero_le _) _ _
end MO
