/-! LINES: reach, search, hasLine. -/
section LN
variable {h : hc_H} {a N fx wh us C : Nat} {F G : Nat → Nat → Nat}
abbrev lst (us wh : Nat) : Nat := if us = wh then wh else 0
theorem c_L_reach (hp : isLn h a N fx wh (nI C) us F G) (hN : N ≤ 4096) (hW : wh < N) (hW2 : ∃ n, wh = 2 ^ n - 1) (hus : us < 4096) (hF : ∀ k s, F k s ≤ 2000000) (hfi : ∀ k, F 2 k < 4096) (hC : C < 2000) {m en : Nat} (hm : m ≤ 1000) (hen : en ≤ 1000) : ∃ h' D, MA M_L_reach [.ref a, .int (nI m), .int (nI en)] h none h' ∧ isLn h' a N fx wh (nI C) us (va_up F 8 (rL wh fx C m (F 3) (F 2) (F 7) D)) G ∧ frm h h' (a + 8) 1 ∧ D ≤ lst us wh ∧ (D = lst us wh ∨ rL wh fx C m (F 3) (F 2) (F 7) D wh ≤ en) := by
  obtain ⟨e0, e1, e2, e3, e4, e5, e6, e7, e8, -⟩ := id hp
  have hlst : lst us wh ≤ wh := by unfold lst; split <;> omega
  have loop := lp_up (P := fun D => ∀ h1, isLn h1 a N fx wh (nI C) us (va_up F 8 (rL wh fx C m (F 3) (F 2) (F 7) D)) G → frm h h1 (a + 8) 1 → ∃ h' D', (cx hc_tt M_L_reach h h' none 40 [some (.ref a), some (.int (nI m)), some (.int (nI en)), some (.int (nI (lst us wh))), some (.int (nI D))] [] h1) ∧ isLn h' a N fx wh (nI C) us (va_up F 8 (rL wh fx C m (F 3) (F 2) (F 7) D')) G ∧ frm h h' (a + 8) 1 ∧ D' ≤ lst us wh ∧ (D' = lst us wh ∨ rL wh fx C m (F 3) (F 2) (F 7) D' wh ≤ en)) (n := lst us wh)
    (by intro h1 i1 i2
        refine ⟨h1, lst us wh, sn_L_reach_40 _ _ _ ?_, i1, i2, Nat.le_refl _, Or.inl rfl⟩
        simp only [vc_L_reach_40, vc_L_reach_81, qi_push, qi_pushl, qi_iload, qi_lload, qi_aload, qi_istore, qi_astore, qi_lstore, qi_iinc, qi_iadd, qi_isub, qi_imul, qi_iand, qi_ior, qi_ixor, qi_ishl, qi_ishr, qi_iushr, qi_idiv, qi_irem, qi_lor, qi_lmul, qi_ladd, qi_lsub, qi_land, qi_lshl, qi_lshr, qi_i2l, qi_l2i, qi_i2c, qi_lcmp, qi_dup, qi_dup2, qi_pop, qi_if_eq, qi_icmp_eq, qi_if_ne, qi_icmp_ne, qi_if_lt, qi_icmp_lt, qi_if_ge, qi_icmp_ge, qi_if_gt, qi_icmp_gt, qi_if_le, qi_icmp_le, qi_sw, qi_get, qi_put, qi_iald, qi_lald, qi_aald, qi_iast, qi_zast, qi_cast, qi_last, qi_aast, qi_alen, qi_new, qi_newa, qi_newq, qi_obj, qi_invS, qi_invV, qi_invI, qi_iret, qi_zret, qi_lret, qi_vret, qi_acopy, qi_max, qi_min, at_o, at_i, at_l, at_q, at_a, lget, lset, lclr, lnon, lnth, spl, shrt, rpush, true_and, and_true, List.set, List.length, Nat.reduceAdd, Nat.reduceLT, Nat.reduceLeDiff, Nat.reduceEqDiff, Nat.reduceSub]
        exact ⟨fun _ => trivial, fun z => absurd (nI_le (by omega) (by omega)) z⟩)
    (fun D hD ih h1 i1 i2 => by
        have hF1 : ∀ k s, va_up F 8 (rL wh fx C m (F 3) (F 2) (F 7) D) k s ≤ 2000000 := up_le hF (fun s => by have := rL_le (W := wh) (fx := fx) (C := C) (m := m) (su := F 3) (fi := F 2) (ne := F 7) D s; omega)
        have hl1 := rL_le (W := wh) (fx := fx) (C := C) (m := m) (su := F 3) (fi := F 2) (ne := F 7) D
        have o0 := i1.1
        have o8 : h1.1 (a + 8) = ii N (rL wh fx C m (F 3) (F 2) (F 7) D) := i1.2.2.2.2.2.2.2.2.1
        have hlw := hl1 wh
        by_cases q : rL wh fx C m (F 3) (F 2) (F 7) D wh ≤ en
        · refine ⟨h1, D, sn_L_reach_40 _ _ _ ?_, i1, i2, by omega, Or.inr q⟩
          simp only [vc_L_reach_40, vc_L_reach_81, qi_push, qi_pushl, qi_iload, qi_lload, qi_aload, qi_istore, qi_astore, qi_lstore, qi_iinc, qi_iadd, qi_isub, qi_imul, qi_iand, qi_ior, qi_ixor, qi_ishl, qi_ishr, qi_iushr, qi_idiv, qi_irem, qi_lor, qi_lmul, qi_ladd, qi_lsub, qi_land, qi_lshl, qi_lshr, qi_i2l, qi_l2i, qi_i2c, qi_lcmp, qi_dup, qi_dup2, qi_pop, qi_if_eq, qi_icmp_eq, qi_if_ne, qi_icmp_ne, qi_if_lt, qi_icmp_lt, qi_if_ge, qi_icmp_ge, qi_if_gt, qi_icmp_gt, qi_if_le, qi_icmp_le, qi_sw, qi_get, qi_put, qi_iald, qi_lald, qi_aald, qi_iast, qi_zast, qi_cast, qi_last, qi_aast, qi_alen, qi_new, qi_newa, qi_newq, qi_obj, qi_invS, qi_invV, qi_invI, qi_iret, qi_zret, qi_lret, qi_vret, qi_acopy, qi_max, qi_min, at_o, at_i, at_l, at_q, at_a, lget, lset, lclr, lnon, lnth, spl, shrt, rpush, true_and, and_true, List.set, List.length, Nat.reduceAdd, Nat.reduceLT, Nat.reduceLeDiff, Nat.reduceEqDiff, Nat.reduceSub, o0, o8]
          refine ⟨fun _ => trivial, fun _ => ⟨vp_in_nI hW (by omega), ?_⟩⟩
          rw [nI_clamp (by omega), nI_leI (by omega) (by omega)]
          exact ⟨fun _ => trivial, fun z => absurd q z⟩
        · have cc := c_L_canEndWithin i1 hN hW hF1 hC (d := D) (m := m) (by omega) hm (hl1 D)
          have cc' : MA M_L_canEndWithin [.ref a, .int (nI D), .int (nI m)] h1 (some (.int (nI (cew wh C m (F 3) (rL wh fx C m (F 3) (F 2) (F 7) D) D).toNat))) h1 := cc
          by_cases q2 : cew wh C m (F 3) (rL wh fx C m (F 3) (F 2) (F 7) D) D = true
          · obtain ⟨h2, c1, c2, c3⟩ := c_L_stepFrom i1 hN hW hW2 hF1 hfi (d := D) (by omega) hl1
            have e9 : va_up (va_up F 8 (rL wh fx C m (F 3) (F 2) (F 7) D)) 8 (stp wh fx (va_up F 8 (rL wh fx C m (F 3) (F 2) (F 7) D) 2) (va_up F 8 (rL wh fx C m (F 3) (F 2) (F 7) D) 7) (va_up F 8 (rL wh fx C m (F 3) (F 2) (F 7) D) 8) D) = va_up F 8 (rL wh fx C m (F 3) (F 2) (F 7) (D + 1)) := by
              rw [bx_uu]
              congr 1
              simp only [rL]
              rw [if_pos q2]
              rfl
            rw [e9] at c2
            obtain ⟨h', D', d1, d2⟩ := ih h2 c2 (i2.trans c3)
            refine ⟨h', D', sn_L_reach_40 _ _ _ ?_, d2⟩
            simp only [vc_L_reach_40, vc_L_reach_81, vc_L_reach_75, qi_push, qi_pushl, qi_iload, qi_lload, qi_aload, qi_istore, qi_astore, qi_lstore, qi_iinc, qi_iadd, qi_isub, qi_imul, qi_iand, qi_ior, qi_ixor, qi_ishl, qi_ishr, qi_iushr, qi_idiv, qi_irem, qi_lor, qi_lmul, qi_ladd, qi_lsub, qi_land, qi_lshl, qi_lshr, qi_i2l, qi_l2i, qi_i2c, qi_lcmp, qi_dup, qi_dup2, qi_pop, qi_if_eq, qi_icmp_eq, qi_if_ne, qi_icmp_ne, qi_if_lt, qi_icmp_lt, qi_if_ge, qi_icmp_ge, qi_if_gt, qi_icmp_gt, qi_if_le, qi_icmp_le, qi_sw, qi_get, qi_put, qi_iald, qi_lald, qi_aald, qi_iast, qi_zast, qi_cast, qi_last, qi_aast, qi_alen, qi_new, qi_newa, qi_newq, qi_obj, qi_invS, qi_invV, qi_invI, qi_iret, qi_zret, qi_lret, qi_vret, qi_acopy, qi_max, qi_min, at_o, at_i, at_l, at_q, at_a, lget, lset, lclr, lnon, lnth, spl, shrt, rpush, true_and, and_true, List.set, List.length, Nat.reduceAdd, Nat.reduceLT, Nat.reduceLeDiff, Nat.reduceEqDiff, Nat.reduceSub, o0, o8]
            refine ⟨fun z => absurd z (nI_ge hD (by omega)), fun _ => ⟨vp_in_nI hW (by omega), ?_⟩⟩
            rw [nI_clamp (by omega), nI_leI (by omega) (by omega)]
            refine ⟨fun z => absurd z q, fun _ => ⟨_, _, cc', ?_⟩⟩
            rw [q2]
            simp only [qi_push, qi_pushl, qi_iload, qi_lload, qi_aload, qi_istore, qi_astore, qi_lstore, qi_iinc, qi_iadd, qi_isub, qi_imul, qi_iand, qi_ior, qi_ixor, qi_ishl, qi_ishr, qi_iushr, qi_idiv, qi_irem, qi_lor, qi_lmul, qi_ladd, qi_lsub, qi_land, qi_lshl, qi_lshr, qi_i2l, qi_l2i, qi_i2c, qi_lcmp, qi_dup, qi_dup2, qi_pop, qi_if_eq, qi_icmp_eq, qi_if_ne, qi_icmp_ne, qi_if_lt, qi_icmp_lt, qi_if_ge, qi_icmp_ge, qi_if_gt, qi_icmp_gt, qi_if_le, qi_icmp_le, qi_sw, qi_get, qi_put, qi_iald, qi_lald, qi_aald, qi_iast, qi_zast, qi_cast, qi_last, qi_aast, qi_alen, qi_new, qi_newa, qi_newq, qi_obj, qi_invS, qi_invV, qi_invI, qi_iret, qi_zret, qi_lret, qi_vret, qi_acopy, qi_max, qi_min, at_o, at_i, at_l, at_q, at_a, lget, lset, lclr, lnon, lnth, spl, shrt, rpush, true_and, and_true, List.set, List.length, Nat.reduceAdd, Nat.reduceLT, Nat.reduceLeDiff, Nat.reduceEqDiff, Nat.reduceSub, o0]
            refine ⟨fun z => absurd z (by decide), fun _ => ⟨_, _, c1, ?_⟩⟩
            simp only [vc_L_reach_75, qi_push, qi_pushl, qi_iload, qi_lload, qi_aload, qi_istore, qi_astore, qi_lstore, qi_iinc, qi_iadd, qi_isub, qi_imul, qi_iand, qi_ior, qi_ixor, qi_ishl, qi_ishr, qi_iushr, qi_idiv, qi_irem, qi_lor, qi_lmul, qi_ladd, qi_lsub, qi_land, qi_lshl, qi_lshr, qi_i2l, qi_l2i, qi_i2c, qi_lcmp, qi_dup, qi_dup2, qi_pop, qi_if_eq, qi_icmp_eq, qi_if_ne, qi_icmp_ne, qi_if_lt, qi_icmp_lt, qi_if_ge, qi_icmp_ge, qi_if_gt, qi_icmp_gt, qi_if_le, qi_icmp_le, qi_sw, qi_get, qi_put, qi_iald, qi_lald, qi_aald, qi_iast, qi_zast, qi_cast, qi_last, qi_aast, qi_alen, qi_new, qi_newa, qi_newq, qi_obj, qi_invS, qi_invV, qi_invI, qi_iret, qi_zret, qi_lret, qi_vret, qi_acopy, qi_max, qi_min, at_o, at_i, at_l, at_q, at_a, lget, lset, lclr, lnon, lnth, spl, shrt, rpush, true_and, and_true, List.set, List.length, Nat.reduceAdd, Nat.reduceLT, Nat.reduceLeDiff, Nat.reduceEqDiff, Nat.reduceSub, nI_add]
            exact d1
          · have e9 : rL wh fx C m (F 3) (F 2) (F 7) (D + 1) = rL wh fx C m (F 3) (F 2) (F 7) D := by simp only [rL]; rw [if_neg q2]
            obtain ⟨h', D', d1, d2⟩ := ih h1 (by rw [e9]; exact i1) i2
            refine ⟨h', D', sn_L_reach_40 _ _ _ ?_, d2⟩
            simp only [vc_L_reach_40, vc_L_reach_81, qi_push, qi_pushl, qi_iload, qi_lload, qi_aload, qi_istore, qi_astore, qi_lstore, qi_iinc, qi_iadd, qi_isub, qi_imul, qi_iand, qi_ior, qi_ixor, qi_ishl, qi_ishr, qi_iushr, qi_idiv, qi_irem, qi_lor, qi_lmul, qi_ladd, qi_lsub, qi_land, qi_lshl, qi_lshr, qi_i2l, qi_l2i, qi_i2c, qi_lcmp, qi_dup, qi_dup2, qi_pop, qi_if_eq, qi_icmp_eq, qi_if_ne, qi_icmp_ne, qi_if_lt, qi_icmp_lt, qi_if_ge, qi_icmp_ge, qi_if_gt, qi_icmp_gt, qi_if_le, qi_icmp_le, qi_sw, qi_get, qi_put, qi_iald, qi_lald, qi_aald, qi_iast, qi_zast, qi_cast, qi_last, qi_aast, qi_alen, qi_new, qi_newa, qi_newq, qi_obj, qi_invS, qi_invV, qi_invI, qi_iret, qi_zret, qi_lret, qi_vret, qi_acopy, qi_max, qi_min, at_o, at_i, at_l, at_q, at_a, lget, lset, lclr, lnon, lnth, spl, shrt, rpush, true_and, and_true, List.set, List.length, Nat.reduceAdd, Nat.reduceLT, Nat.reduceLeDiff, Nat.reduceEqDiff, Nat.reduceSub, o0, o8]
            refine ⟨fun z => absurd z (nI_ge hD (by omega)), fun _ => ⟨vp_in_nI hW (by omega), ?_⟩⟩
            rw [nI_clamp (by omega), nI_leI (by omega) (by omega)]
            refine ⟨fun z => absurd z q, fun _ => ⟨_, _, cc', ?_⟩⟩
            have q3 : cew wh C m (F 3) (rL wh fx C m (F 3) (F 2) (F 7) D) D = false := by simpa using q2
            rw [q3]
            simp only [vc_L_reach_75, qi_push, qi_pushl, qi_iload, qi_lload, qi_aload, qi_istore, qi_astore, qi_lstore, qi_iinc, qi_iadd, qi_isub, qi_imul, qi_iand, qi_ior, qi_ixor, qi_ishl, qi_ishr, qi_iushr, qi_idiv, qi_irem, qi_lor, qi_lmul, qi_ladd, qi_lsub, qi_land, qi_lshl, qi_lshr, qi_i2l, qi_l2i, qi_i2c, qi_lcmp, qi_dup, qi_dup2, qi_pop, qi_if_eq, qi_icmp_eq, qi_if_ne, qi_icmp_ne, qi_if_lt, qi_icmp_lt, qi_if_ge, qi_icmp_ge, qi_if_gt, qi_icmp_gt, qi_if_le, qi_icmp_le, qi_sw, qi_get, qi_put, qi_iald, qi_lald, qi_aald, qi_iast, qi_zast, qi_cast, qi_last, qi_aast, qi_alen, qi_new, qi_newa, qi_newq, qi_obj, qi_invS, qi_invV, qi_invI, qi_iret, qi_zret, qi_lret, qi_vret, qi_acopy, qi_max, qi_min, at_o, at_i, at_l, at_q, at_a, lget, lset, lclr, lnon, lnth, spl, shrt, rpush, true_and, and_true, List.set, List.length, Nat.reduceAdd, Nat.reduceLT, Nat.reduceLeDiff, Nat.reduceEqDiff, Nat.reduceSub, nI_add]
            exact ⟨fun _ => d1, fun z => absurd rfl z⟩)
  -- the start
  have l1 : isLn (hc_set h (a + 8) (.inl (0, N, .inl (fun j => nI (rL wh fx C m (F 3) (F 2) (F 7) 0 j))))) a N fx wh (nI C) us (va_up F 8 (rL wh fx C m (F 3) (F 2) (F 7) 0)) G := hp.set8
  obtain ⟨h', D', d1, d2⟩ := loop 0 (Nat.zero_le _) _ l1 (frm.rfl'.set (by omega))
  refine ⟨h', D', MX.of (lv := [some (.ref a), some (.int (nI m)), some (.int (nI en)), none, none]) 2 rfl (by decide) (Nat.le_of_ble_eq_true rfl) (sn_L_reach_0 _ _ _ ?_), d2⟩
  simp only [vc_L_reach_0, qi_push, qi_pushl, qi_iload, qi_lload, qi_aload, qi_istore, qi_astore, qi_lstore, qi_iinc, qi_iadd, qi_isub, qi_imul, qi_iand, qi_ior, qi_ixor, qi_ishl, qi_ishr, qi_iushr, qi_idiv, qi_irem, qi_lor, qi_lmul, qi_ladd, qi_lsub, qi_land, qi_lshl, qi_lshr, qi_i2l, qi_l2i, qi_i2c, qi_lcmp, qi_dup, qi_dup2, qi_pop, qi_if_eq, qi_icmp_eq, qi_if_ne, qi_icmp_ne, qi_if_lt, qi_icmp_lt, qi_if_ge, qi_icmp_ge, qi_if_gt, qi_icmp_gt, qi_if_le, qi_icmp_le, qi_sw, qi_get, qi_put, qi_iald, qi_lald, qi_aald, qi_iast, qi_zast, qi_cast, qi_last, qi_aast, qi_alen, qi_new, qi_newa, qi_newq, qi_obj, qi_invS, qi_invV, qi_invI, qi_iret, qi_zret, qi_lret, qi_vret, qi_acopy, qi_max, qi_min, at_o, at_i, at_l, at_q, at_a, lget, lset, lclr, lnon, lnth, spl, shrt, rpush, true_and, and_true, List.set, List.length, Nat.reduceAdd, Nat.reduceLT, Nat.reduceLeDiff, Nat.reduceEqDiff, Nat.reduceSub, e0]
  refine ⟨_, _, c_J_fill (n := N) (f := fun j => nI (F 8 j)) _ e8 (by omega), ?_⟩
  have x0 : ∀ w, (hc_set h (a + 8) w).1 a = some (lnO a fx wh (nI C) us) := fun w => by rw [hs_ne _ _ (by omega)]; exact e0
  have e10 : hc_set h (a + 8) (.inl (0, N, .inl (upd (fun _ => nI 1000) 0 (nI 0)))) = hc_set h (a + 8) (.inl (0, N, .inl (fun j => nI (rL wh fx C m (F 3) (F 2) (F 7) 0 j)))) := by
    rw [upd_nI (fun _ => 1000) 0 0]
    exact hi_c (fun e => by simp only [rL]; rfl)
  simp only [vc_L_reach_35, vc_L_reach_36, qi_push, qi_pushl, qi_iload, qi_lload, qi_aload, qi_istore, qi_astore, qi_lstore, qi_iinc, qi_iadd, qi_isub, qi_imul, qi_iand, qi_ior, qi_ixor, qi_ishl, qi_ishr, qi_iushr, qi_idiv, qi_irem, qi_lor, qi_lmul, qi_ladd, qi_lsub, qi_land, qi_lshl, qi_lshr, qi_i2l, qi_l2i, qi_i2c, qi_lcmp, qi_dup, qi_dup2, qi_pop, qi_if_eq, qi_icmp_eq, qi_if_ne, qi_icmp_ne, qi_if_lt, qi_icmp_lt, qi_if_ge, qi_icmp_ge, qi_if_gt, qi_icmp_gt, qi_if_le, qi_icmp_le, qi_sw, qi_get, qi_put, qi_iald, qi_lald, qi_aald, qi_iast, qi_zast, qi_cast, qi_last, qi_aast, qi_alen, qi_new, qi_newa, qi_newq, qi_obj, qi_invS, qi_invV, qi_invI, qi_iret, qi_zret, qi_lret, qi_vret, qi_acopy, qi_max, qi_min, at_o, at_i, at_l, at_q, at_a, lget, lset, lclr, lnon, lnth, spl, shrt, rpush, true_and, and_true, List.set, List.length, Nat.reduceAdd, Nat.reduceLT, Nat.reduceLeDiff, Nat.reduceEqDiff, Nat.reduceSub, x0, hs_eq, hs_hs, show (nI 0).toNatClampNeg = 0 by decide, e10]
  have hx0 : vp_in (nI 0) N := vp_in_nI (by omega) (by omega)
  rw [nI_eq (by omega) (by omega)]
  refine ⟨hx0, fun z => ?_, fun z => ?_⟩
  · have : lst us wh = 0 := if_neg z
    rw [this] at d1
    exact d1
  · have : lst us wh = wh := if_pos z
    rw [this] at d1
    exact d1
/-- search: the levels that it leaves, and its answer -/
theorem c_L_search (hp : isLn h a N fx wh (nI C) us F G) (hN : N ≤ 4096) (hW : wh < N) (hW2 : ∃ n, wh = 2 ^ n - 1) (hus : us < 4096) (hF : ∀ k s, F k s ≤ 2000000) (hfi : ∀ k, F 2 k < 4096) (hC : C < 2000) {lo m : Nat} (hlo : lo ≤ 1000) (hm : m ≤ 900) : ∃ h' mm D r, MA M_L_search [.ref a, .int (nI lo), .int (nI m)] h (some (.int r)) h' ∧ isLn h' a N fx wh (nI C) us (va_up F 8 (rL wh fx C mm (F 3) (F 2) (F 7) D)) G ∧ frm h h' (a + 8) 1 ∧ (D = lst us wh ∨ rL wh fx C mm (F 3) (F 2) (F 7) D wh ≤ 0) ∧ D ≤ lst us wh ∧ mm ≤ m ∧ (mm = m ∨ rL wh fx C mm (F 3) (F 2) (F 7) D wh ≤ mm) ∧ r = (if rL wh fx C mm (F 3) (F 2) (F 7) D wh ≤ m then nI (rL wh fx C mm (F 3) (F 2) (F 7) D wh) else -4) := by
  obtain ⟨h1, D1, c1, l1, f1, b1, z1⟩ := c_L_reach hp hN hW hW2 hus hF hfi hC (m := min lo m) (en := 0) (by omega) (by omega)
  have fin : ∀ (h0 h2 : hc_H) (mm D : Nat), isLn h2 a N fx wh (nI C) us (va_up F 8 (rL wh fx C mm (F 3) (F 2) (F 7) D)) G → ∀ r, r = (if rL wh fx C mm (F 3) (F 2) (F 7) D wh ≤ m then nI (rL wh fx C mm (F 3) (F 2) (F 7) D wh) else -4) → ∀ x y, vc_L_search_36 (some (.int r)) h2 (cx hc_tt M_L_search h0 h2 (some (.int r))) [some (.ref a), x, some (.int (nI m)), y] [] h2 := by
    intro h0 h2 mm D l2 r hr x y
    have o0 := l2.1
    have o8 : h2.1 (a + 8) = ii N (rL wh fx C mm (F 3) (F 2) (F 7) D) := l2.2.2.2.2.2.2.2.2.1
    have hl := rL_le (W := wh) (fx := fx) (C := C) (m := mm) (su := F 3) (fi := F 2) (ne := F 7) D wh
    have hv : vp_in (nI wh) N := vp_in_nI hW (by omega)
    simp only [vc_L_search_36, vc_L_search_61, vc_L_search_63, qi_push, qi_pushl, qi_iload, qi_lload, qi_aload, qi_istore, qi_astore, qi_lstore, qi_iinc, qi_iadd, qi_isub, qi_imul, qi_iand, qi_ior, qi_ixor, qi_ishl, qi_ishr, qi_iushr, qi_idiv, qi_irem, qi_lor, qi_lmul, qi_ladd, qi_lsub, qi_land, qi_lshl, qi_lshr, qi_i2l, qi_l2i, qi_i2c, qi_lcmp, qi_dup, qi_dup2, qi_pop, qi_if_eq, qi_icmp_eq, qi_if_ne, qi_icmp_ne, qi_if_lt, qi_icmp_lt, qi_if_ge, qi_icmp_ge, qi_if_gt, qi_icmp_gt, qi_if_le, qi_icmp_le, qi_sw, qi_get, qi_put, qi_iald, qi_lald, qi_aald, qi_iast, qi_zast, qi_cast, qi_last, qi_aast, qi_alen, qi_new, qi_newa, qi_newq, qi_obj, qi_invS, qi_invV, qi_invI, qi_iret, qi_zret, qi_lret, qi_vret, qi_acopy, qi_max, qi_min, at_o, at_i, at_l, at_q, at_a, lget, lset, lclr, lnon, lnth, spl, shrt, rpush, true_and, and_true, List.set, List.length, Nat.reduceAdd, Nat.reduceLT, Nat.reduceLeDiff, Nat.reduceEqDiff, Nat.reduceSub, o0, o8, hv]
    rw [nI_clamp (by omega), nI_ltI (by omega) (by omega)]
    refine ⟨fun q => ?_, fun q => ?_⟩
    · rw [hr, if_neg (by omega)]
    · rw [hr, if_pos (by omega)]
  have o0 := l1.1
  have o8 : h1.1 (a + 8) = ii N (rL wh fx C (min lo m) (F 3) (F 2) (F 7) D1) := l1.2.2.2.2.2.2.2.2.1
  have hl1 := rL_le (W := wh) (fx := fx) (C := C) (m := min lo m) (su := F 3) (fi := F 2) (ne := F 7) D1 wh
  have hv : vp_in (nI wh) N := vp_in_nI hW (by omega)
  have e0 := hp.1
  have mn : min lo m ≤ m := Nat.min_le_right _ _
  by_cases q : rL wh fx C (min lo m) (F 3) (F 2) (F 7) D1 wh ≤ min lo m ∨ m ≤ min lo m
  · refine ⟨h1, min lo m, D1, _, MX.of (lv := [some (.ref a), some (.int (nI lo)), some (.int (nI m)), none]) 1 rfl (by decide) (Nat.le_of_ble_eq_true rfl) (sn_L_search_0 _ _ _ ?_), l1, f1, z1, b1, mn, ?_, rfl⟩
    · simp only [vc_L_search_0, qi_push, qi_pushl, qi_iload, qi_lload, qi_aload, qi_istore, qi_astore, qi_lstore, qi_iinc, qi_iadd, qi_isub, qi_imul, qi_iand, qi_ior, qi_ixor, qi_ishl, qi_ishr, qi_iushr, qi_idiv, qi_irem, qi_lor, qi_lmul, qi_ladd, qi_lsub, qi_land, qi_lshl, qi_lshr, qi_i2l, qi_l2i, qi_i2c, qi_lcmp, qi_dup, qi_dup2, qi_pop, qi_if_eq, qi_icmp_eq, qi_if_ne, qi_icmp_ne, qi_if_lt, qi_icmp_lt, qi_if_ge, qi_icmp_ge, qi_if_gt, qi_icmp_gt, qi_if_le, qi_icmp_le, qi_sw, qi_get, qi_put, qi_iald, qi_lald, qi_aald, qi_iast, qi_zast, qi_cast, qi_last, qi_aast, qi_alen, qi_new, qi_newa, qi_newq, qi_obj, qi_invS, qi_invV, qi_invI, qi_iret, qi_zret, qi_lret, qi_vret, qi_acopy, qi_max, qi_min, at_o, at_i, at_l, at_q, at_a, lget, lset, lclr, lnon, lnth, spl, shrt, rpush, true_and, and_true, List.set, List.length, Nat.reduceAdd, Nat.reduceLT, Nat.reduceLeDiff, Nat.reduceEqDiff, Nat.reduceSub, e0]
      rw [ni_min (by omega) (by omega)]
      refine ⟨_, _, c1, ?_⟩
      simp only [qi_push, qi_pushl, qi_iload, qi_lload, qi_aload, qi_istore, qi_astore, qi_lstore, qi_iinc, qi_iadd, qi_isub, qi_imul, qi_iand, qi_ior, qi_ixor, qi_ishl, qi_ishr, qi_iushr, qi_idiv, qi_irem, qi_lor, qi_lmul, qi_ladd, qi_lsub, qi_land, qi_lshl, qi_lshr, qi_i2l, qi_l2i, qi_i2c, qi_lcmp, qi_dup, qi_dup2, qi_pop, qi_if_eq, qi_icmp_eq, qi_if_ne, qi_icmp_ne, qi_if_lt, qi_icmp_lt, qi_if_ge, qi_icmp_ge, qi_if_gt, qi_icmp_gt, qi_if_le, qi_icmp_le, qi_sw, qi_get, qi_put, qi_iald, qi_lald, qi_aald, qi_iast, qi_zast, qi_cast, qi_last, qi_aast, qi_alen, qi_new, qi_newa, qi_newq, qi_obj, qi_invS, qi_invV, qi_invI, qi_iret, qi_zret, qi_lret, qi_vret, qi_acopy, qi_max, qi_min, at_o, at_i, at_l, at_q, at_a, lget, lset, lclr, lnon, lnth, spl, shrt, rpush, true_and, and_true, List.set, List.length, Nat.reduceAdd, Nat.reduceLT, Nat.reduceLeDiff, Nat.reduceEqDiff, Nat.reduceSub, o0, o8, hv]
      rw [nI_clamp (by omega), nI_leI (by omega) (by omega), nI_leI (by omega) (by omega)]
      refine ⟨fun _ => fin _ _ _ _ l1 _ rfl _ _, fun z => ⟨fun _ => fin _ _ _ _ l1 _ rfl _ _, fun z2 => ?_⟩⟩
      rcases q with q | q
      · exact absurd q z
      · exact absurd q z2
    · rcases q with q | q
      · exact Or.inr q
      · exact Or.inl (by omega)
  · have hF1 : ∀ k s, va_up F 8 (rL wh fx C (min lo m) (F 3) (F 2) (F 7) D1) k s ≤ 2000000 := up_le hF (fun s => by have := rL_le (W := wh) (fx := fx) (C := C) (m := min lo m) (su := F 3) (fi := F 2) (ne := F 7) D1 s; omega)
    obtain ⟨h2, D2, c2, l2, f2, b2, z2⟩ := c_L_reach l1 hN hW hW2 hus hF1 hfi hC (m := m) (en := 0) (by omega) (by omega)
    rw [bx_uu] at l2
    have l2' : isLn h2 a N fx wh (nI C) us (va_up F 8 (rL wh fx C m (F 3) (F 2) (F 7) D2)) G := l2
    refine ⟨h2, m, D2, _, MX.of (lv := [some (.ref a), some (.int (nI lo)), some (.int (nI m)), none]) 1 rfl (by decide) (Nat.le_of_ble_eq_true rfl) (sn_L_search_0 _ _ _ ?_), l2', f1.trans f2, z2, b2, Nat.le_refl _, Or.inl rfl, rfl⟩
    simp only [vc_L_search_0, qi_push, qi_pushl, qi_iload, qi_lload, qi_aload, qi_istore, qi_astore, qi_lstore, qi_iinc, qi_iadd, qi_isub, qi_imul, qi_iand, qi_ior, qi_ixor, qi_ishl, qi_ishr, qi_iushr, qi_idiv, qi_irem, qi_lor, qi_lmul, qi_ladd, qi_lsub, qi_land, qi_lshl, qi_lshr, qi_i2l, qi_l2i, qi_i2c, qi_lcmp, qi_dup, qi_dup2, qi_pop, qi_if_eq, qi_icmp_eq, qi_if_ne, qi_icmp_ne, qi_if_lt, qi_icmp_lt, qi_if_ge, qi_icmp_ge, qi_if_gt, qi_icmp_gt, qi_if_le, qi_icmp_le, qi_sw, qi_get, qi_put, qi_iald, qi_lald, qi_aald, qi_iast, qi_zast, qi_cast, qi_last, qi_aast, qi_alen, qi_new, qi_newa, qi_newq, qi_obj, qi_invS, qi_invV, qi_invI, qi_iret, qi_zret, qi_lret, qi_vret, qi_acopy, qi_max, qi_min, at_o, at_i, at_l, at_q, at_a, lget, lset, lclr, lnon, lnth, spl, shrt, rpush, true_and, and_true, List.set, List.length, Nat.reduceAdd, Nat.reduceLT, Nat.reduceLeDiff, Nat.reduceEqDiff, Nat.reduceSub, e0]
    rw [ni_min (by omega) (by omega)]
    refine ⟨_, _, c1, ?_⟩
    simp only [qi_push, qi_pushl, qi_iload, qi_lload, qi_aload, qi_istore, qi_astore, qi_lstore, qi_iinc, qi_iadd, qi_isub, qi_imul, qi_iand, qi_ior, qi_ixor, qi_ishl, qi_ishr, qi_iushr, qi_idiv, qi_irem, qi_lor, qi_lmul, qi_ladd, qi_lsub, qi_land, qi_lshl, qi_lshr, qi_i2l, qi_l2i, qi_i2c, qi_lcmp, qi_dup, qi_dup2, qi_pop, qi_if_eq, qi_icmp_eq, qi_if_ne, qi_icmp_ne, qi_if_lt, qi_icmp_lt, qi_if_ge, qi_icmp_ge, qi_if_gt, qi_icmp_gt, qi_if_le, qi_icmp_le, qi_sw, qi_get, qi_put, qi_iald, qi_lald, qi_aald, qi_iast, qi_zast, qi_cast, qi_last, qi_aast, qi_alen, qi_new, qi_newa, qi_newq, qi_obj, qi_invS, qi_invV, qi_invI, qi_iret, qi_zret, qi_lret, qi_vret, qi_acopy, qi_max, qi_min, at_o, at_i, at_l, at_q, at_a, lget, lset, lclr, lnon, lnth, spl, shrt, rpush, true_and, and_true, List.set, List.length, Nat.reduceAdd, Nat.reduceLT, Nat.reduceLeDiff, Nat.reduceEqDiff, Nat.reduceSub, o0, o8, hv]
    rw [nI_clamp (by omega), nI_leI (by omega) (by omega), nI_leI (by omega) (by omega)]
    refine ⟨fun z => absurd (Or.inl z) q, fun z => ⟨fun z2 => absurd (Or.inr z2) q, fun _ => ⟨_, _, c2, ?_⟩⟩⟩
    simp only [qi_push, qi_pushl, qi_iload, qi_lload, qi_aload, qi_istore, qi_astore, qi_lstore, qi_iinc, qi_iadd, qi_isub, qi_imul, qi_iand, qi_ior, qi_ixor, qi_ishl, qi_ishr, qi_iushr, qi_idiv, qi_irem, qi_lor, qi_lmul, qi_ladd, qi_lsub, qi_land, qi_lshl, qi_lshr, qi_i2l, qi_l2i, qi_i2c, qi_lcmp, qi_dup, qi_dup2, qi_pop, qi_if_eq, qi_icmp_eq, qi_if_ne, qi_icmp_ne, qi_if_lt, qi_icmp_lt, qi_if_ge, qi_icmp_ge, qi_if_gt, qi_icmp_gt, qi_if_le, qi_icmp_le, qi_sw, qi_get, qi_put, qi_iald, qi_lald, qi_aald, qi_iast, qi_zast, qi_cast, qi_last, qi_aast, qi_alen, qi_new, qi_newa, qi_newq, qi_obj, qi_invS, qi_invV, qi_invI, qi_iret, qi_zret, qi_lret, qi_vret, qi_acopy, qi_max, qi_min, at_o, at_i, at_l, at_q, at_a, lget, lset, lclr, lnon, lnth, spl, shrt, rpush, true_and, and_true, List.set, List.length, Nat.reduceAdd, Nat.reduceLT, Nat.reduceLeDiff, Nat.reduceEqDiff, Nat.reduceSub]
    exact fin _ _ _ _ l2' _ rfl _ _
theorem c_L_hasLine (hp : isLn h a N fx wh (nI C) us F G) (hN : N ≤ 4096) (hW : wh < N) (hW2 : ∃ n, wh = 2 ^ n - 1) (hus : us < 4096) (hF : ∀ k s, F k s ≤ 2000000) (hfi : ∀ k, F 2 k < 4096) (hC : C < 2000) {m : Nat} (hm : m ≤ 900) : ∃ h' D, MA M_L_hasLine [.ref a, .int (nI m)] h (some (.int (nI (decide (rL wh fx C m (F 3) (F 2) (F 7) D wh ≤ m)).toNat))) h' ∧ isLn h' a N fx wh (nI C) us (va_up F 8 (rL wh fx C m (F 3) (F 2) (F 7) D)) G ∧ frm h h' (a + 8) 1 ∧ D ≤ lst us wh ∧ (D = lst us wh ∨ rL wh fx C m (F 3) (F 2) (F 7) D wh ≤ m) := by
  obtain ⟨h1, D1, c1, l1, f1, b1, z1⟩ := c_L_reach hp hN hW hW2 hus hF hfi hC (m := m) (en := m) (by omega) (by omega)
  have o0 := l1.1
  have o8 : h1.1 (a + 8) = ii N (rL wh fx C m (F 3) (F 2) (F 7) D1) := l1.2.2.2.2.2.2.2.2.1
  have hl1 := rL_le (W := wh) (fx := fx) (C := C) (m := m) (su := F 3) (fi := F 2) (ne := F 7) D1 wh
  have hv : vp_in (nI wh) N := vp_in_nI hW (by omega)
  refine ⟨h1, D1, MX.of (lv := [some (.ref a), some (.int (nI m))]) 0 rfl (by decide) (Nat.le_of_ble_eq_true rfl) (sn_L_hasLine_0 _ _ _ ?_), l1, f1, b1, z1⟩
  have e0 := hp.1
  simp only [vc_L_hasLine_0, qi_push, qi_pushl, qi_iload, qi_lload, qi_aload, qi_istore, qi_astore, qi_lstore, qi_iinc, qi_iadd, qi_isub, qi_imul, qi_iand, qi_ior, qi_ixor, qi_ishl, qi_ishr, qi_iushr, qi_idiv, qi_irem, qi_lor, qi_lmul, qi_ladd, qi_lsub, qi_land, qi_lshl, qi_lshr, qi_i2l, qi_l2i, qi_i2c, qi_lcmp, qi_dup, qi_dup2, qi_pop, qi_if_eq, qi_icmp_eq, qi_if_ne, qi_icmp_ne, qi_if_lt, qi_icmp_lt, qi_if_ge, qi_icmp_ge, qi_if_gt, qi_icmp_gt, qi_if_le, qi_icmp_le, qi_sw, qi_get, qi_put, qi_iald, qi_lald, qi_aald, qi_iast, qi_zast, qi_cast, qi_last, qi_aast, qi_alen, qi_new, qi_newa, qi_newq, qi_obj, qi_invS, qi_invV, qi_invI, qi_iret, qi_zret, qi_lret, qi_vret, qi_acopy, qi_max, qi_min, at_o, at_i, at_l, at_q, at_a, lget, lset, lclr, lnon, lnth, spl, shrt, rpush, true_and, and_true, List.set, List.length, Nat.reduceAdd, Nat.reduceLT, Nat.reduceLeDiff, Nat.reduceEqDiff, Nat.reduceSub, e0]
  refine ⟨_, _, c1, ?_⟩
  simp only [vc_L_hasLine_23, vc_L_hasLine_24, qi_push, qi_pushl, qi_iload, qi_lload, qi_aload, qi_istore, qi_astore, qi_lstore, qi_iinc, qi_iadd, qi_isub, qi_imul, qi_iand, qi_ior, qi_ixor, qi_ishl, qi_ishr, qi_iushr, qi_idiv, qi_irem, qi_lor, qi_lmul, qi_ladd, qi_lsub, qi_land, qi_lshl, qi_lshr, qi_i2l, qi_l2i, qi_i2c, qi_lcmp, qi_dup, qi_dup2, qi_pop, qi_if_eq, qi_icmp_eq, qi_if_ne, qi_icmp_ne, qi_if_lt, qi_icmp_lt, qi_if_ge, qi_icmp_ge, qi_if_gt, qi_icmp_gt, qi_if_le, qi_icmp_le, qi_sw, qi_get, qi_put, qi_iald, qi_lald, qi_aald, qi_iast, qi_zast, qi_cast, qi_last, qi_aast, qi_alen, qi_new, qi_newa, qi_newq, qi_obj, qi_invS, qi_invV, qi_invI, qi_iret, qi_zret, qi_lret, qi_vret, qi_acopy, qi_max, qi_min, at_o, at_i, at_l, at_q, at_a, lget, lset, lclr, lnon, lnth, spl, shrt, rpush, true_and, and_true, List.set, List.length, Nat.reduceAdd, Nat.reduceLT, Nat.reduceLeDiff, Nat.reduceEqDiff, Nat.reduceSub, o0, o8, hv]
  rw [nI_clamp (by omega), nI_ltI (by omega) (by omega)]
  refine ⟨fun q => ⟨Or.inl rfl, ?_⟩, fun q => ⟨Or.inr rfl, ?_⟩⟩
  · rw [decide_eq_false (by omega)]; rfl
  · rw [decide_eq_true (by omega)]; rfl
end LN
