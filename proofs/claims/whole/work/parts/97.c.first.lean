/-! THE TEXT'S METHODS; THE PAST'S CONSTRUCTOR; WHAT THE FIRST TEXT SAYS. -/
section TX
variable {q v : Nat} {f : Option Nat} {h : hc_H}
theorem c_JP_checkIndex {i : Nat} {a : Option Nat} (hi : i < 73) : MX (phS q v f) M_JP_checkIndex [.int (nI i), .int (nI 73), va_rf a] h (some (.int (nI i))) h := by
  refine MX.of (lv := [some (.int (nI i)), some (.int (nI 73)), some (va_rf a)]) 0 (by cases a <;> rfl) (by decide) (by cases a <;> exact Nat.le_of_ble_eq_true rfl) (sn_JP_checkIndex_0 _ _ _ ?_)
  simp only [vc_JP_checkIndex_0, vc_JP_checkIndex_16, qi_push, qi_pushl, qi_iload, qi_lload, qi_aload, qi_istore, qi_astore, qi_lstore, qi_iinc, qi_iadd, qi_isub, qi_imul, qi_iand, qi_ior, qi_ixor, qi_ishl, qi_ishr, qi_iushr, qi_idiv, qi_irem, qi_lor, qi_lmul, qi_ladd, qi_lsub, qi_land, qi_lshl, qi_lshr, qi_i2l, qi_l2i, qi_i2c, qi_lcmp, qi_dup, qi_dup2, qi_pop, qi_if_eq, qi_icmp_eq, qi_if_ne, qi_icmp_ne, qi_if_lt, qi_icmp_lt, qi_if_ge, qi_icmp_ge, qi_if_gt, qi_icmp_gt, qi_if_le, qi_icmp_le, qi_sw, qi_get, qi_put, qi_iald, qi_lald, qi_aald, qi_iast, qi_zast, qi_cast, qi_last, qi_aast, qi_alen, qi_new, qi_newa, qi_newq, qi_obj, qi_invS, qi_invV, qi_invI, qi_iret, qi_zret, qi_lret, qi_vret, qi_acopy, qi_max, qi_min, at_o, at_i, at_l, at_q, at_a, lget, lset, lclr, lnon, lnth, spl, shrt, rpush, true_and, and_true, List.set, List.length, Nat.reduceAdd, Nat.reduceLT, Nat.reduceLeDiff, Nat.reduceEqDiff, Nat.reduceSub]
  exact ⟨fun z => absurd z (nI_pos (by omega)), fun _ => ⟨fun _ => (by first | trivial | exact ⟨rfl, rfl⟩), fun z => absurd ((show ∀ i, i < 73 → nI i < nI 73 by decide +kernel) i hi) z⟩⟩
theorem c_JS_coder : MX (phS q v f) M_JS_coder [.ref q] h (some (.int 0)) h := by
  refine MX.of (lv := [some (.ref q)]) 0 rfl (by decide) (Nat.le_of_ble_eq_true rfl) (sn_JS_coder_0 _ _ _ ?_)
  simp only [vc_JS_coder_0, vc_JS_coder_13, vc_JS_coder_14, qi_val, qi_gtS, qi_nret, qi_push, qi_pushl, qi_iload, qi_lload, qi_aload, qi_istore, qi_astore, qi_lstore, qi_iinc, qi_iadd, qi_isub, qi_imul, qi_iand, qi_ior, qi_ixor, qi_ishl, qi_ishr, qi_iushr, qi_idiv, qi_irem, qi_lor, qi_lmul, qi_ladd, qi_lsub, qi_land, qi_lshl, qi_lshr, qi_i2l, qi_l2i, qi_i2c, qi_lcmp, qi_dup, qi_dup2, qi_pop, qi_if_eq, qi_icmp_eq, qi_if_ne, qi_icmp_ne, qi_if_lt, qi_icmp_lt, qi_if_ge, qi_icmp_ge, qi_if_gt, qi_icmp_gt, qi_if_le, qi_icmp_le, qi_sw, qi_get, qi_put, qi_iald, qi_lald, qi_aald, qi_iast, qi_zast, qi_cast, qi_last, qi_aast, qi_alen, qi_new, qi_newa, qi_newq, qi_obj, qi_invS, qi_invV, qi_invI, qi_iret, qi_zret, qi_lret, qi_vret, qi_acopy, qi_max, qi_min, at_o, at_i, at_l, at_q, at_a, lget, lset, lclr, lnon, lnth, spl, shrt, rpush, true_and, and_true, List.set, List.length, Nat.reduceAdd, Nat.reduceLT, Nat.reduceLeDiff, Nat.reduceEqDiff, Nat.reduceSub]
  exact ⟨fun z => absurd z (by decide), fun _ => rfl⟩
theorem c_JS_isLatin1 : MX (phS q v f) M_JS_isLatin1 [.ref q] h (some (.int (nI 1))) h := by
  refine MX.of (lv := [some (.ref q)]) 0 rfl (by decide) (Nat.le_of_ble_eq_true rfl) (sn_JS_isLatin1_0 _ _ _ ?_)
  simp only [vc_JS_isLatin1_0, vc_JS_isLatin1_17, vc_JS_isLatin1_18, qi_val, qi_gtS, qi_push, qi_pushl, qi_iload, qi_lload, qi_aload, qi_istore, qi_astore, qi_lstore, qi_iinc, qi_iadd, qi_isub, qi_imul, qi_iand, qi_ior, qi_ixor, qi_ishl, qi_ishr, qi_iushr, qi_idiv, qi_irem, qi_lor, qi_lmul, qi_ladd, qi_lsub, qi_land, qi_lshl, qi_lshr, qi_i2l, qi_l2i, qi_i2c, qi_lcmp, qi_dup, qi_dup2, qi_pop, qi_if_eq, qi_icmp_eq, qi_if_ne, qi_icmp_ne, qi_if_lt, qi_icmp_lt, qi_if_ge, qi_icmp_ge, qi_if_gt, qi_icmp_gt, qi_if_le, qi_icmp_le, qi_sw, qi_get, qi_put, qi_iald, qi_lald, qi_aald, qi_iast, qi_zast, qi_cast, qi_last, qi_aast, qi_alen, qi_new, qi_newa, qi_newq, qi_obj, qi_invS, qi_invV, qi_invI, qi_iret, qi_zret, qi_lret, qi_vret, qi_acopy, qi_max, qi_min, at_o, at_i, at_l, at_q, at_a, lget, lset, lclr, lnon, lnth, spl, shrt, rpush, true_and, and_true, List.set, List.length, Nat.reduceAdd, Nat.reduceLT, Nat.reduceLeDiff, Nat.reduceEqDiff, Nat.reduceSub]
  exact ⟨fun z => absurd z (by decide), fun _ => ⟨fun z => absurd trivial z, fun _ => Or.inr (by decide)⟩⟩
theorem c_JS_length : MX (phS q v f) M_JS_length [.ref q] h (some (.int (nI 73))) h := by
  refine MX.of (lv := [some (.ref q)]) 0 rfl (by decide) (Nat.le_of_ble_eq_true rfl) (sn_JS_length_0 _ _ _ ?_)
  simp only [vc_JS_length_0, qi_gtS, qi_alS, qi_invT, qi_push, qi_pushl, qi_iload, qi_lload, qi_aload, qi_istore, qi_astore, qi_lstore, qi_iinc, qi_iadd, qi_isub, qi_imul, qi_iand, qi_ior, qi_ixor, qi_ishl, qi_ishr, qi_iushr, qi_idiv, qi_irem, qi_lor, qi_lmul, qi_ladd, qi_lsub, qi_land, qi_lshl, qi_lshr, qi_i2l, qi_l2i, qi_i2c, qi_lcmp, qi_dup, qi_dup2, qi_pop, qi_if_eq, qi_icmp_eq, qi_if_ne, qi_icmp_ne, qi_if_lt, qi_icmp_lt, qi_if_ge, qi_icmp_ge, qi_if_gt, qi_icmp_gt, qi_if_le, qi_icmp_le, qi_sw, qi_get, qi_put, qi_iald, qi_lald, qi_aald, qi_iast, qi_zast, qi_cast, qi_last, qi_aast, qi_alen, qi_new, qi_newa, qi_newq, qi_obj, qi_invS, qi_invV, qi_invI, qi_iret, qi_zret, qi_lret, qi_vret, qi_acopy, qi_max, qi_min, at_o, at_i, at_l, at_q, at_a, lget, lset, lclr, lnon, lnth, spl, shrt, rpush, true_and, and_true, List.set, List.length, Nat.reduceAdd, Nat.reduceLT, Nat.reduceLeDiff, Nat.reduceEqDiff, Nat.reduceSub]
  refine ⟨_, _, c_JS_coder, ?_⟩
  simp only [qi_push, qi_pushl, qi_iload, qi_lload, qi_aload, qi_istore, qi_astore, qi_lstore, qi_iinc, qi_iadd, qi_isub, qi_imul, qi_iand, qi_ior, qi_ixor, qi_ishl, qi_ishr, qi_iushr, qi_idiv, qi_irem, qi_lor, qi_lmul, qi_ladd, qi_lsub, qi_land, qi_lshl, qi_lshr, qi_i2l, qi_l2i, qi_i2c, qi_lcmp, qi_dup, qi_dup2, qi_pop, qi_if_eq, qi_icmp_eq, qi_if_ne, qi_icmp_ne, qi_if_lt, qi_icmp_lt, qi_if_ge, qi_icmp_ge, qi_if_gt, qi_icmp_gt, qi_if_le, qi_icmp_le, qi_sw, qi_get, qi_put, qi_iald, qi_lald, qi_aald, qi_iast, qi_zast, qi_cast, qi_last, qi_aast, qi_alen, qi_new, qi_newa, qi_newq, qi_obj, qi_invS, qi_invV, qi_invI, qi_iret, qi_zret, qi_lret, qi_vret, qi_acopy, qi_max, qi_min, at_o, at_i, at_l, at_q, at_a, lget, lset, lclr, lnon, lnth, spl, shrt, rpush, true_and, and_true, List.set, List.length, Nat.reduceAdd, Nat.reduceLT, Nat.reduceLeDiff, Nat.reduceEqDiff, Nat.reduceSub]
  exact congrArg (fun x => some (Value.int x)) (by decide)
theorem c_JS_checkIndex {i : Nat} (hi : i < 73) : MX (phS q v f) M_JS_checkIndex [.int (nI i), .int (nI 73)] h none h := by
  refine MX.of (lv := [some (.int (nI i)), some (.int (nI 73))]) 0 rfl (by decide) (Nat.le_of_ble_eq_true rfl) (sn_JS_checkIndex_0 _ _ _ ?_)
  simp only [vc_JS_checkIndex_0, qi_val, qi_push, qi_pushl, qi_iload, qi_lload, qi_aload, qi_istore, qi_astore, qi_lstore, qi_iinc, qi_iadd, qi_isub, qi_imul, qi_iand, qi_ior, qi_ixor, qi_ishl, qi_ishr, qi_iushr, qi_idiv, qi_irem, qi_lor, qi_lmul, qi_ladd, qi_lsub, qi_land, qi_lshl, qi_lshr, qi_i2l, qi_l2i, qi_i2c, qi_lcmp, qi_dup, qi_dup2, qi_pop, qi_if_eq, qi_icmp_eq, qi_if_ne, qi_icmp_ne, qi_if_lt, qi_icmp_lt, qi_if_ge, qi_icmp_ge, qi_if_gt, qi_icmp_gt, qi_if_le, qi_icmp_le, qi_sw, qi_get, qi_put, qi_iald, qi_lald, qi_aald, qi_iast, qi_zast, qi_cast, qi_last, qi_aast, qi_alen, qi_new, qi_newa, qi_newq, qi_obj, qi_invS, qi_invV, qi_invI, qi_iret, qi_zret, qi_lret, qi_vret, qi_acopy, qi_max, qi_min, at_o, at_i, at_l, at_q, at_a, lget, lset, lclr, lnon, lnth, spl, shrt, rpush, true_and, and_true, List.set, List.length, Nat.reduceAdd, Nat.reduceLT, Nat.reduceLeDiff, Nat.reduceEqDiff, Nat.reduceSub]
  refine ⟨_, _, c_JP_checkIndex hi, ?_⟩
  simp only [qi_push, qi_pushl, qi_iload, qi_lload, qi_aload, qi_istore, qi_astore, qi_lstore, qi_iinc, qi_iadd, qi_isub, qi_imul, qi_iand, qi_ior, qi_ixor, qi_ishl, qi_ishr, qi_iushr, qi_idiv, qi_irem, qi_lor, qi_lmul, qi_ladd, qi_lsub, qi_land, qi_lshl, qi_lshr, qi_i2l, qi_l2i, qi_i2c, qi_lcmp, qi_dup, qi_dup2, qi_pop, qi_if_eq, qi_icmp_eq, qi_if_ne, qi_icmp_ne, qi_if_lt, qi_icmp_lt, qi_if_ge, qi_icmp_ge, qi_if_gt, qi_icmp_gt, qi_if_le, qi_icmp_le, qi_sw, qi_get, qi_put, qi_iald, qi_lald, qi_aald, qi_iast, qi_zast, qi_cast, qi_last, qi_aast, qi_alen, qi_new, qi_newa, qi_newq, qi_obj, qi_invS, qi_invV, qi_invI, qi_iret, qi_zret, qi_lret, qi_vret, qi_acopy, qi_max, qi_min, at_o, at_i, at_l, at_q, at_a, lget, lset, lclr, lnon, lnth, spl, shrt, rpush, true_and, and_true, List.set, List.length, Nat.reduceAdd, Nat.reduceLT, Nat.reduceLeDiff, Nat.reduceEqDiff, Nat.reduceSub]
theorem lt_chr : ∀ i, i < 73 → ((nI (ltF i) &&& nI 255).toUInt32 % 65536).toInt32 = nI (ltF i) := by decide +kernel
theorem lt_nar : ∀ i, i < 73 → ((nI (ltF i)).toUInt32 % 65536).toInt32 = nI (ltF i) := by decide +kernel
theorem c_JL_charAt {i : Nat} (hi : i < 73) : MX (phS q v f) M_JL_charAt [.ref v, .int (nI i)] h (some (.int (nI (ltF i)))) h := by
  refine MX.of (lv := [some (.ref v), some (.int (nI i))]) 0 rfl (by decide) (Nat.le_of_ble_eq_true rfl) (sn_JL_charAt_0 _ _ _ ?_)
  simp only [vc_JL_charAt_0, qi_alS, qi_push, qi_pushl, qi_iload, qi_lload, qi_aload, qi_istore, qi_astore, qi_lstore, qi_iinc, qi_iadd, qi_isub, qi_imul, qi_iand, qi_ior, qi_ixor, qi_ishl, qi_ishr, qi_iushr, qi_idiv, qi_irem, qi_lor, qi_lmul, qi_ladd, qi_lsub, qi_land, qi_lshl, qi_lshr, qi_i2l, qi_l2i, qi_i2c, qi_lcmp, qi_dup, qi_dup2, qi_pop, qi_if_eq, qi_icmp_eq, qi_if_ne, qi_icmp_ne, qi_if_lt, qi_icmp_lt, qi_if_ge, qi_icmp_ge, qi_if_gt, qi_icmp_gt, qi_if_le, qi_icmp_le, qi_sw, qi_get, qi_put, qi_iald, qi_lald, qi_aald, qi_iast, qi_zast, qi_cast, qi_last, qi_aast, qi_alen, qi_new, qi_newa, qi_newq, qi_obj, qi_invS, qi_invV, qi_invI, qi_iret, qi_zret, qi_lret, qi_vret, qi_acopy, qi_max, qi_min, at_o, at_i, at_l, at_q, at_a, lget, lset, lclr, lnon, lnth, spl, shrt, rpush, true_and, and_true, List.set, List.length, Nat.reduceAdd, Nat.reduceLT, Nat.reduceLeDiff, Nat.reduceEqDiff, Nat.reduceSub]
  refine ⟨_, _, c_JS_checkIndex hi, ?_⟩
  have v1 : vp_in (nI i) 73 := vp_in_nI (by omega) (by omega)
  have q1 : (nI i).toNatClampNeg = i := nI_clamp (by omega)
  simp only [qi_bS, qi_nret, qi_push, qi_pushl, qi_iload, qi_lload, qi_aload, qi_istore, qi_astore, qi_lstore, qi_iinc, qi_iadd, qi_isub, qi_imul, qi_iand, qi_ior, qi_ixor, qi_ishl, qi_ishr, qi_iushr, qi_idiv, qi_irem, qi_lor, qi_lmul, qi_ladd, qi_lsub, qi_land, qi_lshl, qi_lshr, qi_i2l, qi_l2i, qi_i2c, qi_lcmp, qi_dup, qi_dup2, qi_pop, qi_if_eq, qi_icmp_eq, qi_if_ne, qi_icmp_ne, qi_if_lt, qi_icmp_lt, qi_if_ge, qi_icmp_ge, qi_if_gt, qi_icmp_gt, qi_if_le, qi_icmp_le, qi_sw, qi_get, qi_put, qi_iald, qi_lald, qi_aald, qi_iast, qi_zast, qi_cast, qi_last, qi_aast, qi_alen, qi_new, qi_newa, qi_newq, qi_obj, qi_invS, qi_invV, qi_invI, qi_iret, qi_zret, qi_lret, qi_vret, qi_acopy, qi_max, qi_min, at_o, at_i, at_l, at_q, at_a, lget, lset, lclr, lnon, lnth, spl, shrt, rpush, true_and, and_true, List.set, List.length, Nat.reduceAdd, Nat.reduceLT, Nat.reduceLeDiff, Nat.reduceEqDiff, Nat.reduceSub, v1, q1, lt_chr i hi]
  exact congrArg Value.int (lt_nar i hi)
theorem c_JS_charAt {i : Nat} (hi : i < 73) : MX (phS q v f) M_JS_charAt [.ref q, .int (nI i)] h (some (.int (nI (ltF i)))) h := by
  refine MX.of (lv := [some (.ref q), some (.int (nI i))]) 0 rfl (by decide) (Nat.le_of_ble_eq_true rfl) (sn_JS_charAt_0 _ _ _ ?_)
  simp only [vc_JS_charAt_0, qi_invT, qi_push, qi_pushl, qi_iload, qi_lload, qi_aload, qi_istore, qi_astore, qi_lstore, qi_iinc, qi_iadd, qi_isub, qi_imul, qi_iand, qi_ior, qi_ixor, qi_ishl, qi_ishr, qi_iushr, qi_idiv, qi_irem, qi_lor, qi_lmul, qi_ladd, qi_lsub, qi_land, qi_lshl, qi_lshr, qi_i2l, qi_l2i, qi_i2c, qi_lcmp, qi_dup, qi_dup2, qi_pop, qi_if_eq, qi_icmp_eq, qi_if_ne, qi_icmp_ne, qi_if_lt, qi_icmp_lt, qi_if_ge, qi_icmp_ge, qi_if_gt, qi_icmp_gt, qi_if_le, qi_icmp_le, qi_sw, qi_get, qi_put, qi_iald, qi_lald, qi_aald, qi_iast, qi_zast, qi_cast, qi_last, qi_aast, qi_alen, qi_new, qi_newa, qi_newq, qi_obj, qi_invS, qi_invV, qi_invI, qi_iret, qi_zret, qi_lret, qi_vret, qi_acopy, qi_max, qi_min, at_o, at_i, at_l, at_q, at_a, lget, lset, lclr, lnon, lnth, spl, shrt, rpush, true_and, and_true, List.set, List.length, Nat.reduceAdd, Nat.reduceLT, Nat.reduceLeDiff, Nat.reduceEqDiff, Nat.reduceSub]
  refine ⟨_, _, c_JS_isLatin1, ?_⟩
  simp only [qi_gtS, qi_push, qi_pushl, qi_iload, qi_lload, qi_aload, qi_istore, qi_astore, qi_lstore, qi_iinc, qi_iadd, qi_isub, qi_imul, qi_iand, qi_ior, qi_ixor, qi_ishl, qi_ishr, qi_iushr, qi_idiv, qi_irem, qi_lor, qi_lmul, qi_ladd, qi_lsub, qi_land, qi_lshl, qi_lshr, qi_i2l, qi_l2i, qi_i2c, qi_lcmp, qi_dup, qi_dup2, qi_pop, qi_if_eq, qi_icmp_eq, qi_if_ne, qi_icmp_ne, qi_if_lt, qi_icmp_lt, qi_if_ge, qi_icmp_ge, qi_if_gt, qi_icmp_gt, qi_if_le, qi_icmp_le, qi_sw, qi_get, qi_put, qi_iald, qi_lald, qi_aald, qi_iast, qi_zast, qi_cast, qi_last, qi_aast, qi_alen, qi_new, qi_newa, qi_newq, qi_obj, qi_invS, qi_invV, qi_invI, qi_iret, qi_zret, qi_lret, qi_vret, qi_acopy, qi_max, qi_min, at_o, at_i, at_l, at_q, at_a, lget, lset, lclr, lnon, lnth, spl, shrt, rpush, true_and, and_true, List.set, List.length, Nat.reduceAdd, Nat.reduceLT, Nat.reduceLeDiff, Nat.reduceEqDiff, Nat.reduceSub]
  refine ⟨fun z => absurd z (by decide), fun _ => ⟨_, _, c_JL_charAt hi, ?_⟩⟩
  simp only [qi_nret, qi_push, qi_pushl, qi_iload, qi_lload, qi_aload, qi_istore, qi_astore, qi_lstore, qi_iinc, qi_iadd, qi_isub, qi_imul, qi_iand, qi_ior, qi_ixor, qi_ishl, qi_ishr, qi_iushr, qi_idiv, qi_irem, qi_lor, qi_lmul, qi_ladd, qi_lsub, qi_land, qi_lshl, qi_lshr, qi_i2l, qi_l2i, qi_i2c, qi_lcmp, qi_dup, qi_dup2, qi_pop, qi_if_eq, qi_icmp_eq, qi_if_ne, qi_icmp_ne, qi_if_lt, qi_icmp_lt, qi_if_ge, qi_icmp_ge, qi_if_gt, qi_icmp_gt, qi_if_le, qi_icmp_le, qi_sw, qi_get, qi_put, qi_iald, qi_lald, qi_aald, qi_iast, qi_zast, qi_cast, qi_last, qi_aast, qi_alen, qi_new, qi_newa, qi_newq, qi_obj, qi_invS, qi_invV, qi_invI, qi_iret, qi_zret, qi_lret, qi_vret, qi_acopy, qi_max, qi_min, at_o, at_i, at_l, at_q, at_a, lget, lset, lclr, lnon, lnth, spl, shrt, rpush, true_and, and_true, List.set, List.length, Nat.reduceAdd, Nat.reduceLT, Nat.reduceLeDiff, Nat.reduceEqDiff, Nat.reduceSub]
  exact congrArg Value.int (lt_nar i hi)
end TX
/-- a heap that says the same -/
theorem cx.same {Ph : Nat → State → Prop} {M : hc_M} {h0 hf h h2 : hc_H} {r : Option Value} {pc : Nat} {lv : hc_L} {st : List Value} (e : ∀ D tc bs H, hc_W D tc bs h H → hc_W D tc bs h2 H) (e2 : h2.2 = h.2) (k : cx Ph M h0 hf r pc lv st h2) : cx Ph M h0 hf r pc lv st h := by
  obtain ⟨k1, k2⟩ := k
  rw [e2] at k1 k2
  exact ⟨k1, fun p l e' s m args below meth c D tc bs X g1 g2 H locs ls hW hS hl => k2 p l e' s m args below meth c D tc bs X g1 g2 H locs ls (e D tc bs H hW) hS hl⟩
theorem hcW_cong {D : va_G} {tc : Nat → ClassId} {bs a n : Nat} {g : hc_H} {H : Heap} {F F2 : Nat → Option Nat} (hW : hc_W D tc bs g H) (h1 : g.1 a = some (.inl (4, n, .inr (.inr (.inr (.inr F)))))) (hF : ∀ j, j < n → F j = F2 j) : hc_W D tc bs (hc_set g a (.inl (4, n, .inr (.inr (.inr (.inr F2)))))) H := by
  refine ⟨hW.1, hW.2.1, fun x e hx => ?_⟩
  simp only [hc_set] at hx
  by_cases e1 : x = a
  · rw [if_pos e1] at hx
    cases hx
    subst e1
    obtain ⟨b1, b2⟩ := hW.2.2 x _ h1
    refine ⟨b1, ?_⟩
    have b2 : H[x]? = some (arrV (tc 4) n (fun j => va_rf (F j))) := b2
    show H[x]? = some (arrV (tc 4) n (fun j => va_rf (F2 j)))
    rw [b2, arrV_congr (fun j hj => by rw [hF j hj])]
  · rw [if_neg e1] at hx
    exact hW.2.2 x e hx
theorem isPl.same {h h' : hc_H} {p n : Nat} {c : Int32} {T B A J S : Nat → Nat} (hr : isPl h p n c T B A J S) (f : ∀ x, p ≤ x → x < p + 6 → h'.1 x = h.1 x) : isPl h' p n c T B A J S := by
  obtain ⟨e0, e1, e2, e3, e4, e5⟩ := hr
  refine ⟨?_, ?_, ?_, ?_, ?_, ?_⟩ <;> rw [f _ (by omega) (by omega)] <;> assumption
theorem c_H_init {h : hc_H} {a s : Nat} (hp : h.1 a = some (.inr (1, [.null, .int 0]))) (h2 : h.2 = (a + 1, s)) : ∃ h', MA M_H_init [.ref a] h none h' ∧ (∃ K, isPa h' a 0 K (fun _ => pv0)) ∧ frA h h' a 38 408 := by
  let G : Nat → hc_H → Prop := fun i g => g.1 a = some (.inr (1, [.ref (a + 1), .int 0])) ∧ (∃ F : Nat → Option Nat, g.1 (a + 1) = some (.inl (4, 6, .inr (.inr (.inr (.inr F))))) ∧ ∀ j, j < i → F j = some (a + 2 + 6 * j)) ∧ (∀ j, j < i → isPv g (a + 2 + 6 * j) pv0) ∧ g.2 = (a + 2 + 6 * i, s + 6 + 67 * i) ∧ ∀ x, ¬ (a ≤ x ∧ x < a + 2 + 6 * i) → g.1 x = h.1 x
  have lpq := lp_up (P := fun i => ∀ g, G i g → ∃ h', (∃ K, isPa h' a 0 K (fun _ => pv0)) ∧ frA h h' a 38 408 ∧ cx hc_tt M_H_init h h' none 15 [some (.ref a), some (.int (nI i))] [] g) (n := 6)
    (by
      rintro g ⟨g1, ⟨F, g2, g3⟩, g4, g5, g6⟩
      refine ⟨hc_set g (a + 1) (.inl (4, 6, .inr (.inr (.inr (.inr (fun j => some (a + 2 + 6 * j))))))), ⟨fun j => a + 2 + 6 * j, ?_, hs_eq _ _ _, fun i hi => ⟨i, hi, rfl⟩, fun i j _ _ e => by have e : a + 2 + 6 * i = a + 2 + 6 * j := e; omega, fun i hi => ?_⟩, ⟨?_, fun x hx => ?_⟩, ?_⟩
      · rw [hs_ne _ _ (by omega), g1]; rfl
      · exact (g4 i hi).same (fun x h1 h3 => by rw [hs_ne _ _ (by omega)])
      · show g.2 = _
        rw [g5, h2]
      · rw [hs_ne _ _ (by omega), g6 x (by omega)]
      · refine cx.same (fun D tc bs H hW => hcW_cong hW g2 g3) rfl (sn_H_init_15 _ _ _ ?_)
        have o1 : (hc_set g (a + 1) (.inl (4, 6, .inr (.inr (.inr (.inr (fun j => some (a + 2 + 6 * j)))))))).1 a = some (.inr (1, [.ref (a + 1), .int 0])) := by rw [hs_ne _ _ (by omega), g1]
        simp only [vc_H_init_15, vc_H_init_40, qi_push, qi_pushl, qi_iload, qi_lload, qi_aload, qi_istore, qi_astore, qi_lstore, qi_iinc, qi_iadd, qi_isub, qi_imul, qi_iand, qi_ior, qi_ixor, qi_ishl, qi_ishr, qi_iushr, qi_idiv, qi_irem, qi_lor, qi_lmul, qi_ladd, qi_lsub, qi_land, qi_lshl, qi_lshr, qi_i2l, qi_l2i, qi_i2c, qi_lcmp, qi_dup, qi_dup2, qi_pop, qi_if_eq, qi_icmp_eq, qi_if_ne, qi_icmp_ne, qi_if_lt, qi_icmp_lt, qi_if_ge, qi_icmp_ge, qi_if_gt, qi_icmp_gt, qi_if_le, qi_icmp_le, qi_sw, qi_get, qi_put, qi_iald, qi_lald, qi_aald, qi_iast, qi_zast, qi_cast, qi_last, qi_aast, qi_alen, qi_new, qi_newa, qi_newq, qi_obj, qi_invS, qi_invV, qi_invI, qi_iret, qi_zret, qi_lret, qi_vret, qi_acopy, qi_max, qi_min, at_o, at_i, at_l, at_q, at_a, lget, lset, lclr, lnon, lnth, spl, shrt, rpush, true_and, and_true, List.set, List.length, Nat.reduceAdd, Nat.reduceLT, Nat.reduceLeDiff, Nat.reduceEqDiff, Nat.reduceSub, o1]
        exact ⟨fun _ => (by first | trivial | exact ⟨rfl, rfl⟩), fun z => absurd (nI_le (Nat.le_refl _) (by omega)) z⟩)
    (fun i hi ih g hG => by
      obtain ⟨g1, ⟨F, g2, g3⟩, g4, g5, g6⟩ := hG
      obtain ⟨n, en⟩ : ∃ x, hc_new g (.inr (2, [.int 0, .int 0, .null, .null, .null, .null, .null])) 7 = x := ⟨_, rfl⟩
      have q5 : g.2.1 = a + 2 + 6 * i := by rw [g5]
      have n1 : n.1 (a + 2 + 6 * i) = some (.inr (2, [.int 0, .int 0, .null, .null, .null, .null, .null])) := by rw [← en, hn_at, q5, if_pos rfl]
      have n2 : n.2 = (a + 2 + 6 * i + 1, s + 6 + 67 * i + 7) := by rw [← en, hn_2, g5]
      have n3 : ∀ x, ¬ x = a + 2 + 6 * i → n.1 x = g.1 x := fun x hx => by rw [← en, hn_at, q5, if_neg hx]
      obtain ⟨h1, c1, c2, c3, c4⟩ := c_P_init n1 (by rw [n2])
      have o0 := c2.1
      have o1 : h1.1 a = some (.inr (1, [.ref (a + 1), .int 0])) := by rw [c4 _ (by omega), n3 _ (by omega), g1]
      have o2 : h1.1 (a + 1) = some (.inl (4, 6, .inr (.inr (.inr (.inr F))))) := by rw [c4 _ (by omega), n3 _ (by omega), g2]
      obtain ⟨h2', e2'⟩ : ∃ x, hc_set h1 (a + 1) (.inl (4, 6, .inr (.inr (.inr (.inr (va_up F i (some (a + 2 + 6 * i)))))))) = x := ⟨_, rfl⟩
      have G2 : G (i + 1) h2' := by
        subst e2'
        refine ⟨by rw [hs_ne _ _ (by omega), o1], ⟨_, hs_eq _ _ _, fun j hj => ?_⟩, fun j hj => ?_, ?_, fun x hx => ?_⟩
        · by_cases e : j = i
          · subst e; show (if j = j then _ else _) = _; rw [if_pos rfl]
          · show (if j = i then _ else F j) = _
            rw [if_neg e, g3 j (by omega)]
        · by_cases e : j = i
          · subst e
            have c2' : isPv h1 (a + 2 + 6 * j) pv0 := c2
            exact c2'.same (fun x h1 h3 => by rw [hs_ne _ _ (by omega)])
          · exact (g4 j (by omega)).same (fun x h1 h3 => by rw [hs_ne _ _ (by omega), c4 _ (by omega), n3 _ (by omega)])
        · show h1.2 = _
          rw [c3, n2]
          exact Prod.ext (by show _ = a + 2 + 6 * (i + 1); omega) (by show _ = s + 6 + 67 * (i + 1); omega)
        · rw [hs_ne _ _ (by omega), c4 _ (by omega), n3 _ (by omega), g6 x (by omega)]
      obtain ⟨h', z1, z2, z3⟩ := ih h2' G2
      refine ⟨h', z1, z2, sn_H_init_15 _ _ _ ?_⟩
      have v1 : vp_in (nI i) 6 := vp_in_nI (by omega) (by omega)
      have q1 : (nI i).toNatClampNeg = i := nI_clamp (by omega)
      simp only [vc_H_init_15, qi_push, qi_pushl, qi_iload, qi_lload, qi_aload, qi_istore, qi_astore, qi_lstore, qi_iinc, qi_iadd, qi_isub, qi_imul, qi_iand, qi_ior, qi_ixor, qi_ishl, qi_ishr, qi_iushr, qi_idiv, qi_irem, qi_lor, qi_lmul, qi_ladd, qi_lsub, qi_land, qi_lshl, qi_lshr, qi_i2l, qi_l2i, qi_i2c, qi_lcmp, qi_dup, qi_dup2, qi_pop, qi_if_eq, qi_icmp_eq, qi_if_ne, qi_icmp_ne, qi_if_lt, qi_icmp_lt, qi_if_ge, qi_icmp_ge, qi_if_gt, qi_icmp_gt, qi_if_le, qi_icmp_le, qi_sw, qi_get, qi_put, qi_iald, qi_lald, qi_aald, qi_iast, qi_zast, qi_cast, qi_last, qi_aast, qi_alen, qi_new, qi_newa, qi_newq, qi_obj, qi_invS, qi_invV, qi_invI, qi_iret, qi_zret, qi_lret, qi_vret, qi_acopy, qi_max, qi_min, at_o, at_i, at_l, at_q, at_a, lget, lset, lclr, lnon, lnth, spl, shrt, rpush, true_and, and_true, List.set, List.length, Nat.reduceAdd, Nat.reduceLT, Nat.reduceLeDiff, Nat.reduceEqDiff, Nat.reduceSub, g1, en, q5]
      refine ⟨fun z => absurd z (nI_ge hi (by omega)), fun _ => ⟨_, _, c1, ?_⟩⟩
      simp only [qi_push, qi_pushl, qi_iload, qi_lload, qi_aload, qi_istore, qi_astore, qi_lstore, qi_iinc, qi_iadd, qi_isub, qi_imul, qi_iand, qi_ior, qi_ixor, qi_ishl, qi_ishr, qi_iushr, qi_idiv, qi_irem, qi_lor, qi_lmul, qi_ladd, qi_lsub, qi_land, qi_lshl, qi_lshr, qi_i2l, qi_l2i, qi_i2c, qi_lcmp, qi_dup, qi_dup2, qi_pop, qi_if_eq, qi_icmp_eq, qi_if_ne, qi_icmp_ne, qi_if_lt, qi_icmp_lt, qi_if_ge, qi_icmp_ge, qi_if_gt, qi_icmp_gt, qi_if_le, qi_icmp_le, qi_sw, qi_get, qi_put, qi_iald, qi_lald, qi_aald, qi_iast, qi_zast, qi_cast, qi_last, qi_aast, qi_alen, qi_new, qi_newa, qi_newq, qi_obj, qi_invS, qi_invV, qi_invI, qi_iret, qi_zret, qi_lret, qi_vret, qi_acopy, qi_max, qi_min, at_o, at_i, at_l, at_q, at_a, lget, lset, lclr, lnon, lnth, spl, shrt, rpush, true_and, and_true, List.set, List.length, Nat.reduceAdd, Nat.reduceLT, Nat.reduceLeDiff, Nat.reduceEqDiff, Nat.reduceSub, o0, o2, v1, q1, e2', nI_add]
      exact z3)
  obtain ⟨n0, en0⟩ : ∃ x, hc_new h (.inl (4, 6, .inr (.inr (.inr (.inr (fun _ => none)))))) 6 = x := ⟨_, rfl⟩
  have q2 : h.2.1 = a + 1 := by rw [h2]
  have k1 : n0.1 a = some (.inr (1, [.null, .int 0])) := by rw [← en0, hn_at, q2, if_neg (by omega), hp]
  have k2 : n0.1 (a + 1) = some (.inl (4, 6, .inr (.inr (.inr (.inr (fun _ => none)))))) := by rw [← en0, hn_at, q2, if_pos rfl]
  have k3 : n0.2 = (a + 2, s + 6) := by rw [← en0, hn_2, h2]
  have k4 : ∀ x, ¬ x = a + 1 → n0.1 x = h.1 x := fun x hx => by rw [← en0, hn_at, q2, if_neg hx]
  obtain ⟨h', z1, z2, z3⟩ := lpq 0 (by omega) (hc_set n0 a (.inr (1, [.ref (a + 1), .int 0]))) ⟨hs_eq _ _ _, ⟨_, by rw [hs_ne _ _ (by omega), k2], fun j hj => by omega⟩, fun j hj => by omega, k3, fun x hx => by rw [hs_ne _ _ (by omega), k4 x (by omega)]⟩
  refine ⟨h', MX.of (lv := [some (.ref a), none]) 1 rfl (by decide) (Nat.le_of_ble_eq_true rfl) (sn_H_init_0 _ _ _ ?_), z1, z2⟩
  have w6 : (nI 6).toNatClampNeg = 6 := nI_clamp (by omega)
  simp only [vc_H_init_0, qi_push, qi_pushl, qi_iload, qi_lload, qi_aload, qi_istore, qi_astore, qi_lstore, qi_iinc, qi_iadd, qi_isub, qi_imul, qi_iand, qi_ior, qi_ixor, qi_ishl, qi_ishr, qi_iushr, qi_idiv, qi_irem, qi_lor, qi_lmul, qi_ladd, qi_lsub, qi_land, qi_lshl, qi_lshr, qi_i2l, qi_l2i, qi_i2c, qi_lcmp, qi_dup, qi_dup2, qi_pop, qi_if_eq, qi_icmp_eq, qi_if_ne, qi_icmp_ne, qi_if_lt, qi_icmp_lt, qi_if_ge, qi_icmp_ge, qi_if_gt, qi_icmp_gt, qi_if_le, qi_icmp_le, qi_sw, qi_get, qi_put, qi_iald, qi_lald, qi_aald, qi_iast, qi_zast, qi_cast, qi_last, qi_aast, qi_alen, qi_new, qi_newa, qi_newq, qi_obj, qi_invS, qi_invV, qi_invI, qi_iret, qi_zret, qi_lret, qi_vret, qi_acopy, qi_max, qi_min, at_o, at_i, at_l, at_q, at_a, lget, lset, lclr, lnon, lnth, spl, shrt, rpush, true_and, and_true, List.set, List.length, Nat.reduceAdd, Nat.reduceLT, Nat.reduceLeDiff, Nat.reduceEqDiff, Nat.reduceSub, w6, en0, q2, k1]
  exact ⟨nI_pos (by omega), hc_fit_a, z3⟩
/-- reading leaves what lies beyond the tasks -/
def bey (v : pv) : Prop := v.1 ≤ 12 ∧ ∀ y, 12 ≤ y → v.2.2.1 y = 0 ∧ v.2.2.2.1 y = 0 ∧ v.2.2.2.2.1 y = 0 ∧ v.2.2.2.2.2.1 y = 0
theorem prs_bey {g : Nat → Nat} {a b y : Nat} {w : Bool} (ha : a < 12) (hb : b < 12) (hy : 12 ≤ y) : prs g a b w y = g y := by
  unfold prs
  rw [up_ne (by omega), up_ne (by omega)]
theorem itC_bey {L : Nat → Nat} {x e : Nat} {v w : pv} (hv : bey v) (h : itC L x e v = some w) : bey w := by
  obtain ⟨h1, h2⟩ := hv
  unfold itC at h
  split at h
  · split at h
    · split at h
      · split at h
        · cases h; exact ⟨h1, h2⟩
        · cases h
      · cases h
    · cases h
  · split at h
    · split at h
      · split at h
        · rename_i k _ q
          cases h
          refine ⟨by show v.1 + 1 ≤ 12; omega, fun y hy => ?_⟩
          obtain ⟨a1, a2⟩ := h2 y hy
          exact ⟨by show va_up v.2.2.1 v.1 k y = 0; rw [up_ne (by omega)]; exact a1, a2⟩
        · cases h
      · cases h
    · split at h
      · unfold itP at h
        split at h
        · rename_i q
          split at h
          · split at h
            · cases h
            · cases h
              refine ⟨h1, fun y hy => ?_⟩
              obtain ⟨a1, a2, a3⟩ := h2 y hy
              exact ⟨a1, by show va_up v.2.2.2.1 _ _ y = 0; rw [up_ne (by omega)]; exact a2, a3⟩
          · split at h
            · cases h
            · cases h
              refine ⟨h1, fun y hy => ?_⟩
              obtain ⟨a1, a2, a3, a4⟩ := h2 y hy
              exact ⟨a1, a2, by show prs v.2.2.2.2.1 _ _ _ y = 0; rw [prs_bey (by omega) (by omega) hy]; exact a3, by show prs v.2.2.2.2.2.1 _ _ _ y = 0; rw [prs_bey (by omega) (by omega) hy]; exact a4⟩
        · cases h
      · cases h
theorem rdC_bey {L : Nat → Nat} {len : Nat} : ∀ k x v, bey v → bey (rdC L len k x v).2 := by
  intro k
  induction k with
  | zero => intro x v h; exact h
  | succ k ih =>
    intro x v h
    unfold rdC
    split
    · exact h
    · split
      · exact h
      · split
        · exact h
        · rename_i w hw
          exact ih _ _ (itC_bey h hw)
theorem rdF_1 : (rdC ltF 73 200 0 pv0).1 = none := by decide +kernel
theorem rdF_2 : (rdC ltF 73 200 0 pv0).2.1 = 9 := by decide +kernel
theorem rdF_3 : (rdC ltF 73 200 0 pv0).2.2.1 = nI 20 := by decide +kernel
theorem rdF_4 : ∀ j, j < 12 → (rdC ltF 73 200 0 pv0).2.2.2.1 j = tI j ∧ (rdC ltF 73 200 0 pv0).2.2.2.2.1 j = bI j ∧ (rdC ltF 73 200 0 pv0).2.2.2.2.2.1 j = aI j ∧ (rdC ltF 73 200 0 pv0).2.2.2.2.2.2.1 j = jI j := by decide +kernel
theorem ini_bey : ∀ y, 12 ≤ y → tI y = 0 ∧ bI y = 0 ∧ aI y = 0 ∧ jI y = 0 := fun y hy => by
  refine ⟨?_, ?_, ?_, ?_⟩
  · unfold tI; rw [up_ne (by omega), up_ne (by omega), up_ne (by omega), up_ne (by omega), up_ne (by omega), up_ne (by omega), up_ne (by omega), up_ne (by omega), up_ne (by omega)]
  · unfold bI; rw [up_ne (by omega), up_ne (by omega), up_ne (by omega), up_ne (by omega), up_ne (by omega), up_ne (by omega), up_ne (by omega), up_ne (by omega), up_ne (by omega)]
  · unfold aI; rw [up_ne (by omega), up_ne (by omega)]
  · unfold jI; rw [up_ne (by omega), up_ne (by omega)]
theorem rdF : rdC ltF 73 200 0 pv0 = (none, 9, nI 20, tI, bI, aI, jI, fun _ => 0) ∧ vOk 9 20 tI bI aI jI (fun _ => 0) := by
  obtain ⟨y, r1, r2⟩ := rd_ok 200 0 pv0 rV_0 rC_0 rdF_1
  have bb := rdC_bey (L := ltF) (len := 73) 200 0 pv0 ⟨Nat.zero_le _, fun _ _ => ⟨rfl, rfl, rfl, rfl⟩⟩
  have f1 := rdF_1
  have f2 := rdF_2
  have f3 := rdF_3
  have f4 := rdF_4
  obtain ⟨w, ew⟩ : ∃ w, rdC ltF 73 200 0 pv0 = w := ⟨_, rfl⟩
  rw [ew] at r1 r2 bb f1 f2 f3 f4
  obtain ⟨o, n, c, T, B, A, J, S⟩ := w
  have f1 : o = none := f1
  have f2 : n = 9 := f2
  have f3 : c = nI 20 := f3
  subst f1 f2 f3
  have hT : T = tI := funext fun j => by
    by_cases e : j < 12
    · exact (f4 j e).1
    · exact ((bb.2 j (by omega)).1).trans (ini_bey j (by omega)).1.symm
  have hB : B = bI := funext fun j => by
    by_cases e : j < 12
    · exact (f4 j e).2.1
    · exact ((bb.2 j (by omega)).2.1).trans (ini_bey j (by omega)).2.1.symm
  have hA : A = aI := funext fun j => by
    by_cases e : j < 12
    · exact (f4 j e).2.2.1
    · exact ((bb.2 j (by omega)).2.2.1).trans (ini_bey j (by omega)).2.2.1.symm
  have hJ : J = jI := funext fun j => by
    by_cases e : j < 12
    · exact (f4 j e).2.2.2
    · exact ((bb.2 j (by omega)).2.2.2).trans (ini_bey j (by omega)).2.2.2.symm
  have hS : S = fun _ => 0 := funext fun j => r1.2.2.2.2.2.2 j
  subst hT hB hA hJ hS
  obtain ⟨C, c1, c2⟩ := rV_ok r1 r2 (by show 0 < 9; omega)
  have eC : nI C = nI 20 := by have := congrArg (fun v : pv => v.2.1) c1; exact this.symm
  have hC : C = 20 := by
    have h3 := congrArg Int32.toInt eC
    rw [nI_toInt (by have := c2.2.2.1.2; omega), nI_toInt (by omega)] at h3
    omega
  subst hC
  exact ⟨ew, c2⟩
