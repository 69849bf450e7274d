/-! PAST: keeping, bringing back; what only tests. -/
section PA
variable {h : hc_H} {a z : Nat} {K : Nat → Nat} {V : Nat → pv}
theorem keep13 {hh : hc_H} (hp : isPa h a z K V) (hz : z < 6) {q : Nat} {v : pv} (hq : isPv h q v) (hd : q + 6 ≤ a ∨ a + 38 ≤ q) : ∃ h', vc_H_keep_13 none h' (cx hc_tt M_H_keep hh h' none) [some (.ref a), some (.ref q)] [] h ∧ isPa h' a (z + 1) K (va_up V z v) ∧ frm h h' a 38 := by
  obtain ⟨e0, e1, e2, e3, e4⟩ := id hp
  obtain ⟨m, hm, hK⟩ := e2 z hz
  obtain ⟨h1, c1, p1, f1⟩ := c_P_copy (e4 z hz) hq (by rw [hK]; omega)
  have e0' : h1.1 a = some (.inr (1, [.ref (a + 1), .int (nI z)])) := by rw [f1.2 _ (by rw [hK]; omega)]; exact e0
  have f2 : frm h1 (hc_set h1 a (.inr (1, [.ref (a + 1), .int (nI (z + 1))]))) a 1 := frm.rfl'.set (by omega)
  refine ⟨hc_set h1 a (.inr (1, [.ref (a + 1), .int (nI (z + 1))])), ?_, ⟨hs_eq _ _ _, ?_, e2, e3, fun i hi => ?_⟩, (f1.mono (by rw [hK]; omega) (by rw [hK]; omega)).trans (f2.mono (by omega) (by omega))⟩
  · simp only [vc_H_keep_13, qi_push, qi_pushl, qi_iload, qi_lload, qi_aload, qi_istore, qi_astore, qi_lstore, qi_iinc, qi_iadd, qi_isub, qi_imul, qi_iand, qi_ior, qi_ixor, qi_ishl, qi_ishr, qi_iushr, qi_idiv, qi_irem, qi_lor, qi_lmul, qi_ladd, qi_lsub, qi_land, qi_lshl, qi_lshr, qi_i2l, qi_l2i, qi_i2c, qi_lcmp, qi_dup, qi_dup2, qi_pop, qi_if_eq, qi_icmp_eq, qi_if_ne, qi_icmp_ne, qi_if_lt, qi_icmp_lt, qi_if_ge, qi_icmp_ge, qi_if_gt, qi_icmp_gt, qi_if_le, qi_icmp_le, qi_sw, qi_get, qi_put, qi_iald, qi_lald, qi_aald, qi_iast, qi_zast, qi_cast, qi_last, qi_aast, qi_alen, qi_new, qi_newa, qi_newq, qi_obj, qi_invS, qi_invV, qi_invI, qi_iret, qi_zret, qi_lret, qi_vret, qi_acopy, qi_max, qi_min, at_o, at_i, at_l, at_q, at_a, lget, lset, lclr, lnon, lnth, spl, shrt, rpush, true_and, and_true, List.set, List.length, Nat.reduceAdd, Nat.reduceLT, Nat.reduceLeDiff, Nat.reduceEqDiff, Nat.reduceSub, e0, e1]
    refine ⟨vp_in_nI hz (by omega), ?_⟩
    rw [nI_clamp (by omega)]
    have o1 := (e4 z hz).1
    simp only [va_rf, o1, true_and, and_true]
    refine ⟨_, _, c1, ?_⟩
    simp only [qi_push, qi_pushl, qi_iload, qi_lload, qi_aload, qi_istore, qi_astore, qi_lstore, qi_iinc, qi_iadd, qi_isub, qi_imul, qi_iand, qi_ior, qi_ixor, qi_ishl, qi_ishr, qi_iushr, qi_idiv, qi_irem, qi_lor, qi_lmul, qi_ladd, qi_lsub, qi_land, qi_lshl, qi_lshr, qi_i2l, qi_l2i, qi_i2c, qi_lcmp, qi_dup, qi_dup2, qi_pop, qi_if_eq, qi_icmp_eq, qi_if_ne, qi_icmp_ne, qi_if_lt, qi_icmp_lt, qi_if_ge, qi_icmp_ge, qi_if_gt, qi_icmp_gt, qi_if_le, qi_icmp_le, qi_sw, qi_get, qi_put, qi_iald, qi_lald, qi_aald, qi_iast, qi_zast, qi_cast, qi_last, qi_aast, qi_alen, qi_new, qi_newa, qi_newq, qi_obj, qi_invS, qi_invV, qi_invI, qi_iret, qi_zret, qi_lret, qi_vret, qi_acopy, qi_max, qi_min, at_o, at_i, at_l, at_q, at_a, lget, lset, lclr, lnon, lnth, spl, shrt, rpush, true_and, and_true, List.set, List.length, Nat.reduceAdd, Nat.reduceLT, Nat.reduceLeDiff, Nat.reduceEqDiff, Nat.reduceSub, e0', nI_add]
    exact hc_fit_i
  · rw [hs_ne _ _ (by omega), f1.2 _ (by rw [hK]; omega)]; exact e1
  · obtain ⟨m', hm', hK'⟩ := e2 i hi
    unfold va_up
    by_cases qi : i = z
    · subst qi
      rw [if_pos rfl]
      exact isPv.keep p1 f2 (by rw [hK]; omega)
    · rw [if_neg qi]
      have nK : K i ≠ K z := fun e => qi (e3 i z hi hz e)
      have : isPv h1 (K i) (V i) := (e4 i hi).keep f1 (by rw [hK, hK'] at *; omega)
      exact this.keep f2 (by rw [hK']; omega)
theorem c_H_keep (hp : isPa h a z K V) (hz : z ≤ 6) {q : Nat} {v : pv} (hq : isPv h q v) (hd : q + 6 ≤ a ∨ a + 38 ≤ q) : ∃ h' K' V', MA M_H_keep [.ref a, .ref q] h none h' ∧ isPa h' a (if z < 6 then z + 1 else 6) K' V' ∧ frm h h' a 38 ∧ (∀ i, i < 6 → V' i = if z < 6 then va_up V z v i else if i < 5 then V (i + 1) else v) := by
  obtain ⟨e0, -⟩ := id hp
  by_cases qz : z < 6
  · obtain ⟨h', c1, p1, f1⟩ := keep13 (hh := h) hp qz hq hd
    refine ⟨h', K, va_up V z v, MX.of (lv := [some (.ref a), some (.ref q)]) 0 rfl (by decide) (Nat.le_of_ble_eq_true rfl) (sn_H_keep_0 _ _ _ ?_), by rw [if_pos qz]; exact p1, f1, fun i hi => by rw [if_pos qz]⟩
    simp only [vc_H_keep_0, qi_push, qi_pushl, qi_iload, qi_lload, qi_aload, qi_istore, qi_astore, qi_lstore, qi_iinc, qi_iadd, qi_isub, qi_imul, qi_iand, qi_ior, qi_ixor, qi_ishl, qi_ishr, qi_iushr, qi_idiv, qi_irem, qi_lor, qi_lmul, qi_ladd, qi_lsub, qi_land, qi_lshl, qi_lshr, qi_i2l, qi_l2i, qi_i2c, qi_lcmp, qi_dup, qi_dup2, qi_pop, qi_if_eq, qi_icmp_eq, qi_if_ne, qi_icmp_ne, qi_if_lt, qi_icmp_lt, qi_if_ge, qi_icmp_ge, qi_if_gt, qi_icmp_gt, qi_if_le, qi_icmp_le, qi_sw, qi_get, qi_put, qi_iald, qi_lald, qi_aald, qi_iast, qi_zast, qi_cast, qi_last, qi_aast, qi_alen, qi_new, qi_newa, qi_newq, qi_obj, qi_invS, qi_invV, qi_invI, qi_iret, qi_zret, qi_lret, qi_vret, qi_acopy, qi_max, qi_min, at_o, at_i, at_l, at_q, at_a, lget, lset, lclr, lnon, lnth, spl, shrt, rpush, true_and, and_true, List.set, List.length, Nat.reduceAdd, Nat.reduceLT, Nat.reduceLeDiff, Nat.reduceEqDiff, Nat.reduceSub, e0]
    exact ⟨fun _ => c1, fun c => absurd (nI_lt qz (by omega)) c⟩
  · obtain ⟨h1, c1, p1, f1⟩ := c_H_dropOldest hp
    have hq1 : isPv h1 q v := hq.keep f1 (by omega)
    obtain ⟨h', c2, p2, f2⟩ := keep13 (hh := h) p1 (by omega) hq1 hd
    refine ⟨h', _, _, MX.of (lv := [some (.ref a), some (.ref q)]) 0 rfl (by decide) (Nat.le_of_ble_eq_true rfl) (sn_H_keep_0 _ _ _ ?_), by rw [if_neg qz]; exact p2, f1.trans f2, fun i hi => ?_⟩
    · simp only [vc_H_keep_0, qi_push, qi_pushl, qi_iload, qi_lload, qi_aload, qi_istore, qi_astore, qi_lstore, qi_iinc, qi_iadd, qi_isub, qi_imul, qi_iand, qi_ior, qi_ixor, qi_ishl, qi_ishr, qi_iushr, qi_idiv, qi_irem, qi_lor, qi_lmul, qi_ladd, qi_lsub, qi_land, qi_lshl, qi_lshr, qi_i2l, qi_l2i, qi_i2c, qi_lcmp, qi_dup, qi_dup2, qi_pop, qi_if_eq, qi_icmp_eq, qi_if_ne, qi_icmp_ne, qi_if_lt, qi_icmp_lt, qi_if_ge, qi_icmp_ge, qi_if_gt, qi_icmp_gt, qi_if_le, qi_icmp_le, qi_sw, qi_get, qi_put, qi_iald, qi_lald, qi_aald, qi_iast, qi_zast, qi_cast, qi_last, qi_aast, qi_alen, qi_new, qi_newa, qi_newq, qi_obj, qi_invS, qi_invV, qi_invI, qi_iret, qi_zret, qi_lret, qi_vret, qi_acopy, qi_max, qi_min, at_o, at_i, at_l, at_q, at_a, lget, lset, lclr, lnon, lnth, spl, shrt, rpush, true_and, and_true, List.set, List.length, Nat.reduceAdd, Nat.reduceLT, Nat.reduceLeDiff, Nat.reduceEqDiff, Nat.reduceSub, e0]
      exact ⟨fun c => absurd c (nI_nlt (by omega) (by omega)), fun _ => ⟨_, _, c1, c2⟩⟩
    · rw [if_neg qz]
      unfold va_up
      by_cases q5 : i = 5
      · rw [if_pos q5, if_neg (by omega)]
      · rw [if_neg q5, if_pos (by omega)]; exact if_pos (by omega)
theorem c_H_bringBack0 (hp : isPa h a 0 K V) (q : Nat) : MA M_H_bringBack [.ref a, .ref q] h (some (.int (nI 0))) h := by
  refine MX.of (lv := [some (.ref a), some (.ref q)]) 0 rfl (by decide) (Nat.le_of_ble_eq_true rfl) (sn_H_bringBack_0 _ _ _ ?_)
  simp only [vc_H_bringBack_0, qi_push, qi_pushl, qi_iload, qi_lload, qi_aload, qi_istore, qi_astore, qi_lstore, qi_iinc, qi_iadd, qi_isub, qi_imul, qi_iand, qi_ior, qi_ixor, qi_ishl, qi_ishr, qi_iushr, qi_idiv, qi_irem, qi_lor, qi_lmul, qi_ladd, qi_lsub, qi_land, qi_lshl, qi_lshr, qi_i2l, qi_l2i, qi_i2c, qi_lcmp, qi_dup, qi_dup2, qi_pop, qi_if_eq, qi_icmp_eq, qi_if_ne, qi_icmp_ne, qi_if_lt, qi_icmp_lt, qi_if_ge, qi_icmp_ge, qi_if_gt, qi_icmp_gt, qi_if_le, qi_icmp_le, qi_sw, qi_get, qi_put, qi_iald, qi_lald, qi_aald, qi_iast, qi_zast, qi_cast, qi_last, qi_aast, qi_alen, qi_new, qi_newa, qi_newq, qi_obj, qi_invS, qi_invV, qi_invI, qi_iret, qi_zret, qi_lret, qi_vret, qi_acopy, qi_max, qi_min, at_o, at_i, at_l, at_q, at_a, lget, lset, lclr, lnon, lnth, spl, shrt, rpush, true_and, and_true, List.set, List.length, Nat.reduceAdd, Nat.reduceLT, Nat.reduceLeDiff, Nat.reduceEqDiff, Nat.reduceSub, hp.1]
  exact ⟨fun c => absurd c (by decide), fun _ => Or.inl rfl⟩
theorem c_H_bringBack (hp : isPa h a (z + 1) K V) (hz : z < 6) {q : Nat} {v : pv} (hq : isPv h q v) (hd : q + 6 ≤ a ∨ a + 38 ≤ q) : ∃ h', MA M_H_bringBack [.ref a, .ref q] h (some (.int (nI 1))) h' ∧ isPa h' a z K V ∧ isPv h' q (V z) ∧ h'.2 = h.2 ∧ ∀ x, ¬ x = a → ¬ (q ≤ x ∧ x < q + 6) → h'.1 x = h.1 x := by
  obtain ⟨e0, e1, e2, e3, e4⟩ := id hp
  obtain ⟨m, hm, hK⟩ := e2 z hz
  have f1 : frm h (hc_set h a (.inr (1, [.ref (a + 1), .int (nI z)]))) a 1 := frm.rfl'.set (by omega)
  have p1 : isPa (hc_set h a (.inr (1, [.ref (a + 1), .int (nI z)]))) a z K V := ⟨hs_eq _ _ _, by rw [hs_ne _ _ (by omega)]; exact e1, e2, e3, fun i hi => by obtain ⟨m', hm', hK'⟩ := e2 i hi; exact (e4 i hi).keep f1 (by rw [hK']; omega)⟩
  have q1 := hq.keep f1 (by omega)
  obtain ⟨h', c1, p2, f2⟩ := c_P_copy q1 (p1.2.2.2.2 z hz) (by rw [hK]; omega)
  refine ⟨h', MX.of (lv := [some (.ref a), some (.ref q)]) 0 rfl (by decide) (Nat.le_of_ble_eq_true rfl) (sn_H_bringBack_0 _ _ _ ?_), p1.keep f2 (by omega), p2, f2.1.trans f1.1, fun x hx1 hx2 => (f2.2 x hx2).trans (f1.2 x (by omega))⟩
  simp only [vc_H_bringBack_0, vc_H_bringBack_9, qi_push, qi_pushl, qi_iload, qi_lload, qi_aload, qi_istore, qi_astore, qi_lstore, qi_iinc, qi_iadd, qi_isub, qi_imul, qi_iand, qi_ior, qi_ixor, qi_ishl, qi_ishr, qi_iushr, qi_idiv, qi_irem, qi_lor, qi_lmul, qi_ladd, qi_lsub, qi_land, qi_lshl, qi_lshr, qi_i2l, qi_l2i, qi_i2c, qi_lcmp, qi_dup, qi_dup2, qi_pop, qi_if_eq, qi_icmp_eq, qi_if_ne, qi_icmp_ne, qi_if_lt, qi_icmp_lt, qi_if_ge, qi_icmp_ge, qi_if_gt, qi_icmp_gt, qi_if_le, qi_icmp_le, qi_sw, qi_get, qi_put, qi_iald, qi_lald, qi_aald, qi_iast, qi_zast, qi_cast, qi_last, qi_aast, qi_alen, qi_new, qi_newa, qi_newq, qi_obj, qi_invS, qi_invV, qi_invI, qi_iret, qi_zret, qi_lret, qi_vret, qi_acopy, qi_max, qi_min, at_o, at_i, at_l, at_q, at_a, lget, lset, lclr, lnon, lnth, spl, shrt, rpush, true_and, and_true, List.set, List.length, Nat.reduceAdd, Nat.reduceLT, Nat.reduceLeDiff, Nat.reduceEqDiff, Nat.reduceSub, e0]
  refine ⟨fun _ => ⟨hc_fit_i, ?_⟩, fun c => absurd (show (0 : Int32) < nI (z + 1) by rw [← nI_0]; exact nI_lt (by omega) (by omega)) c⟩
  rw [pk_sub (by omega), show z + 1 - 1 = z by omega, p1.1]
  simp only [qi_push, qi_pushl, qi_iload, qi_lload, qi_aload, qi_istore, qi_astore, qi_lstore, qi_iinc, qi_iadd, qi_isub, qi_imul, qi_iand, qi_ior, qi_ixor, qi_ishl, qi_ishr, qi_iushr, qi_idiv, qi_irem, qi_lor, qi_lmul, qi_ladd, qi_lsub, qi_land, qi_lshl, qi_lshr, qi_i2l, qi_l2i, qi_i2c, qi_lcmp, qi_dup, qi_dup2, qi_pop, qi_if_eq, qi_icmp_eq, qi_if_ne, qi_icmp_ne, qi_if_lt, qi_icmp_lt, qi_if_ge, qi_icmp_ge, qi_if_gt, qi_icmp_gt, qi_if_le, qi_icmp_le, qi_sw, qi_get, qi_put, qi_iald, qi_lald, qi_aald, qi_iast, qi_zast, qi_cast, qi_last, qi_aast, qi_alen, qi_new, qi_newa, qi_newq, qi_obj, qi_invS, qi_invV, qi_invI, qi_iret, qi_zret, qi_lret, qi_vret, qi_acopy, qi_max, qi_min, at_o, at_i, at_l, at_q, at_a, lget, lset, lclr, lnon, lnth, spl, shrt, rpush, true_and, and_true, List.set, List.length, Nat.reduceAdd, Nat.reduceLT, Nat.reduceLeDiff, Nat.reduceEqDiff, Nat.reduceSub, p1.1, p1.2.1]
  refine ⟨vp_in_nI (by omega) (by omega), ?_⟩
  rw [nI_clamp (by omega)]
  simp only [va_rf]
  rw [show (hc_set h a (.inr (1, [.ref (a + 1), .int (nI z)]))).1 q = _ from q1.1]
  refine ⟨rfl, _, _, c1, ?_⟩
  simp only [qi_push, qi_pushl, qi_iload, qi_lload, qi_aload, qi_istore, qi_astore, qi_lstore, qi_iinc, qi_iadd, qi_isub, qi_imul, qi_iand, qi_ior, qi_ixor, qi_ishl, qi_ishr, qi_iushr, qi_idiv, qi_irem, qi_lor, qi_lmul, qi_ladd, qi_lsub, qi_land, qi_lshl, qi_lshr, qi_i2l, qi_l2i, qi_i2c, qi_lcmp, qi_dup, qi_dup2, qi_pop, qi_if_eq, qi_icmp_eq, qi_if_ne, qi_icmp_ne, qi_if_lt, qi_icmp_lt, qi_if_ge, qi_icmp_ge, qi_if_gt, qi_icmp_gt, qi_if_le, qi_icmp_le, qi_sw, qi_get, qi_put, qi_iald, qi_lald, qi_aald, qi_iast, qi_zast, qi_cast, qi_last, qi_aast, qi_alen, qi_new, qi_newa, qi_newq, qi_obj, qi_invS, qi_invV, qi_invI, qi_iret, qi_zret, qi_lret, qi_vret, qi_acopy, qi_max, qi_min, at_o, at_i, at_l, at_q, at_a, lget, lset, lclr, lnon, lnth, spl, shrt, rpush, true_and, and_true, List.set, List.length, Nat.reduceAdd, Nat.reduceLT, Nat.reduceLeDiff, Nat.reduceEqDiff, Nat.reduceSub]
  exact Or.inr rfl
end PA
theorem c_B_isWithin (h : hc_H) (x lo hi : Int32) : MA M_B_isWithin [.int x, .int lo, .int hi] h (some (.int (nI (decide (lo ≤ x ∧ x ≤ hi)).toNat))) h := by
  refine MX.of (lv := [some (.int x), some (.int lo), some (.int hi)]) 0 rfl (by decide) (Nat.le_of_ble_eq_true rfl) (sn_B_isWithin_0 _ _ _ ?_)
  simp only [vc_B_isWithin_0, vc_B_isWithin_14, vc_B_isWithin_15, qi_push, qi_pushl, qi_iload, qi_lload, qi_aload, qi_istore, qi_astore, qi_lstore, qi_iinc, qi_iadd, qi_isub, qi_imul, qi_iand, qi_ior, qi_ixor, qi_ishl, qi_ishr, qi_iushr, qi_idiv, qi_irem, qi_lor, qi_lmul, qi_ladd, qi_lsub, qi_land, qi_lshl, qi_lshr, qi_i2l, qi_l2i, qi_i2c, qi_lcmp, qi_dup, qi_dup2, qi_pop, qi_if_eq, qi_icmp_eq, qi_if_ne, qi_icmp_ne, qi_if_lt, qi_icmp_lt, qi_if_ge, qi_icmp_ge, qi_if_gt, qi_icmp_gt, qi_if_le, qi_icmp_le, qi_sw, qi_get, qi_put, qi_iald, qi_lald, qi_aald, qi_iast, qi_zast, qi_cast, qi_last, qi_aast, qi_alen, qi_new, qi_newa, qi_newq, qi_obj, qi_invS, qi_invV, qi_invI, qi_iret, qi_zret, qi_lret, qi_vret, qi_acopy, qi_max, qi_min, at_o, at_i, at_l, at_q, at_a, lget, lset, lclr, lnon, lnth, spl, shrt, rpush, true_and, and_true, List.set, List.length, Nat.reduceAdd, Nat.reduceLT, Nat.reduceLeDiff, Nat.reduceEqDiff, Nat.reduceSub]
  refine ⟨fun c => ⟨Or.inl rfl, ?_⟩, fun c => ⟨fun c2 => ⟨Or.inl rfl, ?_⟩, fun c2 => ⟨Or.inr rfl, ?_⟩⟩⟩
  · rw [decide_eq_false (fun q => absurd c (Int32.not_lt.mpr q.1))]; rfl
  · rw [decide_eq_false (fun q => absurd c2 (Int32.not_lt.mpr q.2))]; rfl
  · rw [decide_eq_true ⟨Int32.not_lt.mp c, Int32.not_lt.mp c2⟩]; rfl
theorem c_B_isStation (h : hc_H) (x : Int32) : MA M_B_isStation [.int x] h (some (.int (nI (decide (nI 1 ≤ x ∧ x ≤ nI 12)).toNat))) h := by
  refine MX.of (lv := [some (.int x)]) 0 rfl (by decide) (Nat.le_of_ble_eq_true rfl) (sn_B_isStation_0 _ _ _ ?_)
  simp only [vc_B_isStation_0, qi_push, qi_pushl, qi_iload, qi_lload, qi_aload, qi_istore, qi_astore, qi_lstore, qi_iinc, qi_iadd, qi_isub, qi_imul, qi_iand, qi_ior, qi_ixor, qi_ishl, qi_ishr, qi_iushr, qi_idiv, qi_irem, qi_lor, qi_lmul, qi_ladd, qi_lsub, qi_land, qi_lshl, qi_lshr, qi_i2l, qi_l2i, qi_i2c, qi_lcmp, qi_dup, qi_dup2, qi_pop, qi_if_eq, qi_icmp_eq, qi_if_ne, qi_icmp_ne, qi_if_lt, qi_icmp_lt, qi_if_ge, qi_icmp_ge, qi_if_gt, qi_icmp_gt, qi_if_le, qi_icmp_le, qi_sw, qi_get, qi_put, qi_iald, qi_lald, qi_aald, qi_iast, qi_zast, qi_cast, qi_last, qi_aast, qi_alen, qi_new, qi_newa, qi_newq, qi_obj, qi_invS, qi_invV, qi_invI, qi_iret, qi_zret, qi_lret, qi_vret, qi_acopy, qi_max, qi_min, at_o, at_i, at_l, at_q, at_a, lget, lset, lclr, lnon, lnth, spl, shrt, rpush, true_and, and_true, List.set, List.length, Nat.reduceAdd, Nat.reduceLT, Nat.reduceLeDiff, Nat.reduceEqDiff, Nat.reduceSub]
  refine ⟨_, _, c_B_isWithin h _ _ _, ?_⟩
  simp only [qi_push, qi_pushl, qi_iload, qi_lload, qi_aload, qi_istore, qi_astore, qi_lstore, qi_iinc, qi_iadd, qi_isub, qi_imul, qi_iand, qi_ior, qi_ixor, qi_ishl, qi_ishr, qi_iushr, qi_idiv, qi_irem, qi_lor, qi_lmul, qi_ladd, qi_lsub, qi_land, qi_lshl, qi_lshr, qi_i2l, qi_l2i, qi_i2c, qi_lcmp, qi_dup, qi_dup2, qi_pop, qi_if_eq, qi_icmp_eq, qi_if_ne, qi_icmp_ne, qi_if_lt, qi_icmp_lt, qi_if_ge, qi_icmp_ge, qi_if_gt, qi_icmp_gt, qi_if_le, qi_icmp_le, qi_sw, qi_get, qi_put, qi_iald, qi_lald, qi_aald, qi_iast, qi_zast, qi_cast, qi_last, qi_aast, qi_alen, qi_new, qi_newa, qi_newq, qi_obj, qi_invS, qi_invV, qi_invI, qi_iret, qi_zret, qi_lret, qi_vret, qi_acopy, qi_max, qi_min, at_o, at_i, at_l, at_q, at_a, lget, lset, lclr, lnon, lnth, spl, shrt, rpush, true_and, and_true, List.set, List.length, Nat.reduceAdd, Nat.reduceLT, Nat.reduceLeDiff, Nat.reduceEqDiff, Nat.reduceSub]
  exact nb_01 _
/-- SCRIPT at a: its letters at a + 1 -/
def isSc (h : hc_H) (a len : Nat) (L : Nat → Nat) : Prop := h.1 a = some (.inr (3, [.ref (a + 1), .int (nI len)])) ∧ h.1 (a + 1) = some (.inl (3, 200, .inl (fun j => nI (L j))))
theorem isSc.keep {h h' : hc_H} {a len b k : Nat} {L : Nat → Nat} (hp : isSc h a len L) (f : frm h h' b k) (hd : a + 2 ≤ b ∨ b + k ≤ a) : isSc h' a len L := ⟨by rw [f.2 _ (by omega)]; exact hp.1, by rw [f.2 _ (by omega)]; exact hp.2⟩
theorem vn_char {v : Nat} (h : v < 65536) : vp_nar .char (nI v) = nI v := by
  have := (pk_charN h).1
  unfold vp_nar
  rw [this]
section SC
variable {h : hc_H} {a len : Nat} {L : Nat → Nat}
theorem c_S_add (hp : isSc h a len L) (hl : len ≤ 200) {v : Nat} (hv : v < 65536) : (200 ≤ len ∧ MA M_S_add [.ref a, .int (nI v)] h (some (.int (nI 0))) h) ∨ (len < 200 ∧ ∃ h', MA M_S_add [.ref a, .int (nI v)] h (some (.int (nI 1))) h' ∧ isSc h' a (len + 1) (va_up L len v) ∧ frm h h' a 2) := by
  obtain ⟨e0, e1⟩ := id hp
  by_cases q : len < 200
  · refine Or.inr ⟨q, hc_set (hc_set h (a + 1) (.inl (3, 200, .inl (fun j => nI (va_up L len v j))))) a (.inr (3, [.ref (a + 1), .int (nI (len + 1))])), ?_, ⟨hs_eq _ _ _, by rw [hs_ne _ _ (by omega), hs_eq]⟩, (frm.rfl'.set (by omega)).set (by omega)⟩
    refine MX.of (lv := [some (.ref a), some (.int (nI v))]) 0 rfl (by decide) (Nat.le_of_ble_eq_true rfl) (sn_S_add_0 _ _ _ ?_)
    simp only [vc_S_add_0, vc_S_add_12, qi_push, qi_pushl, qi_iload, qi_lload, qi_aload, qi_istore, qi_astore, qi_lstore, qi_iinc, qi_iadd, qi_isub, qi_imul, qi_iand, qi_ior, qi_ixor, qi_ishl, qi_ishr, qi_iushr, qi_idiv, qi_irem, qi_lor, qi_lmul, qi_ladd, qi_lsub, qi_land, qi_lshl, qi_lshr, qi_i2l, qi_l2i, qi_i2c, qi_lcmp, qi_dup, qi_dup2, qi_pop, qi_if_eq, qi_icmp_eq, qi_if_ne, qi_icmp_ne, qi_if_lt, qi_icmp_lt, qi_if_ge, qi_icmp_ge, qi_if_gt, qi_icmp_gt, qi_if_le, qi_icmp_le, qi_sw, qi_get, qi_put, qi_iald, qi_lald, qi_aald, qi_iast, qi_zast, qi_cast, qi_last, qi_aast, qi_alen, qi_new, qi_newa, qi_newq, qi_obj, qi_invS, qi_invV, qi_invI, qi_iret, qi_zret, qi_lret, qi_vret, qi_acopy, qi_max, qi_min, at_o, at_i, at_l, at_q, at_a, lget, lset, lclr, lnon, lnth, spl, shrt, rpush, true_and, and_true, List.set, List.length, Nat.reduceAdd, Nat.reduceLT, Nat.reduceLeDiff, Nat.reduceEqDiff, Nat.reduceSub, e0, e1]
    refine ⟨fun _ => ⟨vp_in_nI q (by omega), ?_⟩, fun c => absurd (nI_lt q (by omega)) c⟩
    rw [hs_ne _ _ (show a ≠ a + 1 by omega), e0]
    simp only [qi_push, qi_pushl, qi_iload, qi_lload, qi_aload, qi_istore, qi_astore, qi_lstore, qi_iinc, qi_iadd, qi_isub, qi_imul, qi_iand, qi_ior, qi_ixor, qi_ishl, qi_ishr, qi_iushr, qi_idiv, qi_irem, qi_lor, qi_lmul, qi_ladd, qi_lsub, qi_land, qi_lshl, qi_lshr, qi_i2l, qi_l2i, qi_i2c, qi_lcmp, qi_dup, qi_dup2, qi_pop, qi_if_eq, qi_icmp_eq, qi_if_ne, qi_icmp_ne, qi_if_lt, qi_icmp_lt, qi_if_ge, qi_icmp_ge, qi_if_gt, qi_icmp_gt, qi_if_le, qi_icmp_le, qi_sw, qi_get, qi_put, qi_iald, qi_lald, qi_aald, qi_iast, qi_zast, qi_cast, qi_last, qi_aast, qi_alen, qi_new, qi_newa, qi_newq, qi_obj, qi_invS, qi_invV, qi_invI, qi_iret, qi_zret, qi_lret, qi_vret, qi_acopy, qi_max, qi_min, at_o, at_i, at_l, at_q, at_a, lget, lset, lclr, lnon, lnth, spl, shrt, rpush, true_and, and_true, List.set, List.length, Nat.reduceAdd, Nat.reduceLT, Nat.reduceLeDiff, Nat.reduceEqDiff, Nat.reduceSub]
    rw [hs_ne _ _ (show a ≠ a + 1 by omega), e0]
    simp only [qi_push, qi_pushl, qi_iload, qi_lload, qi_aload, qi_istore, qi_astore, qi_lstore, qi_iinc, qi_iadd, qi_isub, qi_imul, qi_iand, qi_ior, qi_ixor, qi_ishl, qi_ishr, qi_iushr, qi_idiv, qi_irem, qi_lor, qi_lmul, qi_ladd, qi_lsub, qi_land, qi_lshl, qi_lshr, qi_i2l, qi_l2i, qi_i2c, qi_lcmp, qi_dup, qi_dup2, qi_pop, qi_if_eq, qi_icmp_eq, qi_if_ne, qi_icmp_ne, qi_if_lt, qi_icmp_lt, qi_if_ge, qi_icmp_ge, qi_if_gt, qi_icmp_gt, qi_if_le, qi_icmp_le, qi_sw, qi_get, qi_put, qi_iald, qi_lald, qi_aald, qi_iast, qi_zast, qi_cast, qi_last, qi_aast, qi_alen, qi_new, qi_newa, qi_newq, qi_obj, qi_invS, qi_invV, qi_invI, qi_iret, qi_zret, qi_lret, qi_vret, qi_acopy, qi_max, qi_min, at_o, at_i, at_l, at_q, at_a, lget, lset, lclr, lnon, lnth, spl, shrt, rpush, true_and, and_true, List.set, List.length, Nat.reduceAdd, Nat.reduceLT, Nat.reduceLeDiff, Nat.reduceEqDiff, Nat.reduceSub]
    refine ⟨hc_fit_i, Or.inr rfl, ?_⟩
    rw [nI_clamp (by omega), vn_char hv, upd_nI, nI_add]
  · refine Or.inl ⟨by omega, ?_⟩
    refine MX.of (lv := [some (.ref a), some (.int (nI v))]) 0 rfl (by decide) (Nat.le_of_ble_eq_true rfl) (sn_S_add_0 _ _ _ ?_)
    simp only [vc_S_add_0, vc_S_add_12, qi_push, qi_pushl, qi_iload, qi_lload, qi_aload, qi_istore, qi_astore, qi_lstore, qi_iinc, qi_iadd, qi_isub, qi_imul, qi_iand, qi_ior, qi_ixor, qi_ishl, qi_ishr, qi_iushr, qi_idiv, qi_irem, qi_lor, qi_lmul, qi_ladd, qi_lsub, qi_land, qi_lshl, qi_lshr, qi_i2l, qi_l2i, qi_i2c, qi_lcmp, qi_dup, qi_dup2, qi_pop, qi_if_eq, qi_icmp_eq, qi_if_ne, qi_icmp_ne, qi_if_lt, qi_icmp_lt, qi_if_ge, qi_icmp_ge, qi_if_gt, qi_icmp_gt, qi_if_le, qi_icmp_le, qi_sw, qi_get, qi_put, qi_iald, qi_lald, qi_aald, qi_iast, qi_zast, qi_cast, qi_last, qi_aast, qi_alen, qi_new, qi_newa, qi_newq, qi_obj, qi_invS, qi_invV, qi_invI, qi_iret, qi_zret, qi_lret, qi_vret, qi_acopy, qi_max, qi_min, at_o, at_i, at_l, at_q, at_a, lget, lset, lclr, lnon, lnth, spl, shrt, rpush, true_and, and_true, List.set, List.length, Nat.reduceAdd, Nat.reduceLT, Nat.reduceLeDiff, Nat.reduceEqDiff, Nat.reduceSub, e0, e1]
    exact ⟨fun c => absurd c (nI_nlt (by omega) (by omega)), fun _ => Or.inl rfl⟩
theorem c_S_clear (hp : isSc h a len L) : ∃ h', MA M_S_clear [.ref a] h (some (.int (nI len))) h' ∧ isSc h' a 0 L ∧ frm h h' a 2 := by
  obtain ⟨e0, e1⟩ := id hp
  refine ⟨hc_set h a (.inr (3, [.ref (a + 1), .int (nI 0)])), ?_, ⟨hs_eq _ _ _, by rw [hs_ne _ _ (by omega)]; exact e1⟩, frm.rfl'.set (by omega)⟩
  refine MX.of (lv := [some (.ref a), none]) 1 rfl (by decide) (Nat.le_of_ble_eq_true rfl) (sn_S_clear_0 _ _ _ ?_)
  simp only [vc_S_clear_0, qi_push, qi_pushl, qi_iload, qi_lload, qi_aload, qi_istore, qi_astore, qi_lstore, qi_iinc, qi_iadd, qi_isub, qi_imul, qi_iand, qi_ior, qi_ixor, qi_ishl, qi_ishr, qi_iushr, qi_idiv, qi_irem, qi_lor, qi_lmul, qi_ladd, qi_lsub, qi_land, qi_lshl, qi_lshr, qi_i2l, qi_l2i, qi_i2c, qi_lcmp, qi_dup, qi_dup2, qi_pop, qi_if_eq, qi_icmp_eq, qi_if_ne, qi_icmp_ne, qi_if_lt, qi_icmp_lt, qi_if_ge, qi_icmp_ge, qi_if_gt, qi_icmp_gt, qi_if_le, qi_icmp_le, qi_sw, qi_get, qi_put, qi_iald, qi_lald, qi_aald, qi_iast, qi_zast, qi_cast, qi_last, qi_aast, qi_alen, qi_new, qi_newa, qi_newq, qi_obj, qi_invS, qi_invV, qi_invI, qi_iret, qi_zret, qi_lret, qi_vret, qi_acopy, qi_max, qi_min, at_o, at_i, at_l, at_q, at_a, lget, lset, lclr, lnon, lnth, spl, shrt, rpush, true_and, and_true, List.set, List.length, Nat.reduceAdd, Nat.reduceLT, Nat.reduceLeDiff, Nat.reduceEqDiff, Nat.reduceSub, e0]
  exact hc_fit_i
/-- the first place from x on, within k, with a ; (or the text's end) -/
def eoi (L : Nat → Nat) (len : Nat) : Nat → Nat → Nat
  | 0, x => x
  | k + 1, x => if len ≤ x then x else if L x = 59 then x else eoi L len k (x + 1)
theorem c_S_endOfItem (hp : isSc h a len L) (hl : len ≤ 200) (hL : ∀ j, L j < 65536) {x : Nat} (hx : x ≤ len) : MA M_S_endOfItem [.ref a, .int (nI x)] h (some (.int (nI (eoi L len (len - x) x)))) h := by
  obtain ⟨e0, e1⟩ := id hp
  have loop : ∀ (k y : Nat), y + k = len → eoi L len k y = eoi L len (len - x) x → cx hc_tt M_S_endOfItem h h (some (.int (nI (eoi L len (len - x) x)))) 2 [some (.ref a), some (.int (nI x)), some (.int (nI y))] [] h := by
    intro k
    induction k with
    | zero =>
      intro y hy e
      refine sn_S_endOfItem_2 _ _ _ ?_
      simp only [vc_S_endOfItem_2, vc_S_endOfItem_27, qi_push, qi_pushl, qi_iload, qi_lload, qi_aload, qi_istore, qi_astore, qi_lstore, qi_iinc, qi_iadd, qi_isub, qi_imul, qi_iand, qi_ior, qi_ixor, qi_ishl, qi_ishr, qi_iushr, qi_idiv, qi_irem, qi_lor, qi_lmul, qi_ladd, qi_lsub, qi_land, qi_lshl, qi_lshr, qi_i2l, qi_l2i, qi_i2c, qi_lcmp, qi_dup, qi_dup2, qi_pop, qi_if_eq, qi_icmp_eq, qi_if_ne, qi_icmp_ne, qi_if_lt, qi_icmp_lt, qi_if_ge, qi_icmp_ge, qi_if_gt, qi_icmp_gt, qi_if_le, qi_icmp_le, qi_sw, qi_get, qi_put, qi_iald, qi_lald, qi_aald, qi_iast, qi_zast, qi_cast, qi_last, qi_aast, qi_alen, qi_new, qi_newa, qi_newq, qi_obj, qi_invS, qi_invV, qi_invI, qi_iret, qi_zret, qi_lret, qi_vret, qi_acopy, qi_max, qi_min, at_o, at_i, at_l, at_q, at_a, lget, lset, lclr, lnon, lnth, spl, shrt, rpush, true_and, and_true, List.set, List.length, Nat.reduceAdd, Nat.reduceLT, Nat.reduceLeDiff, Nat.reduceEqDiff, Nat.reduceSub, e0]
      exact ⟨fun _ => by rw [← e]; rfl, fun c => absurd (nI_le (by omega) (by omega)) c⟩
    | succ k ih =>
      intro y hy e
      refine sn_S_endOfItem_2 _ _ _ ?_
      simp only [vc_S_endOfItem_2, vc_S_endOfItem_27, qi_push, qi_pushl, qi_iload, qi_lload, qi_aload, qi_istore, qi_astore, qi_lstore, qi_iinc, qi_iadd, qi_isub, qi_imul, qi_iand, qi_ior, qi_ixor, qi_ishl, qi_ishr, qi_iushr, qi_idiv, qi_irem, qi_lor, qi_lmul, qi_ladd, qi_lsub, qi_land, qi_lshl, qi_lshr, qi_i2l, qi_l2i, qi_i2c, qi_lcmp, qi_dup, qi_dup2, qi_pop, qi_if_eq, qi_icmp_eq, qi_if_ne, qi_icmp_ne, qi_if_lt, qi_icmp_lt, qi_if_ge, qi_icmp_ge, qi_if_gt, qi_icmp_gt, qi_if_le, qi_icmp_le, qi_sw, qi_get, qi_put, qi_iald, qi_lald, qi_aald, qi_iast, qi_zast, qi_cast, qi_last, qi_aast, qi_alen, qi_new, qi_newa, qi_newq, qi_obj, qi_invS, qi_invV, qi_invI, qi_iret, qi_zret, qi_lret, qi_vret, qi_acopy, qi_max, qi_min, at_o, at_i, at_l, at_q, at_a, lget, lset, lclr, lnon, lnth, spl, shrt, rpush, true_and, and_true, List.set, List.length, Nat.reduceAdd, Nat.reduceLT, Nat.reduceLeDiff, Nat.reduceEqDiff, Nat.reduceSub, e0, e1]
      have hLy := hL y
      simp only [eoi] at e
      rw [if_neg (by omega)] at e
      refine ⟨fun c => absurd c (nI_ge (by omega) (by omega)), fun _ => ⟨vp_in_nI (by omega) (by omega), ?_⟩⟩
      rw [nI_clamp (by omega), nI_eq (by omega) (by omega), nI_add]
      refine ⟨fun c => ?_, fun c => ?_⟩
      · rw [if_pos c] at e; rw [← e]
      · rw [if_neg c] at e; exact ih (y + 1) (by omega) e
  refine MX.of (lv := [some (.ref a), some (.int (nI x)), none]) 1 rfl (by decide) (Nat.le_of_ble_eq_true rfl) (sn_S_endOfItem_0 _ _ _ ?_)
  simp only [vc_S_endOfItem_0, qi_push, qi_pushl, qi_iload, qi_lload, qi_aload, qi_istore, qi_astore, qi_lstore, qi_iinc, qi_iadd, qi_isub, qi_imul, qi_iand, qi_ior, qi_ixor, qi_ishl, qi_ishr, qi_iushr, qi_idiv, qi_irem, qi_lor, qi_lmul, qi_ladd, qi_lsub, qi_land, qi_lshl, qi_lshr, qi_i2l, qi_l2i, qi_i2c, qi_lcmp, qi_dup, qi_dup2, qi_pop, qi_if_eq, qi_icmp_eq, qi_if_ne, qi_icmp_ne, qi_if_lt, qi_icmp_lt, qi_if_ge, qi_icmp_ge, qi_if_gt, qi_icmp_gt, qi_if_le, qi_icmp_le, qi_sw, qi_get, qi_put, qi_iald, qi_lald, qi_aald, qi_iast, qi_zast, qi_cast, qi_last, qi_aast, qi_alen, qi_new, qi_newa, qi_newq, qi_obj, qi_invS, qi_invV, qi_invI, qi_iret, qi_zret, qi_lret, qi_vret, qi_acopy, qi_max, qi_min, at_o, at_i, at_l, at_q, at_a, lget, lset, lclr, lnon, lnth, spl, shrt, rpush, true_and, and_true, List.set, List.length, Nat.reduceAdd, Nat.reduceLT, Nat.reduceLeDiff, Nat.reduceEqDiff, Nat.reduceSub]
  exact loop (len - x) x (by omega) rfl
end SC
