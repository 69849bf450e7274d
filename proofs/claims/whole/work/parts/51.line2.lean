/-! THE CLASS: text, changes of what is told. -/
theorem isPa.cV {h : hc_H} {a z : Nat} {K : Nat → Nat} {V V' : Nat → pv} (hp : isPa h a z K V) (e : ∀ i, i < 6 → V i = V' i) : isPa h a z K V' := ⟨hp.1, hp.2.1, hp.2.2.1, hp.2.2.2.1, fun i hi => by rw [← e i hi]; exact hp.2.2.2.2 i hi⟩
def kz (z : Nat) : Nat := if z < 6 then z + 1 else 6
def kV (z : Nat) (V : Nat → pv) (v : pv) : Nat → pv := fun i => if z < 6 then va_up V z v i else if i < 5 then V (i + 1) else v
theorem in_n {x : Int32} {lo hi : Nat} (hhi : hi < 2 ^ 31) (hlo : lo ≤ hi) (h : nI lo ≤ x ∧ x ≤ nI hi) : ∃ j, x = nI j ∧ lo ≤ j ∧ j ≤ hi := by
  have h0 : ¬ x < 0 := fun q => by
    have h1 := Int32.le_iff_toInt_le.mp h.1
    have h2 := Int32.lt_iff_toInt_lt.mp q
    rw [nI_toInt (by omega)] at h1
    rw [show (0 : Int32).toInt = 0 by decide] at h2
    omega
  obtain ⟨j, j1, rfl⟩ := nI_of h0
  refine ⟨j, rfl, (nI_leI (by omega) j1).mp h.1, (nI_leI j1 hhi).mp h.2⟩
theorem in_i {j lo hi : Nat} (hhi : hi < 2 ^ 31) (h1 : lo ≤ j) (h2 : j ≤ hi) : nI lo ≤ nI j ∧ nI j ≤ nI hi := ⟨nI_le h1 (by omega), nI_le h2 hhi⟩
theorem rdC_lt' {L : Nat → Nat} {len : Nat} : ∀ k x v y, (rdC L len k x v).1 = some y → y < len := by
  intro k
  induction k with
  | zero => intro x v y h; simp [rdC] at h
  | succ k ih =>
    intro x v y h
    simp only [rdC] at h
    split at h
    · cases h
    · rename_i q
      split at h
      · have : some x = some y := h
        cases this
        omega
      · split at h
        · have : some x = some y := h
          cases this
          omega
        · exact ih _ _ _ h
theorem rdC_lt {L : Nat → Nat} {len y : Nat} (h : (rdC L len 200 0 pv0).1 = some y) (hl : len ≤ 200) : y < 200 := Nat.lt_of_lt_of_le (rdC_lt' _ _ _ _ h) hl
section BL
variable {h : hc_H} {b z0 sl len n C z : Nat} {L T B A J S : Nat → Nat} {V : Nat → pv}
theorem c_B_write_bad (hb : isB h b z0 sl len L n C T B A J S z V) {x : Int32} (hx : ¬ (nI 32 ≤ x ∧ x ≤ nI 126)) : MA M_B_write [.ref b, .int x] h (some (.int (-1))) h := by
  refine MX.of (lv := [some (.ref b), some (.int x)]) 0 rfl (by decide) (Nat.le_of_ble_eq_true rfl) (sn_B_write_0 _ _ _ ?_)
  simp only [vc_B_write_0, qi_push, qi_pushl, qi_iload, qi_lload, qi_aload, qi_istore, qi_astore, qi_lstore, qi_iinc, qi_iadd, qi_isub, qi_imul, qi_iand, qi_ior, qi_ixor, qi_ishl, qi_ishr, qi_iushr, qi_idiv, qi_irem, qi_lor, qi_lmul, qi_ladd, qi_lsub, qi_land, qi_lshl, qi_lshr, qi_i2l, qi_l2i, qi_i2c, qi_lcmp, qi_dup, qi_dup2, qi_pop, qi_if_eq, qi_icmp_eq, qi_if_ne, qi_icmp_ne, qi_if_lt, qi_icmp_lt, qi_if_ge, qi_icmp_ge, qi_if_gt, qi_icmp_gt, qi_if_le, qi_icmp_le, qi_sw, qi_get, qi_put, qi_iald, qi_lald, qi_aald, qi_iast, qi_zast, qi_cast, qi_last, qi_aast, qi_alen, qi_new, qi_newa, qi_newq, qi_obj, qi_invS, qi_invV, qi_invI, qi_iret, qi_zret, qi_lret, qi_vret, qi_acopy, qi_max, qi_min, at_o, at_i, at_l, at_q, at_a, lget, lset, lclr, lnon, lnth, spl, shrt, rpush, true_and, and_true, List.set, List.length, Nat.reduceAdd, Nat.reduceLT, Nat.reduceLeDiff, Nat.reduceEqDiff, Nat.reduceSub]
  refine ⟨_, _, c_B_isWithin h x (nI 32) (nI 126), ?_⟩
  simp only [qi_push, qi_pushl, qi_iload, qi_lload, qi_aload, qi_istore, qi_astore, qi_lstore, qi_iinc, qi_iadd, qi_isub, qi_imul, qi_iand, qi_ior, qi_ixor, qi_ishl, qi_ishr, qi_iushr, qi_idiv, qi_irem, qi_lor, qi_lmul, qi_ladd, qi_lsub, qi_land, qi_lshl, qi_lshr, qi_i2l, qi_l2i, qi_i2c, qi_lcmp, qi_dup, qi_dup2, qi_pop, qi_if_eq, qi_icmp_eq, qi_if_ne, qi_icmp_ne, qi_if_lt, qi_icmp_lt, qi_if_ge, qi_icmp_ge, qi_if_gt, qi_icmp_gt, qi_if_le, qi_icmp_le, qi_sw, qi_get, qi_put, qi_iald, qi_lald, qi_aald, qi_iast, qi_zast, qi_cast, qi_last, qi_aast, qi_alen, qi_new, qi_newa, qi_newq, qi_obj, qi_invS, qi_invV, qi_invI, qi_iret, qi_zret, qi_lret, qi_vret, qi_acopy, qi_max, qi_min, at_o, at_i, at_l, at_q, at_a, lget, lset, lclr, lnon, lnth, spl, shrt, rpush, true_and, and_true, List.set, List.length, Nat.reduceAdd, Nat.reduceLT, Nat.reduceLeDiff, Nat.reduceEqDiff, Nat.reduceSub]
  rw [nb_ne0, decide_eq_true_eq]
  exact ⟨fun w => absurd w hx, fun _ => trivial⟩
theorem c_B_write (hz : b + 69 ≤ z0) (hb : isB h b z0 sl len L n C T B A J S z V) (hl : len ≤ 200) {x : Nat} (h1 : 32 ≤ x) (h2 : x ≤ 126) : (200 ≤ len ∧ MA M_B_write [.ref b, .int (nI x)] h (some (.int (-3))) h) ∨ (len < 200 ∧ ∃ h', MA M_B_write [.ref b, .int (nI x)] h (some (.int (nI (len + 1)))) h' ∧ isB h' b z0 sl (len + 1) (va_up L len x) n C T B A J S z V ∧ frC h h' b z0) := by
  have o0 := hb.1
  have o1 := hb.2.1.1
  have e0 := in_i (show 126 < 2 ^ 31 by omega) h1 h2
  rcases c_S_add hb.2.1 hl (show x < 65536 by omega) with ⟨c1, c2⟩ | ⟨c1, h', c2, c3, c4⟩
  · refine Or.inl ⟨c1, MX.of (lv := [some (.ref b), some (.int (nI x))]) 0 rfl (by decide) (Nat.le_of_ble_eq_true rfl) (sn_B_write_0 _ _ _ ?_)⟩
    simp only [vc_B_write_0, vc_B_write_13, vc_B_write_35, vc_B_write_37, qi_push, qi_pushl, qi_iload, qi_lload, qi_aload, qi_istore, qi_astore, qi_lstore, qi_iinc, qi_iadd, qi_isub, qi_imul, qi_iand, qi_ior, qi_ixor, qi_ishl, qi_ishr, qi_iushr, qi_idiv, qi_irem, qi_lor, qi_lmul, qi_ladd, qi_lsub, qi_land, qi_lshl, qi_lshr, qi_i2l, qi_l2i, qi_i2c, qi_lcmp, qi_dup, qi_dup2, qi_pop, qi_if_eq, qi_icmp_eq, qi_if_ne, qi_icmp_ne, qi_if_lt, qi_icmp_lt, qi_if_ge, qi_icmp_ge, qi_if_gt, qi_icmp_gt, qi_if_le, qi_icmp_le, qi_sw, qi_get, qi_put, qi_iald, qi_lald, qi_aald, qi_iast, qi_zast, qi_cast, qi_last, qi_aast, qi_alen, qi_new, qi_newa, qi_newq, qi_obj, qi_invS, qi_invV, qi_invI, qi_iret, qi_zret, qi_lret, qi_vret, qi_acopy, qi_max, qi_min, at_o, at_i, at_l, at_q, at_a, lget, lset, lclr, lnon, lnth, spl, shrt, rpush, true_and, and_true, List.set, List.length, Nat.reduceAdd, Nat.reduceLT, Nat.reduceLeDiff, Nat.reduceEqDiff, Nat.reduceSub]
    refine ⟨_, _, c_B_isWithin h (nI x) (nI 32) (nI 126), ?_⟩
    simp only [qi_push, qi_pushl, qi_iload, qi_lload, qi_aload, qi_istore, qi_astore, qi_lstore, qi_iinc, qi_iadd, qi_isub, qi_imul, qi_iand, qi_ior, qi_ixor, qi_ishl, qi_ishr, qi_iushr, qi_idiv, qi_irem, qi_lor, qi_lmul, qi_ladd, qi_lsub, qi_land, qi_lshl, qi_lshr, qi_i2l, qi_l2i, qi_i2c, qi_lcmp, qi_dup, qi_dup2, qi_pop, qi_if_eq, qi_icmp_eq, qi_if_ne, qi_icmp_ne, qi_if_lt, qi_icmp_lt, qi_if_ge, qi_icmp_ge, qi_if_gt, qi_icmp_gt, qi_if_le, qi_icmp_le, qi_sw, qi_get, qi_put, qi_iald, qi_lald, qi_aald, qi_iast, qi_zast, qi_cast, qi_last, qi_aast, qi_alen, qi_new, qi_newa, qi_newq, qi_obj, qi_invS, qi_invV, qi_invI, qi_iret, qi_zret, qi_lret, qi_vret, qi_acopy, qi_max, qi_min, at_o, at_i, at_l, at_q, at_a, lget, lset, lclr, lnon, lnth, spl, shrt, rpush, true_and, and_true, List.set, List.length, Nat.reduceAdd, Nat.reduceLT, Nat.reduceLeDiff, Nat.reduceEqDiff, Nat.reduceSub, o0, o1]
    rw [nb_ne0, decide_eq_true_eq, i2c_n (by omega)]
    refine ⟨fun _ => ⟨_, _, c2, ?_⟩, fun w => absurd e0 (of_decide_eq_false ((nb_eq0 _).mp w))⟩
    simp only [qi_push, qi_pushl, qi_iload, qi_lload, qi_aload, qi_istore, qi_astore, qi_lstore, qi_iinc, qi_iadd, qi_isub, qi_imul, qi_iand, qi_ior, qi_ixor, qi_ishl, qi_ishr, qi_iushr, qi_idiv, qi_irem, qi_lor, qi_lmul, qi_ladd, qi_lsub, qi_land, qi_lshl, qi_lshr, qi_i2l, qi_l2i, qi_i2c, qi_lcmp, qi_dup, qi_dup2, qi_pop, qi_if_eq, qi_icmp_eq, qi_if_ne, qi_icmp_ne, qi_if_lt, qi_icmp_lt, qi_if_ge, qi_icmp_ge, qi_if_gt, qi_icmp_gt, qi_if_le, qi_icmp_le, qi_sw, qi_get, qi_put, qi_iald, qi_lald, qi_aald, qi_iast, qi_zast, qi_cast, qi_last, qi_aast, qi_alen, qi_new, qi_newa, qi_newq, qi_obj, qi_invS, qi_invV, qi_invI, qi_iret, qi_zret, qi_lret, qi_vret, qi_acopy, qi_max, qi_min, at_o, at_i, at_l, at_q, at_a, lget, lset, lclr, lnon, lnth, spl, shrt, rpush, true_and, and_true, List.set, List.length, Nat.reduceAdd, Nat.reduceLT, Nat.reduceLeDiff, Nat.reduceEqDiff, Nat.reduceSub]
    exact ⟨fun _ => trivial, fun w => absurd rfl w⟩
  · refine Or.inr ⟨c1, h', MX.of (lv := [some (.ref b), some (.int (nI x))]) 0 rfl (by decide) (Nat.le_of_ble_eq_true rfl) (sn_B_write_0 _ _ _ ?_), hb.text hz c4 c3, c4.toC (by omega)⟩
    have o2 : h'.1 b = some (blO b) := by rw [c4.2 _ (by omega)]; exact o0
    have o3 := c3.1
    simp only [vc_B_write_0, vc_B_write_13, vc_B_write_35, vc_B_write_37, qi_push, qi_pushl, qi_iload, qi_lload, qi_aload, qi_istore, qi_astore, qi_lstore, qi_iinc, qi_iadd, qi_isub, qi_imul, qi_iand, qi_ior, qi_ixor, qi_ishl, qi_ishr, qi_iushr, qi_idiv, qi_irem, qi_lor, qi_lmul, qi_ladd, qi_lsub, qi_land, qi_lshl, qi_lshr, qi_i2l, qi_l2i, qi_i2c, qi_lcmp, qi_dup, qi_dup2, qi_pop, qi_if_eq, qi_icmp_eq, qi_if_ne, qi_icmp_ne, qi_if_lt, qi_icmp_lt, qi_if_ge, qi_icmp_ge, qi_if_gt, qi_icmp_gt, qi_if_le, qi_icmp_le, qi_sw, qi_get, qi_put, qi_iald, qi_lald, qi_aald, qi_iast, qi_zast, qi_cast, qi_last, qi_aast, qi_alen, qi_new, qi_newa, qi_newq, qi_obj, qi_invS, qi_invV, qi_invI, qi_iret, qi_zret, qi_lret, qi_vret, qi_acopy, qi_max, qi_min, at_o, at_i, at_l, at_q, at_a, lget, lset, lclr, lnon, lnth, spl, shrt, rpush, true_and, and_true, List.set, List.length, Nat.reduceAdd, Nat.reduceLT, Nat.reduceLeDiff, Nat.reduceEqDiff, Nat.reduceSub]
    refine ⟨_, _, c_B_isWithin h (nI x) (nI 32) (nI 126), ?_⟩
    simp only [qi_push, qi_pushl, qi_iload, qi_lload, qi_aload, qi_istore, qi_astore, qi_lstore, qi_iinc, qi_iadd, qi_isub, qi_imul, qi_iand, qi_ior, qi_ixor, qi_ishl, qi_ishr, qi_iushr, qi_idiv, qi_irem, qi_lor, qi_lmul, qi_ladd, qi_lsub, qi_land, qi_lshl, qi_lshr, qi_i2l, qi_l2i, qi_i2c, qi_lcmp, qi_dup, qi_dup2, qi_pop, qi_if_eq, qi_icmp_eq, qi_if_ne, qi_icmp_ne, qi_if_lt, qi_icmp_lt, qi_if_ge, qi_icmp_ge, qi_if_gt, qi_icmp_gt, qi_if_le, qi_icmp_le, qi_sw, qi_get, qi_put, qi_iald, qi_lald, qi_aald, qi_iast, qi_zast, qi_cast, qi_last, qi_aast, qi_alen, qi_new, qi_newa, qi_newq, qi_obj, qi_invS, qi_invV, qi_invI, qi_iret, qi_zret, qi_lret, qi_vret, qi_acopy, qi_max, qi_min, at_o, at_i, at_l, at_q, at_a, lget, lset, lclr, lnon, lnth, spl, shrt, rpush, true_and, and_true, List.set, List.length, Nat.reduceAdd, Nat.reduceLT, Nat.reduceLeDiff, Nat.reduceEqDiff, Nat.reduceSub, o0, o1]
    rw [nb_ne0, decide_eq_true_eq, i2c_n (by omega)]
    refine ⟨fun _ => ⟨_, _, c2, ?_⟩, fun w => absurd e0 (of_decide_eq_false ((nb_eq0 _).mp w))⟩
    simp only [qi_push, qi_pushl, qi_iload, qi_lload, qi_aload, qi_istore, qi_astore, qi_lstore, qi_iinc, qi_iadd, qi_isub, qi_imul, qi_iand, qi_ior, qi_ixor, qi_ishl, qi_ishr, qi_iushr, qi_idiv, qi_irem, qi_lor, qi_lmul, qi_ladd, qi_lsub, qi_land, qi_lshl, qi_lshr, qi_i2l, qi_l2i, qi_i2c, qi_lcmp, qi_dup, qi_dup2, qi_pop, qi_if_eq, qi_icmp_eq, qi_if_ne, qi_icmp_ne, qi_if_lt, qi_icmp_lt, qi_if_ge, qi_icmp_ge, qi_if_gt, qi_icmp_gt, qi_if_le, qi_icmp_le, qi_sw, qi_get, qi_put, qi_iald, qi_lald, qi_aald, qi_iast, qi_zast, qi_cast, qi_last, qi_aast, qi_alen, qi_new, qi_newa, qi_newq, qi_obj, qi_invS, qi_invV, qi_invI, qi_iret, qi_zret, qi_lret, qi_vret, qi_acopy, qi_max, qi_min, at_o, at_i, at_l, at_q, at_a, lget, lset, lclr, lnon, lnth, spl, shrt, rpush, true_and, and_true, List.set, List.length, Nat.reduceAdd, Nat.reduceLT, Nat.reduceLeDiff, Nat.reduceEqDiff, Nat.reduceSub, o2, o3]
    exact ⟨fun w => absurd w (by decide), fun _ => trivial⟩
theorem c_B_lay_no (hz : b + 69 ≤ z0) (hb : isB h b z0 sl len L n C T B A J S z V) (hl : len ≤ 200) (hL : ∀ j, L j < 65536) (hr : (rdC L len 200 0 pv0).1 ≠ none ∨ (rdC L len 200 0 pv0).2.1 = 0) : ∃ h', MA M_B_lay [.ref b] h (some (.int (-2))) h' ∧ isB h' b z0 sl len L n C T B A J S z V ∧ frC h h' b z0 := by
  obtain ⟨n2, c2, T2, B2, A2, J2, S2, hq⟩ := hb.2.2.2.1
  obtain ⟨h', v', c1, c2, c3, c4, c5⟩ := c_S_readInto (v := (n2, c2, T2, B2, A2, J2, S2)) hb.2.1 hl hL hq (by omega)
  refine ⟨h', MX.of (lv := [some (.ref b)]) 0 rfl (by decide) (Nat.le_of_ble_eq_true rfl) (sn_B_lay_0 _ _ _ ?_), hb.draft hz c4 ⟨_, _, _, _, _, _, _, c2⟩, c4.toC (by omega)⟩
  have o0 := hb.1
  have o1 := hb.2.1.1
  have o2 : h'.1 b = some (blO b) := by rw [c4.2 _ (by omega)]; exact o0
  have o3 := c2.1
  simp only [vc_B_lay_0, vc_B_lay_26, qi_push, qi_pushl, qi_iload, qi_lload, qi_aload, qi_istore, qi_astore, qi_lstore, qi_iinc, qi_iadd, qi_isub, qi_imul, qi_iand, qi_ior, qi_ixor, qi_ishl, qi_ishr, qi_iushr, qi_idiv, qi_irem, qi_lor, qi_lmul, qi_ladd, qi_lsub, qi_land, qi_lshl, qi_lshr, qi_i2l, qi_l2i, qi_i2c, qi_lcmp, qi_dup, qi_dup2, qi_pop, qi_if_eq, qi_icmp_eq, qi_if_ne, qi_icmp_ne, qi_if_lt, qi_icmp_lt, qi_if_ge, qi_icmp_ge, qi_if_gt, qi_icmp_gt, qi_if_le, qi_icmp_le, qi_sw, qi_get, qi_put, qi_iald, qi_lald, qi_aald, qi_iast, qi_zast, qi_cast, qi_last, qi_aast, qi_alen, qi_new, qi_newa, qi_newq, qi_obj, qi_invS, qi_invV, qi_invI, qi_iret, qi_zret, qi_lret, qi_vret, qi_acopy, qi_max, qi_min, at_o, at_i, at_l, at_q, at_a, lget, lset, lclr, lnon, lnth, spl, shrt, rpush, true_and, and_true, List.set, List.length, Nat.reduceAdd, Nat.reduceLT, Nat.reduceLeDiff, Nat.reduceEqDiff, Nat.reduceSub, o0, o1]
  refine ⟨_, _, c1, ?_⟩
  simp only [qi_push, qi_pushl, qi_iload, qi_lload, qi_aload, qi_istore, qi_astore, qi_lstore, qi_iinc, qi_iadd, qi_isub, qi_imul, qi_iand, qi_ior, qi_ixor, qi_ishl, qi_ishr, qi_iushr, qi_idiv, qi_irem, qi_lor, qi_lmul, qi_ladd, qi_lsub, qi_land, qi_lshl, qi_lshr, qi_i2l, qi_l2i, qi_i2c, qi_lcmp, qi_dup, qi_dup2, qi_pop, qi_if_eq, qi_icmp_eq, qi_if_ne, qi_icmp_ne, qi_if_lt, qi_icmp_lt, qi_if_ge, qi_icmp_ge, qi_if_gt, qi_icmp_gt, qi_if_le, qi_icmp_le, qi_sw, qi_get, qi_put, qi_iald, qi_lald, qi_aald, qi_iast, qi_zast, qi_cast, qi_last, qi_aast, qi_alen, qi_new, qi_newa, qi_newq, qi_obj, qi_invS, qi_invV, qi_invI, qi_iret, qi_zret, qi_lret, qi_vret, qi_acopy, qi_max, qi_min, at_o, at_i, at_l, at_q, at_a, lget, lset, lclr, lnon, lnth, spl, shrt, rpush, true_and, and_true, List.set, List.length, Nat.reduceAdd, Nat.reduceLT, Nat.reduceLeDiff, Nat.reduceEqDiff, Nat.reduceSub, o2, o3]
  refine ⟨fun _ => trivial, fun w => ⟨fun w2 => ?_, fun _ => trivial⟩⟩
  exfalso
  rcases hr with q | q
  · cases hf : (rdC L len 200 0 pv0).1 with
    | none => exact q hf
    | some y =>
      rw [hf] at w
      have hy := rdC_lt (L := L) (len := len) hf hl
      have := congrArg Int32.toInt w
      rw [show ftI (some y) = nI y from rfl, nI_toInt (by omega), show (-4 : Int32).toInt = -4 by decide] at this
      omega
  · have hf : (rdC L len 200 0 pv0).1 = none := by
      cases hf : (rdC L len 200 0 pv0).1 with
      | none => rfl
      | some y =>
        rw [hf] at w
        have hy := rdC_lt (L := L) (len := len) hf hl
        have := congrArg Int32.toInt w
        rw [show ftI (some y) = nI y from rfl, nI_toInt (by omega), show (-4 : Int32).toInt = -4 by decide] at this
        omega
    rw [c5 hf, q] at w2
    exact w2 rfl
theorem c_B_lay (hz : b + 69 ≤ z0) (hb : isB h b z0 sl len L n C T B A J S z V) (hl : len ≤ 200) (hL : ∀ j, L j < 65536) {n' C' : Nat} {T' B' A' J' S' : Nat → Nat} (hr : rdC L len 200 0 pv0 = (none, n', nI C', T', B', A', J', S')) (hn : 0 < n' ∧ n' ≤ 12) : ∃ h', MA M_B_lay [.ref b] h (some (.int (nI n'))) h' ∧ isB h' b z0 sl len L n' C' T' B' A' J' S' 0 V ∧ frC h h' b z0 := by
  obtain ⟨n2, c2, T2, B2, A2, J2, S2, hq⟩ := hb.2.2.2.1
  obtain ⟨h1, v', c1, c2, c3, c4, c5⟩ := c_S_readInto (v := (n2, c2, T2, B2, A2, J2, S2)) hb.2.1 hl hL hq (by omega)
  rw [hr] at c1 c5
  have c5 := c5 rfl
  subst c5
  have b1 := hb.draft hz c4 ⟨_, _, _, _, _, _, _, c2⟩
  obtain ⟨h2, d1, d2, d3⟩ := c_P_copy b1.2.2.1 c2 (by omega)
  obtain ⟨K, pa1⟩ := b1.2.2.2.2.1
  obtain ⟨h3, e1, e2, e3⟩ := c_H_clear (pa1.keepS (d3.s (by omega)))
  have st3 := (b1.2.2.2.2.2.keepS (lay_b hz) (d3.wide (by omega) (by omega))).keepS (lay_b hz) (e3.wide (by omega) (by omega))
  obtain ⟨h4, f1, f2, f3⟩ := st3.forget n' C' T' B' A' J' (lay_b hz)
  have e3' : frm h2 h3 (b + 15) 38 := e3.wide (by omega) (by omega)
  have o0 := hb.1
  have o1 := b1.1
  have o2 : h2.1 b = some (blO b) := by rw [d3.2 _ (by omega)]; exact o1
  have o3 : h3.1 b = some (blO b) := by rw [e3.2 _ (by omega)]; exact o2
  have o4 : h4.1 b = some (blO b) := by rw [f3.2 _ (by omega)]; exact o3
  have p4 := (d2.keepS (e3.s (by omega))).keepS (f3.s (by omega))
  refine ⟨h4, MX.of (lv := [some (.ref b)]) 0 rfl (by decide) (Nat.le_of_ble_eq_true rfl) (sn_B_lay_0 _ _ _ ?_), ⟨o4, ((b1.2.1.keepS (d3.s (by omega))).keepS (e3.s (by omega))).keepS (f3.s (by omega)), p4, ((b1.2.2.2.1.keepS (d3.s (by omega))).keepS (e3.s (by omega))).keepS (f3.s (by omega)), ⟨K, e2.keepS (f3.s (by omega))⟩, f2⟩, (((c4.toC (by omega)).trans (d3.toC (by omega))).trans (e3.toC (by omega))).trans (f3.toC (by omega))⟩
  have q1 := hb.2.1.1
  have q2 := c2.1
  have q3 := b1.2.2.1.1
  have q4 := (pa1.keepS (d3.s (by omega))).1
  obtain ⟨fs, q5⟩ := st3.ob
  have q6 := p4.1
  simp only [vc_B_lay_0, vc_B_lay_26, vc_B_lay_29, qi_push, qi_pushl, qi_iload, qi_lload, qi_aload, qi_istore, qi_astore, qi_lstore, qi_iinc, qi_iadd, qi_isub, qi_imul, qi_iand, qi_ior, qi_ixor, qi_ishl, qi_ishr, qi_iushr, qi_idiv, qi_irem, qi_lor, qi_lmul, qi_ladd, qi_lsub, qi_land, qi_lshl, qi_lshr, qi_i2l, qi_l2i, qi_i2c, qi_lcmp, qi_dup, qi_dup2, qi_pop, qi_if_eq, qi_icmp_eq, qi_if_ne, qi_icmp_ne, qi_if_lt, qi_icmp_lt, qi_if_ge, qi_icmp_ge, qi_if_gt, qi_icmp_gt, qi_if_le, qi_icmp_le, qi_sw, qi_get, qi_put, qi_iald, qi_lald, qi_aald, qi_iast, qi_zast, qi_cast, qi_last, qi_aast, qi_alen, qi_new, qi_newa, qi_newq, qi_obj, qi_invS, qi_invV, qi_invI, qi_iret, qi_zret, qi_lret, qi_vret, qi_acopy, qi_max, qi_min, at_o, at_i, at_l, at_q, at_a, lget, lset, lclr, lnon, lnth, spl, shrt, rpush, true_and, and_true, List.set, List.length, Nat.reduceAdd, Nat.reduceLT, Nat.reduceLeDiff, Nat.reduceEqDiff, Nat.reduceSub, o0, q1]
  refine ⟨_, _, c1, ?_⟩
  simp only [qi_push, qi_pushl, qi_iload, qi_lload, qi_aload, qi_istore, qi_astore, qi_lstore, qi_iinc, qi_iadd, qi_isub, qi_imul, qi_iand, qi_ior, qi_ixor, qi_ishl, qi_ishr, qi_iushr, qi_idiv, qi_irem, qi_lor, qi_lmul, qi_ladd, qi_lsub, qi_land, qi_lshl, qi_lshr, qi_i2l, qi_l2i, qi_i2c, qi_lcmp, qi_dup, qi_dup2, qi_pop, qi_if_eq, qi_icmp_eq, qi_if_ne, qi_icmp_ne, qi_if_lt, qi_icmp_lt, qi_if_ge, qi_icmp_ge, qi_if_gt, qi_icmp_gt, qi_if_le, qi_icmp_le, qi_sw, qi_get, qi_put, qi_iald, qi_lald, qi_aald, qi_iast, qi_zast, qi_cast, qi_last, qi_aast, qi_alen, qi_new, qi_newa, qi_newq, qi_obj, qi_invS, qi_invV, qi_invI, qi_iret, qi_zret, qi_lret, qi_vret, qi_acopy, qi_max, qi_min, at_o, at_i, at_l, at_q, at_a, lget, lset, lclr, lnon, lnth, spl, shrt, rpush, true_and, and_true, List.set, List.length, Nat.reduceAdd, Nat.reduceLT, Nat.reduceLeDiff, Nat.reduceEqDiff, Nat.reduceSub, o1, q2, q3]
  refine ⟨fun w => absurd rfl w, fun _ => ⟨fun _ => ⟨_, _, d1, ?_⟩, fun w => absurd w (nI_ne0 hn.1 (by omega))⟩⟩
  simp only [qi_push, qi_pushl, qi_iload, qi_lload, qi_aload, qi_istore, qi_astore, qi_lstore, qi_iinc, qi_iadd, qi_isub, qi_imul, qi_iand, qi_ior, qi_ixor, qi_ishl, qi_ishr, qi_iushr, qi_idiv, qi_irem, qi_lor, qi_lmul, qi_ladd, qi_lsub, qi_land, qi_lshl, qi_lshr, qi_i2l, qi_l2i, qi_i2c, qi_lcmp, qi_dup, qi_dup2, qi_pop, qi_if_eq, qi_icmp_eq, qi_if_ne, qi_icmp_ne, qi_if_lt, qi_icmp_lt, qi_if_ge, qi_icmp_ge, qi_if_gt, qi_icmp_gt, qi_if_le, qi_icmp_le, qi_sw, qi_get, qi_put, qi_iald, qi_lald, qi_aald, qi_iast, qi_zast, qi_cast, qi_last, qi_aast, qi_alen, qi_new, qi_newa, qi_newq, qi_obj, qi_invS, qi_invV, qi_invI, qi_iret, qi_zret, qi_lret, qi_vret, qi_acopy, qi_max, qi_min, at_o, at_i, at_l, at_q, at_a, lget, lset, lclr, lnon, lnth, spl, shrt, rpush, true_and, and_true, List.set, List.length, Nat.reduceAdd, Nat.reduceLT, Nat.reduceLeDiff, Nat.reduceEqDiff, Nat.reduceSub, o2, q4]
  refine ⟨_, _, e1, ?_⟩
  simp only [qi_push, qi_pushl, qi_iload, qi_lload, qi_aload, qi_istore, qi_astore, qi_lstore, qi_iinc, qi_iadd, qi_isub, qi_imul, qi_iand, qi_ior, qi_ixor, qi_ishl, qi_ishr, qi_iushr, qi_idiv, qi_irem, qi_lor, qi_lmul, qi_ladd, qi_lsub, qi_land, qi_lshl, qi_lshr, qi_i2l, qi_l2i, qi_i2c, qi_lcmp, qi_dup, qi_dup2, qi_pop, qi_if_eq, qi_icmp_eq, qi_if_ne, qi_icmp_ne, qi_if_lt, qi_icmp_lt, qi_if_ge, qi_icmp_ge, qi_if_gt, qi_icmp_gt, qi_if_le, qi_icmp_le, qi_sw, qi_get, qi_put, qi_iald, qi_lald, qi_aald, qi_iast, qi_zast, qi_cast, qi_last, qi_aast, qi_alen, qi_new, qi_newa, qi_newq, qi_obj, qi_invS, qi_invV, qi_invI, qi_iret, qi_zret, qi_lret, qi_vret, qi_acopy, qi_max, qi_min, at_o, at_i, at_l, at_q, at_a, lget, lset, lclr, lnon, lnth, spl, shrt, rpush, true_and, and_true, List.set, List.length, Nat.reduceAdd, Nat.reduceLT, Nat.reduceLeDiff, Nat.reduceEqDiff, Nat.reduceSub, o3, q5]
  refine ⟨_, _, f1, ?_⟩
  simp only [qi_push, qi_pushl, qi_iload, qi_lload, qi_aload, qi_istore, qi_astore, qi_lstore, qi_iinc, qi_iadd, qi_isub, qi_imul, qi_iand, qi_ior, qi_ixor, qi_ishl, qi_ishr, qi_iushr, qi_idiv, qi_irem, qi_lor, qi_lmul, qi_ladd, qi_lsub, qi_land, qi_lshl, qi_lshr, qi_i2l, qi_l2i, qi_i2c, qi_lcmp, qi_dup, qi_dup2, qi_pop, qi_if_eq, qi_icmp_eq, qi_if_ne, qi_icmp_ne, qi_if_lt, qi_icmp_lt, qi_if_ge, qi_icmp_ge, qi_if_gt, qi_icmp_gt, qi_if_le, qi_icmp_le, qi_sw, qi_get, qi_put, qi_iald, qi_lald, qi_aald, qi_iast, qi_zast, qi_cast, qi_last, qi_aast, qi_alen, qi_new, qi_newa, qi_newq, qi_obj, qi_invS, qi_invV, qi_invI, qi_iret, qi_zret, qi_lret, qi_vret, qi_acopy, qi_max, qi_min, at_o, at_i, at_l, at_q, at_a, lget, lset, lclr, lnon, lnth, spl, shrt, rpush, true_and, and_true, List.set, List.length, Nat.reduceAdd, Nat.reduceLT, Nat.reduceLeDiff, Nat.reduceEqDiff, Nat.reduceSub, o4, q6]
/-- what is put must bear what is told; Study forgets -/
theorem c_B_settle {h0 : hc_H} {n0 C0 : Nat} {T0 B0 A0 J0 S0 : Nat → Nat} (hz : b + 69 ≤ z0) (hb : isB h0 b z0 sl len L n0 C0 T0 B0 A0 J0 S0 z V) (f : frm h0 h (b + 3) 6) (hp : isPl h (b + 3) n (nI C) T B A J S) (hw : pw n T B A J S) (hC : C < 1000) : ∃ h', MA M_B_settle [.ref b] h none h' ∧ isB h' b z0 sl len L n C T B A J (tmS n C T B A J S n) z V ∧ frC h h' b z0 := by
  obtain ⟨h1, c1, c2, c3⟩ := c_P_takeOffMisfits hp hw hC
  have f1 := f.trans c3
  have st1 := hb.2.2.2.2.2.keepS (lay_b hz) (f1.wide (by omega) (by omega))
  obtain ⟨h2, d1, d2, d3⟩ := st1.forget n C T B A J (lay_b hz)
  refine ⟨h2, MX.of (lv := [some (.ref b)]) 0 rfl (by decide) (Nat.le_of_ble_eq_true rfl) (sn_B_settle_0 _ _ _ ?_), hb.plan hz f1 c2 d3 d2, (c3.toC (by omega)).trans (d3.toC (by omega))⟩
  have o0 : h.1 b = some (blO b) := by rw [f.2 _ (by omega)]; exact hb.1
  have o1 : h1.1 b = some (blO b) := by rw [c3.2 _ (by omega)]; exact o0
  have q1 := hp.1
  obtain ⟨fs, q2⟩ := st1.ob
  simp only [vc_B_settle_0, qi_push, qi_pushl, qi_iload, qi_lload, qi_aload, qi_istore, qi_astore, qi_lstore, qi_iinc, qi_iadd, qi_isub, qi_imul, qi_iand, qi_ior, qi_ixor, qi_ishl, qi_ishr, qi_iushr, qi_idiv, qi_irem, qi_lor, qi_lmul, qi_ladd, qi_lsub, qi_land, qi_lshl, qi_lshr, qi_i2l, qi_l2i, qi_i2c, qi_lcmp, qi_dup, qi_dup2, qi_pop, qi_if_eq, qi_icmp_eq, qi_if_ne, qi_icmp_ne, qi_if_lt, qi_icmp_lt, qi_if_ge, qi_icmp_ge, qi_if_gt, qi_icmp_gt, qi_if_le, qi_icmp_le, qi_sw, qi_get, qi_put, qi_iald, qi_lald, qi_aald, qi_iast, qi_zast, qi_cast, qi_last, qi_aast, qi_alen, qi_new, qi_newa, qi_newq, qi_obj, qi_invS, qi_invV, qi_invI, qi_iret, qi_zret, qi_lret, qi_vret, qi_acopy, qi_max, qi_min, at_o, at_i, at_l, at_q, at_a, lget, lset, lclr, lnon, lnth, spl, shrt, rpush, true_and, and_true, List.set, List.length, Nat.reduceAdd, Nat.reduceLT, Nat.reduceLeDiff, Nat.reduceEqDiff, Nat.reduceSub, o0, q1]
  refine ⟨_, _, c1, ?_⟩
  simp only [qi_push, qi_pushl, qi_iload, qi_lload, qi_aload, qi_istore, qi_astore, qi_lstore, qi_iinc, qi_iadd, qi_isub, qi_imul, qi_iand, qi_ior, qi_ixor, qi_ishl, qi_ishr, qi_iushr, qi_idiv, qi_irem, qi_lor, qi_lmul, qi_ladd, qi_lsub, qi_land, qi_lshl, qi_lshr, qi_i2l, qi_l2i, qi_i2c, qi_lcmp, qi_dup, qi_dup2, qi_pop, qi_if_eq, qi_icmp_eq, qi_if_ne, qi_icmp_ne, qi_if_lt, qi_icmp_lt, qi_if_ge, qi_icmp_ge, qi_if_gt, qi_icmp_gt, qi_if_le, qi_icmp_le, qi_sw, qi_get, qi_put, qi_iald, qi_lald, qi_aald, qi_iast, qi_zast, qi_cast, qi_last, qi_aast, qi_alen, qi_new, qi_newa, qi_newq, qi_obj, qi_invS, qi_invV, qi_invI, qi_iret, qi_zret, qi_lret, qi_vret, qi_acopy, qi_max, qi_min, at_o, at_i, at_l, at_q, at_a, lget, lset, lclr, lnon, lnth, spl, shrt, rpush, true_and, and_true, List.set, List.length, Nat.reduceAdd, Nat.reduceLT, Nat.reduceLeDiff, Nat.reduceEqDiff, Nat.reduceSub, o1, q2]
  refine ⟨_, _, d1, ?_⟩
  simp only [qi_push, qi_pushl, qi_iload, qi_lload, qi_aload, qi_istore, qi_astore, qi_lstore, qi_iinc, qi_iadd, qi_isub, qi_imul, qi_iand, qi_ior, qi_ixor, qi_ishl, qi_ishr, qi_iushr, qi_idiv, qi_irem, qi_lor, qi_lmul, qi_ladd, qi_lsub, qi_land, qi_lshl, qi_lshr, qi_i2l, qi_l2i, qi_i2c, qi_lcmp, qi_dup, qi_dup2, qi_pop, qi_if_eq, qi_icmp_eq, qi_if_ne, qi_icmp_ne, qi_if_lt, qi_icmp_lt, qi_if_ge, qi_icmp_ge, qi_if_gt, qi_icmp_gt, qi_if_le, qi_icmp_le, qi_sw, qi_get, qi_put, qi_iald, qi_lald, qi_aald, qi_iast, qi_zast, qi_cast, qi_last, qi_aast, qi_alen, qi_new, qi_newa, qi_newq, qi_obj, qi_invS, qi_invV, qi_invI, qi_iret, qi_zret, qi_lret, qi_vret, qi_acopy, qi_max, qi_min, at_o, at_i, at_l, at_q, at_a, lget, lset, lclr, lnon, lnth, spl, shrt, rpush, true_and, and_true, List.set, List.length, Nat.reduceAdd, Nat.reduceLT, Nat.reduceLeDiff, Nat.reduceEqDiff, Nat.reduceSub]
/-- the past keeps what is now -/
theorem c_B_keep (hz : b + 69 ≤ z0) (hb : isB h b z0 sl len L n C T B A J S z V) (h6 : z ≤ 6) : ∃ h', MA M_H_keep [.ref (b + 15), .ref (b + 3)] h none h' ∧ isB h' b z0 sl len L n C T B A J S (kz z) (kV z V (n, nI C, T, B, A, J, S)) ∧ frC h h' b z0 := by
  obtain ⟨K, pa⟩ := hb.2.2.2.2.1
  obtain ⟨h', K', V', c1, c2, c3, c4⟩ := c_H_keep pa h6 (q := b + 3) (v := (n, nI C, T, B, A, J, S)) hb.2.2.1 (by omega)
  exact ⟨h', c1, hb.past hz c3 (c2.cV c4), c3.toC (by omega)⟩
theorem c_B_cycle_bad (hb : isB h b z0 sl len L n C T B A J S z V) {x : Int32} (hx : ¬ (nI 1 ≤ x ∧ x ≤ nI 120)) : MA M_B_cycle [.ref b, .int x] h (some (.int (-1))) h := by
  refine MX.of (lv := [some (.ref b), some (.int x), none]) 1 rfl (by decide) (Nat.le_of_ble_eq_true rfl) (sn_B_cycle_0 _ _ _ ?_)
  simp only [vc_B_cycle_0, qi_push, qi_pushl, qi_iload, qi_lload, qi_aload, qi_istore, qi_astore, qi_lstore, qi_iinc, qi_iadd, qi_isub, qi_imul, qi_iand, qi_ior, qi_ixor, qi_ishl, qi_ishr, qi_iushr, qi_idiv, qi_irem, qi_lor, qi_lmul, qi_ladd, qi_lsub, qi_land, qi_lshl, qi_lshr, qi_i2l, qi_l2i, qi_i2c, qi_lcmp, qi_dup, qi_dup2, qi_pop, qi_if_eq, qi_icmp_eq, qi_if_ne, qi_icmp_ne, qi_if_lt, qi_icmp_lt, qi_if_ge, qi_icmp_ge, qi_if_gt, qi_icmp_gt, qi_if_le, qi_icmp_le, qi_sw, qi_get, qi_put, qi_iald, qi_lald, qi_aald, qi_iast, qi_zast, qi_cast, qi_last, qi_aast, qi_alen, qi_new, qi_newa, qi_newq, qi_obj, qi_invS, qi_invV, qi_invI, qi_iret, qi_zret, qi_lret, qi_vret, qi_acopy, qi_max, qi_min, at_o, at_i, at_l, at_q, at_a, lget, lset, lclr, lnon, lnth, spl, shrt, rpush, true_and, and_true, List.set, List.length, Nat.reduceAdd, Nat.reduceLT, Nat.reduceLeDiff, Nat.reduceEqDiff, Nat.reduceSub]
  refine ⟨_, _, c_B_isWithin h x (nI 1) (nI 120), ?_⟩
  simp only [qi_push, qi_pushl, qi_iload, qi_lload, qi_aload, qi_istore, qi_astore, qi_lstore, qi_iinc, qi_iadd, qi_isub, qi_imul, qi_iand, qi_ior, qi_ixor, qi_ishl, qi_ishr, qi_iushr, qi_idiv, qi_irem, qi_lor, qi_lmul, qi_ladd, qi_lsub, qi_land, qi_lshl, qi_lshr, qi_i2l, qi_l2i, qi_i2c, qi_lcmp, qi_dup, qi_dup2, qi_pop, qi_if_eq, qi_icmp_eq, qi_if_ne, qi_icmp_ne, qi_if_lt, qi_icmp_lt, qi_if_ge, qi_icmp_ge, qi_if_gt, qi_icmp_gt, qi_if_le, qi_icmp_le, qi_sw, qi_get, qi_put, qi_iald, qi_lald, qi_aald, qi_iast, qi_zast, qi_cast, qi_last, qi_aast, qi_alen, qi_new, qi_newa, qi_newq, qi_obj, qi_invS, qi_invV, qi_invI, qi_iret, qi_zret, qi_lret, qi_vret, qi_acopy, qi_max, qi_min, at_o, at_i, at_l, at_q, at_a, lget, lset, lclr, lnon, lnth, spl, shrt, rpush, true_and, and_true, List.set, List.length, Nat.reduceAdd, Nat.reduceLT, Nat.reduceLeDiff, Nat.reduceEqDiff, Nat.reduceSub]
  rw [nb_ne0, decide_eq_true_eq]
  exact ⟨fun w => absurd w hx, fun _ => trivial⟩
theorem c_B_cycle_no (hb : isB h b z0 sl len L n C T B A J S z V) (h1 : 1 ≤ C) (h2 : C ≤ 120) : MA M_B_cycle [.ref b, .int (nI C)] h (some (.int (-2))) h := by
  have o0 := hb.1
  have o1 := hb.2.2.1.1
  have e0 := in_i (show 120 < 2 ^ 31 by omega) h1 h2
  refine MX.of (lv := [some (.ref b), some (.int (nI C)), none]) 1 rfl (by decide) (Nat.le_of_ble_eq_true rfl) (sn_B_cycle_0 _ _ _ ?_)
  simp only [vc_B_cycle_0, vc_B_cycle_12, qi_push, qi_pushl, qi_iload, qi_lload, qi_aload, qi_istore, qi_astore, qi_lstore, qi_iinc, qi_iadd, qi_isub, qi_imul, qi_iand, qi_ior, qi_ixor, qi_ishl, qi_ishr, qi_iushr, qi_idiv, qi_irem, qi_lor, qi_lmul, qi_ladd, qi_lsub, qi_land, qi_lshl, qi_lshr, qi_i2l, qi_l2i, qi_i2c, qi_lcmp, qi_dup, qi_dup2, qi_pop, qi_if_eq, qi_icmp_eq, qi_if_ne, qi_icmp_ne, qi_if_lt, qi_icmp_lt, qi_if_ge, qi_icmp_ge, qi_if_gt, qi_icmp_gt, qi_if_le, qi_icmp_le, qi_sw, qi_get, qi_put, qi_iald, qi_lald, qi_aald, qi_iast, qi_zast, qi_cast, qi_last, qi_aast, qi_alen, qi_new, qi_newa, qi_newq, qi_obj, qi_invS, qi_invV, qi_invI, qi_iret, qi_zret, qi_lret, qi_vret, qi_acopy, qi_max, qi_min, at_o, at_i, at_l, at_q, at_a, lget, lset, lclr, lnon, lnth, spl, shrt, rpush, true_and, and_true, List.set, List.length, Nat.reduceAdd, Nat.reduceLT, Nat.reduceLeDiff, Nat.reduceEqDiff, Nat.reduceSub]
  refine ⟨_, _, c_B_isWithin h (nI C) (nI 1) (nI 120), ?_⟩
  simp only [qi_push, qi_pushl, qi_iload, qi_lload, qi_aload, qi_istore, qi_astore, qi_lstore, qi_iinc, qi_iadd, qi_isub, qi_imul, qi_iand, qi_ior, qi_ixor, qi_ishl, qi_ishr, qi_iushr, qi_idiv, qi_irem, qi_lor, qi_lmul, qi_ladd, qi_lsub, qi_land, qi_lshl, qi_lshr, qi_i2l, qi_l2i, qi_i2c, qi_lcmp, qi_dup, qi_dup2, qi_pop, qi_if_eq, qi_icmp_eq, qi_if_ne, qi_icmp_ne, qi_if_lt, qi_icmp_lt, qi_if_ge, qi_icmp_ge, qi_if_gt, qi_icmp_gt, qi_if_le, qi_icmp_le, qi_sw, qi_get, qi_put, qi_iald, qi_lald, qi_aald, qi_iast, qi_zast, qi_cast, qi_last, qi_aast, qi_alen, qi_new, qi_newa, qi_newq, qi_obj, qi_invS, qi_invV, qi_invI, qi_iret, qi_zret, qi_lret, qi_vret, qi_acopy, qi_max, qi_min, at_o, at_i, at_l, at_q, at_a, lget, lset, lclr, lnon, lnth, spl, shrt, rpush, true_and, and_true, List.set, List.length, Nat.reduceAdd, Nat.reduceLT, Nat.reduceLeDiff, Nat.reduceEqDiff, Nat.reduceSub, o0, o1]
  exact ⟨fun _ => ⟨fun w => absurd trivial w, fun _ => trivial⟩, fun w => absurd e0 (of_decide_eq_false ((nb_eq0 _).mp w))⟩
theorem c_B_cycle (hz : b + 69 ≤ z0) (hb : isB h b z0 sl len L n C T B A J S z V) (h6 : z ≤ 6) (hw : pw n T B A J S) (hC : C ≤ 120) {x : Nat} (h1 : 1 ≤ x) (h2 : x ≤ 120) (hne : ¬ C = x) : ∃ h', MA M_B_cycle [.ref b, .int (nI x)] h (some (.int (nI C))) h' ∧ isB h' b z0 sl len L n x T B A J (tmS n x T B A J S n) (kz z) (kV z V (n, nI C, T, B, A, J, S)) ∧ frC h h' b z0 := by
  have o0 := hb.1
  have o1 := hb.2.2.1.1
  have e0 := in_i (show 120 < 2 ^ 31 by omega) h1 h2
  obtain ⟨g1, c1, c2, c3⟩ := c_B_keep hz hb h6
  obtain ⟨g2, eg2⟩ : ∃ y, hc_set g1 (b + 3) (.inr (2, [.int (nI n), .int (nI x), .ref (b + 3 + 1), .ref (b + 3 + 2), .ref (b + 3 + 3), .ref (b + 3 + 4), .ref (b + 3 + 5)])) = y := ⟨_, rfl⟩
  have f2 : frm g1 g2 (b + 3) 6 := eg2 ▸ frm.rfl'.set (by omega)
  have p2 : isPl g2 (b + 3) n (nI x) T B A J S := by
    obtain ⟨p0, p1, p2, p3, p4, p5⟩ := c2.2.2.1
    rw [← eg2]
    refine ⟨hs_eq _ _ _, ?_, ?_, ?_, ?_, ?_⟩ <;> rw [hs_ne _ _ (by omega)] <;> assumption
  obtain ⟨g3, d1, d2, d3⟩ := c_B_settle hz c2 f2 p2 hw (show x < 1000 by omega)
  refine ⟨g3, MX.of (lv := [some (.ref b), some (.int (nI x)), none]) 1 rfl (by decide) (Nat.le_of_ble_eq_true rfl) (sn_B_cycle_0 _ _ _ ?_), d2, (c3.trans (f2.toC (by omega))).trans d3⟩
  have o2 := c2.1
  have o3 := c2.2.2.1.1
  have o4 : g2.1 b = some (blO b) := by rw [f2.2 _ (by omega)]; exact o2
  obtain ⟨K, pa⟩ := hb.2.2.2.2.1
  have o5 := pa.1
  simp only [vc_B_cycle_0, vc_B_cycle_12, vc_B_cycle_28, qi_push, qi_pushl, qi_iload, qi_lload, qi_aload, qi_istore, qi_astore, qi_lstore, qi_iinc, qi_iadd, qi_isub, qi_imul, qi_iand, qi_ior, qi_ixor, qi_ishl, qi_ishr, qi_iushr, qi_idiv, qi_irem, qi_lor, qi_lmul, qi_ladd, qi_lsub, qi_land, qi_lshl, qi_lshr, qi_i2l, qi_l2i, qi_i2c, qi_lcmp, qi_dup, qi_dup2, qi_pop, qi_if_eq, qi_icmp_eq, qi_if_ne, qi_icmp_ne, qi_if_lt, qi_icmp_lt, qi_if_ge, qi_icmp_ge, qi_if_gt, qi_icmp_gt, qi_if_le, qi_icmp_le, qi_sw, qi_get, qi_put, qi_iald, qi_lald, qi_aald, qi_iast, qi_zast, qi_cast, qi_last, qi_aast, qi_alen, qi_new, qi_newa, qi_newq, qi_obj, qi_invS, qi_invV, qi_invI, qi_iret, qi_zret, qi_lret, qi_vret, qi_acopy, qi_max, qi_min, at_o, at_i, at_l, at_q, at_a, lget, lset, lclr, lnon, lnth, spl, shrt, rpush, true_and, and_true, List.set, List.length, Nat.reduceAdd, Nat.reduceLT, Nat.reduceLeDiff, Nat.reduceEqDiff, Nat.reduceSub]
  refine ⟨_, _, c_B_isWithin h (nI x) (nI 1) (nI 120), ?_⟩
  simp only [qi_push, qi_pushl, qi_iload, qi_lload, qi_aload, qi_istore, qi_astore, qi_lstore, qi_iinc, qi_iadd, qi_isub, qi_imul, qi_iand, qi_ior, qi_ixor, qi_ishl, qi_ishr, qi_iushr, qi_idiv, qi_irem, qi_lor, qi_lmul, qi_ladd, qi_lsub, qi_land, qi_lshl, qi_lshr, qi_i2l, qi_l2i, qi_i2c, qi_lcmp, qi_dup, qi_dup2, qi_pop, qi_if_eq, qi_icmp_eq, qi_if_ne, qi_icmp_ne, qi_if_lt, qi_icmp_lt, qi_if_ge, qi_icmp_ge, qi_if_gt, qi_icmp_gt, qi_if_le, qi_icmp_le, qi_sw, qi_get, qi_put, qi_iald, qi_lald, qi_aald, qi_iast, qi_zast, qi_cast, qi_last, qi_aast, qi_alen, qi_new, qi_newa, qi_newq, qi_obj, qi_invS, qi_invV, qi_invI, qi_iret, qi_zret, qi_lret, qi_vret, qi_acopy, qi_max, qi_min, at_o, at_i, at_l, at_q, at_a, lget, lset, lclr, lnon, lnth, spl, shrt, rpush, true_and, and_true, List.set, List.length, Nat.reduceAdd, Nat.reduceLT, Nat.reduceLeDiff, Nat.reduceEqDiff, Nat.reduceSub, o0, o1, o5]
  refine ⟨fun _ => ⟨fun _ => ⟨_, _, c1, ?_⟩, fun w => absurd ((nI_eq (by omega) (by omega)).mp w) hne⟩, fun w => absurd e0 (of_decide_eq_false ((nb_eq0 _).mp w))⟩
  simp only [qi_push, qi_pushl, qi_iload, qi_lload, qi_aload, qi_istore, qi_astore, qi_lstore, qi_iinc, qi_iadd, qi_isub, qi_imul, qi_iand, qi_ior, qi_ixor, qi_ishl, qi_ishr, qi_iushr, qi_idiv, qi_irem, qi_lor, qi_lmul, qi_ladd, qi_lsub, qi_land, qi_lshl, qi_lshr, qi_i2l, qi_l2i, qi_i2c, qi_lcmp, qi_dup, qi_dup2, qi_pop, qi_if_eq, qi_icmp_eq, qi_if_ne, qi_icmp_ne, qi_if_lt, qi_icmp_lt, qi_if_ge, qi_icmp_ge, qi_if_gt, qi_icmp_gt, qi_if_le, qi_icmp_le, qi_sw, qi_get, qi_put, qi_iald, qi_lald, qi_aald, qi_iast, qi_zast, qi_cast, qi_last, qi_aast, qi_alen, qi_new, qi_newa, qi_newq, qi_obj, qi_invS, qi_invV, qi_invI, qi_iret, qi_zret, qi_lret, qi_vret, qi_acopy, qi_max, qi_min, at_o, at_i, at_l, at_q, at_a, lget, lset, lclr, lnon, lnth, spl, shrt, rpush, true_and, and_true, List.set, List.length, Nat.reduceAdd, Nat.reduceLT, Nat.reduceLeDiff, Nat.reduceEqDiff, Nat.reduceSub, o2, o3, eg2, o4]
  refine ⟨hc_fit_i, _, _, d1, ?_⟩
  simp only [qi_push, qi_pushl, qi_iload, qi_lload, qi_aload, qi_istore, qi_astore, qi_lstore, qi_iinc, qi_iadd, qi_isub, qi_imul, qi_iand, qi_ior, qi_ixor, qi_ishl, qi_ishr, qi_iushr, qi_idiv, qi_irem, qi_lor, qi_lmul, qi_ladd, qi_lsub, qi_land, qi_lshl, qi_lshr, qi_i2l, qi_l2i, qi_i2c, qi_lcmp, qi_dup, qi_dup2, qi_pop, qi_if_eq, qi_icmp_eq, qi_if_ne, qi_icmp_ne, qi_if_lt, qi_icmp_lt, qi_if_ge, qi_icmp_ge, qi_if_gt, qi_icmp_gt, qi_if_le, qi_icmp_le, qi_sw, qi_get, qi_put, qi_iald, qi_lald, qi_aald, qi_iast, qi_zast, qi_cast, qi_last, qi_aast, qi_alen, qi_new, qi_newa, qi_newq, qi_obj, qi_invS, qi_invV, qi_invI, qi_iret, qi_zret, qi_lret, qi_vret, qi_acopy, qi_max, qi_min, at_o, at_i, at_l, at_q, at_a, lget, lset, lclr, lnon, lnth, spl, shrt, rpush, true_and, and_true, List.set, List.length, Nat.reduceAdd, Nat.reduceLT, Nat.reduceLeDiff, Nat.reduceEqDiff, Nat.reduceSub]
end BL
