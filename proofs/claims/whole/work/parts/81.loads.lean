/-! THE MODEL: loads. -/
section MO
variable {h : hc_H} {m len um sp fs n C : Nat} {X : Nat → Nat → Nat} {Q : Nat → Int32} {T B A J S : Nat → Nat}
/-- a load that is part of no other -/
def fulP (n C : Nat) (T B A J : Nat → Nat) (s : Nat) : Prop := nd n C T B A J s = 0 ∧ ∀ t, sub t (sdf (2 ^ n - 1) s) → 0 < t → ¬ nd n C T B A J (s ||| t) = 0
theorem c_R_isFull (hr : isR h m len um sp fs X Q) (h0 : X 2 0 = n) (hn : n ≤ 12) (hB : ∀ x, B x < 4096) (hg : fgP n C T B A J X) {s : Nat} (hs : s < 2 ^ n) {b : Bool} (hb : b = true ↔ fulP n C T B A J s) : MA M_R_isFull [.ref m, .int (nI s)] h (some (.int (nI b.toNat))) h := by
  have o0 := hr.1
  have l12 := pow_12 hn
  obtain ⟨op, eop⟩ : ∃ z, sdf (2 ^ n - 1) s = z := ⟨_, rfl⟩
  have opl : op ≤ 2 ^ n - 1 := by rw [← eop]; exact sub_le (sdf_sub _ _)
  have loop0 : b = false → ∀ t, t < 4096 → cx hc_tt M_R_isFull h h (some (.int (nI b.toNat))) 19 [some (.ref m), some (.int (nI s)), some (.int (nI 0)), some (.int (nI op)), some (.int (nI t))] [] h := by
    intro e t ht
    refine sn_R_isFull_19 _ _ _ ?_
    simp only [vc_R_isFull_19, vc_R_isFull_57, qi_push, qi_pushl, qi_iload, qi_lload, qi_aload, qi_istore, qi_astore, qi_lstore, qi_iinc, qi_iadd, qi_isub, qi_imul, qi_iand, qi_ior, qi_ixor, qi_ishl, qi_ishr, qi_iushr, qi_idiv, qi_irem, qi_lor, qi_lmul, qi_ladd, qi_lsub, qi_land, qi_lshl, qi_lshr, qi_i2l, qi_l2i, qi_i2c, qi_lcmp, qi_dup, qi_dup2, qi_pop, qi_if_eq, qi_icmp_eq, qi_if_ne, qi_icmp_ne, qi_if_lt, qi_icmp_lt, qi_if_ge, qi_icmp_ge, qi_if_gt, qi_icmp_gt, qi_if_le, qi_icmp_le, qi_sw, qi_get, qi_put, qi_iald, qi_lald, qi_aald, qi_iast, qi_zast, qi_cast, qi_last, qi_aast, qi_alen, qi_new, qi_newa, qi_newq, qi_obj, qi_invS, qi_invV, qi_invI, qi_iret, qi_zret, qi_lret, qi_vret, qi_acopy, qi_max, qi_min, at_o, at_i, at_l, at_q, at_a, lget, lset, lclr, lnon, lnth, spl, shrt, rpush, true_and, and_true, List.set, List.length, Nat.reduceAdd, Nat.reduceLT, Nat.reduceLeDiff, Nat.reduceEqDiff, Nat.reduceSub]
    rw [e]
    exact ⟨fun _ => ⟨Or.inl rfl, (by first | trivial | exact ⟨rfl, rfl⟩)⟩, fun _ => ⟨fun _ => ⟨Or.inl rfl, (by first | trivial | exact ⟨rfl, rfl⟩)⟩, fun q => absurd rfl q⟩⟩
  have loop := subm_loop (o := op) (P := fun t => nd n C T B A J s = 0 → (∀ u, sub u op → t < u → ¬ nd n C T B A J (s ||| u) = 0) → cx hc_tt M_R_isFull h h (some (.int (nI b.toNat))) 19 [some (.ref m), some (.int (nI s)), some (.int (nI 1)), some (.int (nI op)), some (.int (nI t))] [] h)
    (by intro g1 g2
        have e : b = true := hb.mpr ⟨g1, fun t t1 t2 => g2 t (by rw [← eop]; exact t1) t2⟩
        refine sn_R_isFull_19 _ _ _ ?_
        simp only [vc_R_isFull_19, vc_R_isFull_57, qi_push, qi_pushl, qi_iload, qi_lload, qi_aload, qi_istore, qi_astore, qi_lstore, qi_iinc, qi_iadd, qi_isub, qi_imul, qi_iand, qi_ior, qi_ixor, qi_ishl, qi_ishr, qi_iushr, qi_idiv, qi_irem, qi_lor, qi_lmul, qi_ladd, qi_lsub, qi_land, qi_lshl, qi_lshr, qi_i2l, qi_l2i, qi_i2c, qi_lcmp, qi_dup, qi_dup2, qi_pop, qi_if_eq, qi_icmp_eq, qi_if_ne, qi_icmp_ne, qi_if_lt, qi_icmp_lt, qi_if_ge, qi_icmp_ge, qi_if_gt, qi_icmp_gt, qi_if_le, qi_icmp_le, qi_sw, qi_get, qi_put, qi_iald, qi_lald, qi_aald, qi_iast, qi_zast, qi_cast, qi_last, qi_aast, qi_alen, qi_new, qi_newa, qi_newq, qi_obj, qi_invS, qi_invV, qi_invI, qi_iret, qi_zret, qi_lret, qi_vret, qi_acopy, qi_max, qi_min, at_o, at_i, at_l, at_q, at_a, lget, lset, lclr, lnon, lnth, spl, shrt, rpush, true_and, and_true, List.set, List.length, Nat.reduceAdd, Nat.reduceLT, Nat.reduceLeDiff, Nat.reduceEqDiff, Nat.reduceSub]
        rw [e]
        exact ⟨fun _ => ⟨Or.inr rfl, (by first | trivial | exact ⟨rfl, rfl⟩)⟩, fun q => absurd (by decide) q⟩)
    (fun t ht t0 ih g1 g2 => by
        have tl : t ≤ 2 ^ n - 1 := Nat.le_trans (sub_le ht) opl
        have sl : s ||| t < 2 ^ n := or_lt hs (by omega)
        have pl : (t - 1) &&& op ≤ 2 ^ n - 1 := Nat.le_trans Nat.and_le_right opl
        refine sn_R_isFull_19 _ _ _ ?_
        simp only [vc_R_isFull_19, qi_push, qi_pushl, qi_iload, qi_lload, qi_aload, qi_istore, qi_astore, qi_lstore, qi_iinc, qi_iadd, qi_isub, qi_imul, qi_iand, qi_ior, qi_ixor, qi_ishl, qi_ishr, qi_iushr, qi_idiv, qi_irem, qi_lor, qi_lmul, qi_ladd, qi_lsub, qi_land, qi_lshl, qi_lshr, qi_i2l, qi_l2i, qi_i2c, qi_lcmp, qi_dup, qi_dup2, qi_pop, qi_if_eq, qi_icmp_eq, qi_if_ne, qi_icmp_ne, qi_if_lt, qi_icmp_lt, qi_if_ge, qi_icmp_ge, qi_if_gt, qi_icmp_gt, qi_if_le, qi_icmp_le, qi_sw, qi_get, qi_put, qi_iald, qi_lald, qi_aald, qi_iast, qi_zast, qi_cast, qi_last, qi_aast, qi_alen, qi_new, qi_newa, qi_newq, qi_obj, qi_invS, qi_invV, qi_invI, qi_iret, qi_zret, qi_lret, qi_vret, qi_acopy, qi_max, qi_min, at_o, at_i, at_l, at_q, at_a, lget, lset, lclr, lnon, lnth, spl, shrt, rpush, true_and, and_true, List.set, List.length, Nat.reduceAdd, Nat.reduceLT, Nat.reduceLeDiff, Nat.reduceEqDiff, Nat.reduceSub, o0]
        rw [ni_or]
        refine ⟨fun q => absurd q (nI_nle t0 (by omega)), fun _ => ⟨fun q => absurd q c10, fun _ => ⟨_, _, c_R_isNext hr hg hn hB (d := 0) (s := s ||| t) (Nat.two_pow_pos n) sl, ?_⟩⟩⟩
        simp only [vc_R_isFull_44, vc_R_isFull_45, qi_push, qi_pushl, qi_iload, qi_lload, qi_aload, qi_istore, qi_astore, qi_lstore, qi_iinc, qi_iadd, qi_isub, qi_imul, qi_iand, qi_ior, qi_ixor, qi_ishl, qi_ishr, qi_iushr, qi_idiv, qi_irem, qi_lor, qi_lmul, qi_ladd, qi_lsub, qi_land, qi_lshl, qi_lshr, qi_i2l, qi_l2i, qi_i2c, qi_lcmp, qi_dup, qi_dup2, qi_pop, qi_if_eq, qi_icmp_eq, qi_if_ne, qi_icmp_ne, qi_if_lt, qi_icmp_lt, qi_if_ge, qi_icmp_ge, qi_if_gt, qi_icmp_gt, qi_if_le, qi_icmp_le, qi_sw, qi_get, qi_put, qi_iald, qi_lald, qi_aald, qi_iast, qi_zast, qi_cast, qi_last, qi_aast, qi_alen, qi_new, qi_newa, qi_newq, qi_obj, qi_invS, qi_invV, qi_invI, qi_iret, qi_zret, qi_lret, qi_vret, qi_acopy, qi_max, qi_min, at_o, at_i, at_l, at_q, at_a, lget, lset, lclr, lnon, lnth, spl, shrt, rpush, true_and, and_true, List.set, List.length, Nat.reduceAdd, Nat.reduceLT, Nat.reduceLeDiff, Nat.reduceEqDiff, Nat.reduceSub]
        rw [pk_sub (by omega), ni_and]
        refine ⟨fun q => ?_, fun q => ?_⟩
        · have q := (nx_0 hn sl).mp ((nb_ne0 _).mp q)
          refine loop0 ?_ _ (by omega)
          cases z : b
          · rfl
          · exact absurd q ((hb.mp z).2 t (by rw [eop]; exact ht) t0)
        · have q := (nb_eq0 _).mp q
          refine ih g1 (fun u u1 u2 => ?_)
          have u3 := (subm_seen ht t0 u1).mp u2
          by_cases e : u = t
          · rw [e]
            intro z
            rw [(nx_0 hn sl).mpr z] at q
            cases q
          · exact g2 u u1 (by omega))
  refine MX.of (lv := [some (.ref m), some (.int (nI s)), none, none, none]) 3 rfl (by decide) (Nat.le_of_ble_eq_true rfl) (sn_R_isFull_0 _ _ _ ?_)
  simp only [vc_R_isFull_0, qi_push, qi_pushl, qi_iload, qi_lload, qi_aload, qi_istore, qi_astore, qi_lstore, qi_iinc, qi_iadd, qi_isub, qi_imul, qi_iand, qi_ior, qi_ixor, qi_ishl, qi_ishr, qi_iushr, qi_idiv, qi_irem, qi_lor, qi_lmul, qi_ladd, qi_lsub, qi_land, qi_lshl, qi_lshr, qi_i2l, qi_l2i, qi_i2c, qi_lcmp, qi_dup, qi_dup2, qi_pop, qi_if_eq, qi_icmp_eq, qi_if_ne, qi_icmp_ne, qi_if_lt, qi_icmp_lt, qi_if_ge, qi_icmp_ge, qi_if_gt, qi_icmp_gt, qi_if_le, qi_icmp_le, qi_sw, qi_get, qi_put, qi_iald, qi_lald, qi_aald, qi_iast, qi_zast, qi_cast, qi_last, qi_aast, qi_alen, qi_new, qi_newa, qi_newq, qi_obj, qi_invS, qi_invV, qi_invI, qi_iret, qi_zret, qi_lret, qi_vret, qi_acopy, qi_max, qi_min, at_o, at_i, at_l, at_q, at_a, lget, lset, lclr, lnon, lnth, spl, shrt, rpush, true_and, and_true, List.set, List.length, Nat.reduceAdd, Nat.reduceLT, Nat.reduceLeDiff, Nat.reduceEqDiff, Nat.reduceSub, o0]
  refine ⟨_, _, c_R_isNext hr hg hn hB (d := 0) (s := s) (Nat.two_pow_pos n) hs, ?_⟩
  simp only [qi_push, qi_pushl, qi_iload, qi_lload, qi_aload, qi_istore, qi_astore, qi_lstore, qi_iinc, qi_iadd, qi_isub, qi_imul, qi_iand, qi_ior, qi_ixor, qi_ishl, qi_ishr, qi_iushr, qi_idiv, qi_irem, qi_lor, qi_lmul, qi_ladd, qi_lsub, qi_land, qi_lshl, qi_lshr, qi_i2l, qi_l2i, qi_i2c, qi_lcmp, qi_dup, qi_dup2, qi_pop, qi_if_eq, qi_icmp_eq, qi_if_ne, qi_icmp_ne, qi_if_lt, qi_icmp_lt, qi_if_ge, qi_icmp_ge, qi_if_gt, qi_icmp_gt, qi_if_le, qi_icmp_le, qi_sw, qi_get, qi_put, qi_iald, qi_lald, qi_aald, qi_iast, qi_zast, qi_cast, qi_last, qi_aast, qi_alen, qi_new, qi_newa, qi_newq, qi_obj, qi_invS, qi_invV, qi_invI, qi_iret, qi_zret, qi_lret, qi_vret, qi_acopy, qi_max, qi_min, at_o, at_i, at_l, at_q, at_a, lget, lset, lclr, lnon, lnth, spl, shrt, rpush, true_and, and_true, List.set, List.length, Nat.reduceAdd, Nat.reduceLT, Nat.reduceLeDiff, Nat.reduceEqDiff, Nat.reduceSub, o0]
  refine ⟨_, _, c_R_all hr h0 hn, ?_⟩
  simp only [qi_push, qi_pushl, qi_iload, qi_lload, qi_aload, qi_istore, qi_astore, qi_lstore, qi_iinc, qi_iadd, qi_isub, qi_imul, qi_iand, qi_ior, qi_ixor, qi_ishl, qi_ishr, qi_iushr, qi_idiv, qi_irem, qi_lor, qi_lmul, qi_ladd, qi_lsub, qi_land, qi_lshl, qi_lshr, qi_i2l, qi_l2i, qi_i2c, qi_lcmp, qi_dup, qi_dup2, qi_pop, qi_if_eq, qi_icmp_eq, qi_if_ne, qi_icmp_ne, qi_if_lt, qi_icmp_lt, qi_if_ge, qi_icmp_ge, qi_if_gt, qi_icmp_gt, qi_if_le, qi_icmp_le, qi_sw, qi_get, qi_put, qi_iald, qi_lald, qi_aald, qi_iast, qi_zast, qi_cast, qi_last, qi_aast, qi_alen, qi_new, qi_newa, qi_newq, qi_obj, qi_invS, qi_invV, qi_invI, qi_iret, qi_zret, qi_lret, qi_vret, qi_acopy, qi_max, qi_min, at_o, at_i, at_l, at_q, at_a, lget, lset, lclr, lnon, lnth, spl, shrt, rpush, true_and, and_true, List.set, List.length, Nat.reduceAdd, Nat.reduceLT, Nat.reduceLeDiff, Nat.reduceEqDiff, Nat.reduceSub]
  rw [ni_not, eop]
  cases z : nxb n C T B A J 0 s
  · refine loop0 ?_ op (by omega)
    cases y : b
    · rfl
    · rw [(nx_0 hn hs).mpr (hb.mp y).1] at z; cases z
  · exact loop op (sub_rfl op) ((nx_0 hn hs).mp z) (fun u u1 u2 => by have := sub_le u1; omega)
theorem c_R_loads (hr : isR h m len um sp fs X Q) (hX : X 2 = rowP n C T B A J S) (hw : pw n T B A J S) (hC : C ≤ 120) (i : Int32) (fu : Bool) {P : Nat → Bool} (hP : ∀ s, s < 2 ^ n → (P s = true ↔ if fu then fulP n C T B A J s else nd n C T B A J s = 0)) : ∃ h' X', MA M_R_loads [.ref m, .int i, .int (nI fu.toNat)] h (some (.int (pick P i (2 ^ n - 1) 1 0))) h' ∧ isR h' m len um sp fs X' Q ∧ (∀ j, ¬ j = 5 → ¬ j = 6 → X' j = X j) ∧ frm h h' m 12 := by
  have hn := hw.1
  have l12 := pow_12 hn
  have hpn := Nat.two_pow_pos n
  have v1 : vp_in (nI 1) 62 := vp_in_nI (by omega) (by omega)
  obtain ⟨h1, X1, a1, a2, a3, a4, a5⟩ := c_R_findGood hr hX hw (c := C) (by omega)
  have x0 : X1 2 0 = n := by rw [a3 2 (by omega) (by omega), hX]; rfl
  refine ⟨h1, X1, ?_, a2, a3, a5⟩
  have p0 := a2.1
  have loop : ∀ k s f, s + k = 2 ^ n → f ≤ s → cx hc_tt M_R_loads h h1 (some (.int (pick P i k s f))) 15 [some (.ref m), some (.int i), some (.int (nI fu.toNat)), some (.int (nI f)), some (.int (nI s))] [] h1 := by
    intro k
    induction k with
    | zero =>
      intro s f hs hf
      refine sn_R_loads_15 _ _ _ ?_
      simp only [vc_R_loads_15, vc_R_loads_67, vc_R_loads_75, vc_R_loads_77, qi_push, qi_pushl, qi_iload, qi_lload, qi_aload, qi_istore, qi_astore, qi_lstore, qi_iinc, qi_iadd, qi_isub, qi_imul, qi_iand, qi_ior, qi_ixor, qi_ishl, qi_ishr, qi_iushr, qi_idiv, qi_irem, qi_lor, qi_lmul, qi_ladd, qi_lsub, qi_land, qi_lshl, qi_lshr, qi_i2l, qi_l2i, qi_i2c, qi_lcmp, qi_dup, qi_dup2, qi_pop, qi_if_eq, qi_icmp_eq, qi_if_ne, qi_icmp_ne, qi_if_lt, qi_icmp_lt, qi_if_ge, qi_icmp_ge, qi_if_gt, qi_icmp_gt, qi_if_le, qi_icmp_le, qi_sw, qi_get, qi_put, qi_iald, qi_lald, qi_aald, qi_iast, qi_zast, qi_cast, qi_last, qi_aast, qi_alen, qi_new, qi_newa, qi_newq, qi_obj, qi_invS, qi_invV, qi_invI, qi_iret, qi_zret, qi_lret, qi_vret, qi_acopy, qi_max, qi_min, at_o, at_i, at_l, at_q, at_a, lget, lset, lclr, lnon, lnth, spl, shrt, rpush, true_and, and_true, List.set, List.length, Nat.reduceAdd, Nat.reduceLT, Nat.reduceLeDiff, Nat.reduceEqDiff, Nat.reduceSub, p0]
      refine ⟨_, _, c_R_all a2 x0 hn, ?_⟩
      simp only [qi_push, qi_pushl, qi_iload, qi_lload, qi_aload, qi_istore, qi_astore, qi_lstore, qi_iinc, qi_iadd, qi_isub, qi_imul, qi_iand, qi_ior, qi_ixor, qi_ishl, qi_ishr, qi_iushr, qi_idiv, qi_irem, qi_lor, qi_lmul, qi_ladd, qi_lsub, qi_land, qi_lshl, qi_lshr, qi_i2l, qi_l2i, qi_i2c, qi_lcmp, qi_dup, qi_dup2, qi_pop, qi_if_eq, qi_icmp_eq, qi_if_ne, qi_icmp_ne, qi_if_lt, qi_icmp_lt, qi_if_ge, qi_icmp_ge, qi_if_gt, qi_icmp_gt, qi_if_le, qi_icmp_le, qi_sw, qi_get, qi_put, qi_iald, qi_lald, qi_aald, qi_iast, qi_zast, qi_cast, qi_last, qi_aast, qi_alen, qi_new, qi_newa, qi_newq, qi_obj, qi_invS, qi_invV, qi_invI, qi_iret, qi_zret, qi_lret, qi_vret, qi_acopy, qi_max, qi_min, at_o, at_i, at_l, at_q, at_a, lget, lset, lclr, lnon, lnth, spl, shrt, rpush, true_and, and_true, List.set, List.length, Nat.reduceAdd, Nat.reduceLT, Nat.reduceLeDiff, Nat.reduceEqDiff, Nat.reduceSub, pick]
      refine ⟨fun _ => ⟨fun q => ?_, fun q => ?_⟩, fun q => absurd (nI_lt (by omega) (by omega)) q⟩
      · rw [if_neg (Int32.not_lt.mpr q)]
      · rw [if_pos (Int32.not_le.mp q)]
    | succ k ih =>
      intro s f hs hf
      have e : pick P i (k + 1) s f = if P s then (if nI f = i then nI s else pick P i k (s + 1) (f + 1)) else pick P i k (s + 1) f := rfl
      have k61 : P s = false → vc_R_loads_61 (some (.int (pick P i (k + 1) s f))) h1 (cx hc_tt M_R_loads h h1 (some (.int (pick P i (k + 1) s f)))) [some (.ref m), some (.int i), some (.int (nI fu.toNat)), some (.int (nI f)), some (.int (nI s))] [] h1 := by
        intro q
        rw [e, if_neg (by rw [q]; decide)]
        simp only [vc_R_loads_61, qi_push, qi_pushl, qi_iload, qi_lload, qi_aload, qi_istore, qi_astore, qi_lstore, qi_iinc, qi_iadd, qi_isub, qi_imul, qi_iand, qi_ior, qi_ixor, qi_ishl, qi_ishr, qi_iushr, qi_idiv, qi_irem, qi_lor, qi_lmul, qi_ladd, qi_lsub, qi_land, qi_lshl, qi_lshr, qi_i2l, qi_l2i, qi_i2c, qi_lcmp, qi_dup, qi_dup2, qi_pop, qi_if_eq, qi_icmp_eq, qi_if_ne, qi_icmp_ne, qi_if_lt, qi_icmp_lt, qi_if_ge, qi_icmp_ge, qi_if_gt, qi_icmp_gt, qi_if_le, qi_icmp_le, qi_sw, qi_get, qi_put, qi_iald, qi_lald, qi_aald, qi_iast, qi_zast, qi_cast, qi_last, qi_aast, qi_alen, qi_new, qi_newa, qi_newq, qi_obj, qi_invS, qi_invV, qi_invI, qi_iret, qi_zret, qi_lret, qi_vret, qi_acopy, qi_max, qi_min, at_o, at_i, at_l, at_q, at_a, lget, lset, lclr, lnon, lnth, spl, shrt, rpush, true_and, and_true, List.set, List.length, Nat.reduceAdd, Nat.reduceLT, Nat.reduceLeDiff, Nat.reduceEqDiff, Nat.reduceSub, nI_add]
        exact ih (s + 1) f (by omega) (by omega)
      have k50 : P s = true → vc_R_loads_50 (some (.int (pick P i (k + 1) s f))) h1 (cx hc_tt M_R_loads h h1 (some (.int (pick P i (k + 1) s f)))) [some (.ref m), some (.int i), some (.int (nI fu.toNat)), some (.int (nI f)), some (.int (nI s))] [] h1 := by
        intro q
        rw [e, if_pos q]
        simp only [vc_R_loads_50, vc_R_loads_58, vc_R_loads_61, qi_push, qi_pushl, qi_iload, qi_lload, qi_aload, qi_istore, qi_astore, qi_lstore, qi_iinc, qi_iadd, qi_isub, qi_imul, qi_iand, qi_ior, qi_ixor, qi_ishl, qi_ishr, qi_iushr, qi_idiv, qi_irem, qi_lor, qi_lmul, qi_ladd, qi_lsub, qi_land, qi_lshl, qi_lshr, qi_i2l, qi_l2i, qi_i2c, qi_lcmp, qi_dup, qi_dup2, qi_pop, qi_if_eq, qi_icmp_eq, qi_if_ne, qi_icmp_ne, qi_if_lt, qi_icmp_lt, qi_if_ge, qi_icmp_ge, qi_if_gt, qi_icmp_gt, qi_if_le, qi_icmp_le, qi_sw, qi_get, qi_put, qi_iald, qi_lald, qi_aald, qi_iast, qi_zast, qi_cast, qi_last, qi_aast, qi_alen, qi_new, qi_newa, qi_newq, qi_obj, qi_invS, qi_invV, qi_invI, qi_iret, qi_zret, qi_lret, qi_vret, qi_acopy, qi_max, qi_min, at_o, at_i, at_l, at_q, at_a, lget, lset, lclr, lnon, lnth, spl, shrt, rpush, true_and, and_true, List.set, List.length, Nat.reduceAdd, Nat.reduceLT, Nat.reduceLeDiff, Nat.reduceEqDiff, Nat.reduceSub, nI_add]
        refine ⟨fun z => ?_, fun z => ?_⟩
        · rw [if_neg z]; exact ih (s + 1) (f + 1) (by omega) (by omega)
        · rw [if_pos z]
      have hPs := hP s (by omega)
      refine sn_R_loads_15 _ _ _ ?_
      simp only [vc_R_loads_15, qi_push, qi_pushl, qi_iload, qi_lload, qi_aload, qi_istore, qi_astore, qi_lstore, qi_iinc, qi_iadd, qi_isub, qi_imul, qi_iand, qi_ior, qi_ixor, qi_ishl, qi_ishr, qi_iushr, qi_idiv, qi_irem, qi_lor, qi_lmul, qi_ladd, qi_lsub, qi_land, qi_lshl, qi_lshr, qi_i2l, qi_l2i, qi_i2c, qi_lcmp, qi_dup, qi_dup2, qi_pop, qi_if_eq, qi_icmp_eq, qi_if_ne, qi_icmp_ne, qi_if_lt, qi_icmp_lt, qi_if_ge, qi_icmp_ge, qi_if_gt, qi_icmp_gt, qi_if_le, qi_icmp_le, qi_sw, qi_get, qi_put, qi_iald, qi_lald, qi_aald, qi_iast, qi_zast, qi_cast, qi_last, qi_aast, qi_alen, qi_new, qi_newa, qi_newq, qi_obj, qi_invS, qi_invV, qi_invI, qi_iret, qi_zret, qi_lret, qi_vret, qi_acopy, qi_max, qi_min, at_o, at_i, at_l, at_q, at_a, lget, lset, lclr, lnon, lnth, spl, shrt, rpush, true_and, and_true, List.set, List.length, Nat.reduceAdd, Nat.reduceLT, Nat.reduceLeDiff, Nat.reduceEqDiff, Nat.reduceSub, p0]
      refine ⟨_, _, c_R_all a2 x0 hn, ?_⟩
      simp only [qi_push, qi_pushl, qi_iload, qi_lload, qi_aload, qi_istore, qi_astore, qi_lstore, qi_iinc, qi_iadd, qi_isub, qi_imul, qi_iand, qi_ior, qi_ixor, qi_ishl, qi_ishr, qi_iushr, qi_idiv, qi_irem, qi_lor, qi_lmul, qi_ladd, qi_lsub, qi_land, qi_lshl, qi_lshr, qi_i2l, qi_l2i, qi_i2c, qi_lcmp, qi_dup, qi_dup2, qi_pop, qi_if_eq, qi_icmp_eq, qi_if_ne, qi_icmp_ne, qi_if_lt, qi_icmp_lt, qi_if_ge, qi_icmp_ge, qi_if_gt, qi_icmp_gt, qi_if_le, qi_icmp_le, qi_sw, qi_get, qi_put, qi_iald, qi_lald, qi_aald, qi_iast, qi_zast, qi_cast, qi_last, qi_aast, qi_alen, qi_new, qi_newa, qi_newq, qi_obj, qi_invS, qi_invV, qi_invI, qi_iret, qi_zret, qi_lret, qi_vret, qi_acopy, qi_max, qi_min, at_o, at_i, at_l, at_q, at_a, lget, lset, lclr, lnon, lnth, spl, shrt, rpush, true_and, and_true, List.set, List.length, Nat.reduceAdd, Nat.reduceLT, Nat.reduceLeDiff, Nat.reduceEqDiff, Nat.reduceSub, p0]
      refine ⟨fun q => absurd q (nI_nlt (by omega) (by omega)), fun _ => ?_⟩
      cases fu
      · refine ⟨fun _ => ?_, fun q => absurd rfl q⟩
        simp only [vc_R_loads_40, qi_push, qi_pushl, qi_iload, qi_lload, qi_aload, qi_istore, qi_astore, qi_lstore, qi_iinc, qi_iadd, qi_isub, qi_imul, qi_iand, qi_ior, qi_ixor, qi_ishl, qi_ishr, qi_iushr, qi_idiv, qi_irem, qi_lor, qi_lmul, qi_ladd, qi_lsub, qi_land, qi_lshl, qi_lshr, qi_i2l, qi_l2i, qi_i2c, qi_lcmp, qi_dup, qi_dup2, qi_pop, qi_if_eq, qi_icmp_eq, qi_if_ne, qi_icmp_ne, qi_if_lt, qi_icmp_lt, qi_if_ge, qi_icmp_ge, qi_if_gt, qi_icmp_gt, qi_if_le, qi_icmp_le, qi_sw, qi_get, qi_put, qi_iald, qi_lald, qi_aald, qi_iast, qi_zast, qi_cast, qi_last, qi_aast, qi_alen, qi_new, qi_newa, qi_newq, qi_obj, qi_invS, qi_invV, qi_invI, qi_iret, qi_zret, qi_lret, qi_vret, qi_acopy, qi_max, qi_min, at_o, at_i, at_l, at_q, at_a, lget, lset, lclr, lnon, lnth, spl, shrt, rpush, true_and, and_true, List.set, List.length, Nat.reduceAdd, Nat.reduceLT, Nat.reduceLeDiff, Nat.reduceEqDiff, Nat.reduceSub, p0]
        refine ⟨_, _, c_R_isNext a2 a4 hn hw.2.2.1 (d := 0) (s := s) hpn (by omega), ?_⟩
        simp only [qi_push, qi_pushl, qi_iload, qi_lload, qi_aload, qi_istore, qi_astore, qi_lstore, qi_iinc, qi_iadd, qi_isub, qi_imul, qi_iand, qi_ior, qi_ixor, qi_ishl, qi_ishr, qi_iushr, qi_idiv, qi_irem, qi_lor, qi_lmul, qi_ladd, qi_lsub, qi_land, qi_lshl, qi_lshr, qi_i2l, qi_l2i, qi_i2c, qi_lcmp, qi_dup, qi_dup2, qi_pop, qi_if_eq, qi_icmp_eq, qi_if_ne, qi_icmp_ne, qi_if_lt, qi_icmp_lt, qi_if_ge, qi_icmp_ge, qi_if_gt, qi_icmp_gt, qi_if_le, qi_icmp_le, qi_sw, qi_get, qi_put, qi_iald, qi_lald, qi_aald, qi_iast, qi_zast, qi_cast, qi_last, qi_aast, qi_alen, qi_new, qi_newa, qi_newq, qi_obj, qi_invS, qi_invV, qi_invI, qi_iret, qi_zret, qi_lret, qi_vret, qi_acopy, qi_max, qi_min, at_o, at_i, at_l, at_q, at_a, lget, lset, lclr, lnon, lnth, spl, shrt, rpush, true_and, and_true, List.set, List.length, Nat.reduceAdd, Nat.reduceLT, Nat.reduceLeDiff, Nat.reduceEqDiff, Nat.reduceSub]
        refine ⟨fun q => k61 ?_, fun q => k50 ?_⟩
        · cases z : P s
          · rfl
          · rw [(nx_0 hn (by omega)).mpr (hPs.mp z)] at q
            exact absurd q c10
        · exact hPs.mpr ((nx_0 hn (by omega)).mp ((nb_ne0 _).mp q))
      · refine ⟨fun q => absurd q c10, fun _ => ⟨_, _, c_R_isFull a2 x0 hn hw.2.2.1 a4 (s := s) (by omega) (b := P s) hPs, ?_⟩⟩
        simp only [qi_push, qi_pushl, qi_iload, qi_lload, qi_aload, qi_istore, qi_astore, qi_lstore, qi_iinc, qi_iadd, qi_isub, qi_imul, qi_iand, qi_ior, qi_ixor, qi_ishl, qi_ishr, qi_iushr, qi_idiv, qi_irem, qi_lor, qi_lmul, qi_ladd, qi_lsub, qi_land, qi_lshl, qi_lshr, qi_i2l, qi_l2i, qi_i2c, qi_lcmp, qi_dup, qi_dup2, qi_pop, qi_if_eq, qi_icmp_eq, qi_if_ne, qi_icmp_ne, qi_if_lt, qi_icmp_lt, qi_if_ge, qi_icmp_ge, qi_if_gt, qi_icmp_gt, qi_if_le, qi_icmp_le, qi_sw, qi_get, qi_put, qi_iald, qi_lald, qi_aald, qi_iast, qi_zast, qi_cast, qi_last, qi_aast, qi_alen, qi_new, qi_newa, qi_newq, qi_obj, qi_invS, qi_invV, qi_invI, qi_iret, qi_zret, qi_lret, qi_vret, qi_acopy, qi_max, qi_min, at_o, at_i, at_l, at_q, at_a, lget, lset, lclr, lnon, lnth, spl, shrt, rpush, true_and, and_true, List.set, List.length, Nat.reduceAdd, Nat.reduceLT, Nat.reduceLeDiff, Nat.reduceEqDiff, Nat.reduceSub]
        exact ⟨fun q => k61 ((nb_eq0 _).mp q), fun q => k50 ((nb_ne0 _).mp q)⟩
  have o0 := hr.1
  have o2 := hr.2.2.1
  rw [hX] at o2
  refine MX.of (lv := [some (.ref m), some (.int i), some (.int (nI fu.toNat)), none, none]) 2 rfl (by decide) (Nat.le_of_ble_eq_true rfl) (sn_R_loads_0 _ _ _ ?_)
  simp only [vc_R_loads_0, qi_push, qi_pushl, qi_iload, qi_lload, qi_aload, qi_istore, qi_astore, qi_lstore, qi_iinc, qi_iadd, qi_isub, qi_imul, qi_iand, qi_ior, qi_ixor, qi_ishl, qi_ishr, qi_iushr, qi_idiv, qi_irem, qi_lor, qi_lmul, qi_ladd, qi_lsub, qi_land, qi_lshl, qi_lshr, qi_i2l, qi_l2i, qi_i2c, qi_lcmp, qi_dup, qi_dup2, qi_pop, qi_if_eq, qi_icmp_eq, qi_if_ne, qi_icmp_ne, qi_if_lt, qi_icmp_lt, qi_if_ge, qi_icmp_ge, qi_if_gt, qi_icmp_gt, qi_if_le, qi_icmp_le, qi_sw, qi_get, qi_put, qi_iald, qi_lald, qi_aald, qi_iast, qi_zast, qi_cast, qi_last, qi_aast, qi_alen, qi_new, qi_newa, qi_newq, qi_obj, qi_invS, qi_invV, qi_invI, qi_iret, qi_zret, qi_lret, qi_vret, qi_acopy, qi_max, qi_min, at_o, at_i, at_l, at_q, at_a, lget, lset, lclr, lnon, lnth, spl, shrt, rpush, true_and, and_true, List.set, List.length, Nat.reduceAdd, Nat.reduceLT, Nat.reduceLeDiff, Nat.reduceEqDiff, Nat.reduceSub, o0, o2, v1, r1, rp_1]
  refine ⟨_, _, a1, ?_⟩
  simp only [qi_push, qi_pushl, qi_iload, qi_lload, qi_aload, qi_istore, qi_astore, qi_lstore, qi_iinc, qi_iadd, qi_isub, qi_imul, qi_iand, qi_ior, qi_ixor, qi_ishl, qi_ishr, qi_iushr, qi_idiv, qi_irem, qi_lor, qi_lmul, qi_ladd, qi_lsub, qi_land, qi_lshl, qi_lshr, qi_i2l, qi_l2i, qi_i2c, qi_lcmp, qi_dup, qi_dup2, qi_pop, qi_if_eq, qi_icmp_eq, qi_if_ne, qi_icmp_ne, qi_if_lt, qi_icmp_lt, qi_if_ge, qi_icmp_ge, qi_if_gt, qi_icmp_gt, qi_if_le, qi_icmp_le, qi_sw, qi_get, qi_put, qi_iald, qi_lald, qi_aald, qi_iast, qi_zast, qi_cast, qi_last, qi_aast, qi_alen, qi_new, qi_newa, qi_newq, qi_obj, qi_invS, qi_invV, qi_invI, qi_iret, qi_zret, qi_lret, qi_vret, qi_acopy, qi_max, qi_min, at_o, at_i, at_l, at_q, at_a, lget, lset, lclr, lnon, lnth, spl, shrt, rpush, true_and, and_true, List.set, List.length, Nat.reduceAdd, Nat.reduceLT, Nat.reduceLeDiff, Nat.reduceEqDiff, Nat.reduceSub]
  exact loop (2 ^ n - 1) 1 0 (by omega) (by omega)
theorem c_R_load_bad (h : hc_H) {i : Int32} (hi : i < -1) : MA M_R_load [.ref m, .int i] h (some (.int (-1))) h := by
  refine MX.of (lv := [some (.ref m), some (.int i)]) 0 rfl (by decide) (Nat.le_of_ble_eq_true rfl) (sn_R_load_0 _ _ _ ?_)
  simp only [vc_R_load_0, vc_R_load_15, qi_push, qi_pushl, qi_iload, qi_lload, qi_aload, qi_istore, qi_astore, qi_lstore, qi_iinc, qi_iadd, qi_isub, qi_imul, qi_iand, qi_ior, qi_ixor, qi_ishl, qi_ishr, qi_iushr, qi_idiv, qi_irem, qi_lor, qi_lmul, qi_ladd, qi_lsub, qi_land, qi_lshl, qi_lshr, qi_i2l, qi_l2i, qi_i2c, qi_lcmp, qi_dup, qi_dup2, qi_pop, qi_if_eq, qi_icmp_eq, qi_if_ne, qi_icmp_ne, qi_if_lt, qi_icmp_lt, qi_if_ge, qi_icmp_ge, qi_if_gt, qi_icmp_gt, qi_if_le, qi_icmp_le, qi_sw, qi_get, qi_put, qi_iald, qi_lald, qi_aald, qi_iast, qi_zast, qi_cast, qi_last, qi_aast, qi_alen, qi_new, qi_newa, qi_newq, qi_obj, qi_invS, qi_invV, qi_invI, qi_iret, qi_zret, qi_lret, qi_vret, qi_acopy, qi_max, qi_min, at_o, at_i, at_l, at_q, at_a, lget, lset, lclr, lnon, lnth, spl, shrt, rpush, true_and, and_true, List.set, List.length, Nat.reduceAdd, Nat.reduceLT, Nat.reduceLeDiff, Nat.reduceEqDiff, Nat.reduceSub]
  exact ⟨fun q => absurd hi (Int32.not_lt.mpr q), fun _ => (by first | trivial | exact ⟨rfl, rfl⟩)⟩
theorem c_R_full_bad (h : hc_H) {i : Int32} (hi : i < -1) : MA M_R_full [.ref m, .int i] h (some (.int (-1))) h := by
  refine MX.of (lv := [some (.ref m), some (.int i)]) 0 rfl (by decide) (Nat.le_of_ble_eq_true rfl) (sn_R_full_0 _ _ _ ?_)
  simp only [vc_R_full_0, vc_R_full_15, qi_push, qi_pushl, qi_iload, qi_lload, qi_aload, qi_istore, qi_astore, qi_lstore, qi_iinc, qi_iadd, qi_isub, qi_imul, qi_iand, qi_ior, qi_ixor, qi_ishl, qi_ishr, qi_iushr, qi_idiv, qi_irem, qi_lor, qi_lmul, qi_ladd, qi_lsub, qi_land, qi_lshl, qi_lshr, qi_i2l, qi_l2i, qi_i2c, qi_lcmp, qi_dup, qi_dup2, qi_pop, qi_if_eq, qi_icmp_eq, qi_if_ne, qi_icmp_ne, qi_if_lt, qi_icmp_lt, qi_if_ge, qi_icmp_ge, qi_if_gt, qi_icmp_gt, qi_if_le, qi_icmp_le, qi_sw, qi_get, qi_put, qi_iald, qi_lald, qi_aald, qi_iast, qi_zast, qi_cast, qi_last, qi_aast, qi_alen, qi_new, qi_newa, qi_newq, qi_obj, qi_invS, qi_invV, qi_invI, qi_iret, qi_zret, qi_lret, qi_vret, qi_acopy, qi_max, qi_min, at_o, at_i, at_l, at_q, at_a, lget, lset, lclr, lnon, lnth, spl, shrt, rpush, true_and, and_true, List.set, List.length, Nat.reduceAdd, Nat.reduceLT, Nat.reduceLeDiff, Nat.reduceEqDiff, Nat.reduceSub]
  exact ⟨fun q => absurd hi (Int32.not_lt.mpr q), fun _ => (by first | trivial | exact ⟨rfl, rfl⟩)⟩
theorem R_load (hr : isR h m len um sp fs X Q) {i r : Int32} {h' : hc_H} (hi : ¬ i < -1) (k : MA M_R_loads [.ref m, .int i, .int (nI 0)] h (some (.int r)) h') : MA M_R_load [.ref m, .int i] h (some (.int r)) h' := by
  have o0 := hr.1
  refine MX.of (lv := [some (.ref m), some (.int i)]) 0 rfl (by decide) (Nat.le_of_ble_eq_true rfl) (sn_R_load_0 _ _ _ ?_)
  simp only [vc_R_load_0, vc_R_load_9, vc_R_load_15, qi_push, qi_pushl, qi_iload, qi_lload, qi_aload, qi_istore, qi_astore, qi_lstore, qi_iinc, qi_iadd, qi_isub, qi_imul, qi_iand, qi_ior, qi_ixor, qi_ishl, qi_ishr, qi_iushr, qi_idiv, qi_irem, qi_lor, qi_lmul, qi_ladd, qi_lsub, qi_land, qi_lshl, qi_lshr, qi_i2l, qi_l2i, qi_i2c, qi_lcmp, qi_dup, qi_dup2, qi_pop, qi_if_eq, qi_icmp_eq, qi_if_ne, qi_icmp_ne, qi_if_lt, qi_icmp_lt, qi_if_ge, qi_icmp_ge, qi_if_gt, qi_icmp_gt, qi_if_le, qi_icmp_le, qi_sw, qi_get, qi_put, qi_iald, qi_lald, qi_aald, qi_iast, qi_zast, qi_cast, qi_last, qi_aast, qi_alen, qi_new, qi_newa, qi_newq, qi_obj, qi_invS, qi_invV, qi_invI, qi_iret, qi_zret, qi_lret, qi_vret, qi_acopy, qi_max, qi_min, at_o, at_i, at_l, at_q, at_a, lget, lset, lclr, lnon, lnth, spl, shrt, rpush, true_and, and_true, List.set, List.length, Nat.reduceAdd, Nat.reduceLT, Nat.reduceLeDiff, Nat.reduceEqDiff, Nat.reduceSub, o0]
  exact ⟨fun _ => ⟨_, _, k, (by simp only [qi_push, qi_pushl, qi_iload, qi_lload, qi_aload, qi_istore, qi_astore, qi_lstore, qi_iinc, qi_iadd, qi_isub, qi_imul, qi_iand, qi_ior, qi_ixor, qi_ishl, qi_ishr, qi_iushr, qi_idiv, qi_irem, qi_lor, qi_lmul, qi_ladd, qi_lsub, qi_land, qi_lshl, qi_lshr, qi_i2l, qi_l2i, qi_i2c, qi_lcmp, qi_dup, qi_dup2, qi_pop, qi_if_eq, qi_icmp_eq, qi_if_ne, qi_icmp_ne, qi_if_lt, qi_icmp_lt, qi_if_ge, qi_icmp_ge, qi_if_gt, qi_icmp_gt, qi_if_le, qi_icmp_le, qi_sw, qi_get, qi_put, qi_iald, qi_lald, qi_aald, qi_iast, qi_zast, qi_cast, qi_last, qi_aast, qi_alen, qi_new, qi_newa, qi_newq, qi_obj, qi_invS, qi_invV, qi_invI, qi_iret, qi_zret, qi_lret, qi_vret, qi_acopy, qi_max, qi_min, at_o, at_i, at_l, at_q, at_a, lget, lset, lclr, lnon, lnth, spl, shrt, rpush, true_and, and_true, List.set, List.length, Nat.reduceAdd, Nat.reduceLT, Nat.reduceLeDiff, Nat.reduceEqDiff, Nat.reduceSub])⟩, fun q => absurd (Int32.not_lt.mp hi) q⟩
theorem R_full (hr : isR h m len um sp fs X Q) {i r : Int32} {h' : hc_H} (hi : ¬ i < -1) (k : MA M_R_loads [.ref m, .int i, .int (nI 1)] h (some (.int r)) h') : MA M_R_full [.ref m, .int i] h (some (.int r)) h' := by
  have o0 := hr.1
  refine MX.of (lv := [some (.ref m), some (.int i)]) 0 rfl (by decide) (Nat.le_of_ble_eq_true rfl) (sn_R_full_0 _ _ _ ?_)
  simp only [vc_R_full_0, vc_R_full_9, vc_R_full_15, qi_push, qi_pushl, qi_iload, qi_lload, qi_aload, qi_istore, qi_astore, qi_lstore, qi_iinc, qi_iadd, qi_isub, qi_imul, qi_iand, qi_ior, qi_ixor, qi_ishl, qi_ishr, qi_iushr, qi_idiv, qi_irem, qi_lor, qi_lmul, qi_ladd, qi_lsub, qi_land, qi_lshl, qi_lshr, qi_i2l, qi_l2i, qi_i2c, qi_lcmp, qi_dup, qi_dup2, qi_pop, qi_if_eq, qi_icmp_eq, qi_if_ne, qi_icmp_ne, qi_if_lt, qi_icmp_lt, qi_if_ge, qi_icmp_ge, qi_if_gt, qi_icmp_gt, qi_if_le, qi_icmp_le, qi_sw, qi_get, qi_put, qi_iald, qi_lald, qi_aald, qi_iast, qi_zast, qi_cast, qi_last, qi_aast, qi_alen, qi_new, qi_newa, qi_newq, qi_obj, qi_invS, qi_invV, qi_invI, qi_iret, qi_zret, qi_lret, qi_vret, qi_acopy, qi_max, qi_min, at_o, at_i, at_l, at_q, at_a, lget, lset, lclr, lnon, lnth, spl, shrt, rpush, true_and, and_true, List.set, List.length, Nat.reduceAdd, Nat.reduceLT, Nat.reduceLeDiff, Nat.reduceEqDiff, Nat.reduceSub, o0]
  exact ⟨fun _ => ⟨_, _, k, (by simp only [qi_push, qi_pushl, qi_iload, qi_lload, qi_aload, qi_istore, qi_astore, qi_lstore, qi_iinc, qi_iadd, qi_isub, qi_imul, qi_iand, qi_ior, qi_ixor, qi_ishl, qi_ishr, qi_iushr, qi_idiv, qi_irem, qi_lor, qi_lmul, qi_ladd, qi_lsub, qi_land, qi_lshl, qi_lshr, qi_i2l, qi_l2i, qi_i2c, qi_lcmp, qi_dup, qi_dup2, qi_pop, qi_if_eq, qi_icmp_eq, qi_if_ne, qi_icmp_ne, qi_if_lt, qi_icmp_lt, qi_if_ge, qi_icmp_ge, qi_if_gt, qi_icmp_gt, qi_if_le, qi_icmp_le, qi_sw, qi_get, qi_put, qi_iald, qi_lald, qi_aald, qi_iast, qi_zast, qi_cast, qi_last, qi_aast, qi_alen, qi_new, qi_newa, qi_newq, qi_obj, qi_invS, qi_invV, qi_invI, qi_iret, qi_zret, qi_lret, qi_vret, qi_acopy, qi_max, qi_min, at_o, at_i, at_l, at_q, at_a, lget, lset, lclr, lnon, lnth, spl, shrt, rpush, true_and, and_true, List.set, List.length, Nat.reduceAdd, Nat.reduceLT, Nat.reduceLeDiff, Nat.reduceEqDiff, Nat.reduceSub])⟩, fun q => absurd (Int32.not_lt.mp hi) q⟩
end MO
/-- what is covered: a greater load holds it -/
theorem cv_iff {n C : Nat} {T B A J ne cv : Nat → Nat} (hne : ∀ s, s < 2 ^ n → ne s = nd n C T B A J s) (hcv : ∀ s, 1 ≤ s → s < 2 ^ n → isCv ne n cv s) : ∀ k s, 2 ^ n ≤ s + k → 1 ≤ s → s < 2 ^ n → (cv s ≠ 0 ↔ ∃ t, sub t (sdf (2 ^ n - 1) s) ∧ 0 < t ∧ nd n C T B A J (s ||| t) = 0) := by
  intro k
  induction k with
  | zero => intro s h1 h2 h3; omega
  | succ k ih =>
    intro s h1 h2 h3
    have one : ∀ b, b < n → s.testBit b = false → s < s ||| 2 ^ b ∧ s ||| 2 ^ b < 2 ^ n := by
      intro b hb hs
      refine ⟨or_gt (and_0.mpr fun i i1 i2 => ?_) (Nat.two_pow_pos b), or_lt h3 (Nat.pow_lt_pow_right (by omega) hb)⟩
      rw [Nat.testBit_two_pow, decide_eq_true_eq] at i2
      rw [← i2, hs] at i1; cases i1
    have mem : ∀ b, b < n → s.testBit b = false → sub (2 ^ b) (sdf (2 ^ n - 1) s) := fun b hb hs => sub_iff.mpr fun i hi => by
      rw [Nat.testBit_two_pow, decide_eq_true_eq] at hi
      subst hi
      rw [bit_sdf, all_bit, hs]
      exact ⟨decide_eq_true hb, by decide⟩
    have up : ∀ b, b < n → s.testBit b = false → (ne (s ||| 2 ^ b) = 0 ∨ cv (s ||| 2 ^ b) ≠ 0) → ∃ t, sub t (sdf (2 ^ n - 1) s) ∧ 0 < t ∧ nd n C T B A J (s ||| t) = 0 := by
      intro b hb hs q
      obtain ⟨a1, a2⟩ := one b hb hs
      rcases q with q | q
      · exact ⟨2 ^ b, mem b hb hs, Nat.two_pow_pos b, by rw [← hne _ a2]; exact q⟩
      · obtain ⟨t, t1, t2, t3⟩ := (ih _ (by omega) (by omega) a2).mp q
        refine ⟨2 ^ b ||| t, or_sub (mem b hb hs) (sub_iff.mpr fun i hi => ?_), Nat.lt_of_lt_of_le t2 (sub_le (sub_or_r _ _)), by rw [← Nat.or_assoc]; exact t3⟩
        have := sub_iff.mp t1 i hi
        rw [bit_sdf, bit_or] at this
        rw [bit_sdf]
        exact ⟨this.1, fun z => this.2 (Or.inl z)⟩
    have down : (∃ t, sub t (sdf (2 ^ n - 1) s) ∧ 0 < t ∧ nd n C T B A J (s ||| t) = 0) → ∃ b, b < n ∧ s.testBit b = false ∧ (ne (s ||| 2 ^ b) = 0 ∨ cv (s ||| 2 ^ b) ≠ 0) := by
      rintro ⟨t, t1, t2, t3⟩
      obtain ⟨b, hb⟩ : ∃ b, t.testBit b = true := by
        apply Classical.byContradiction
        intro q
        have : t = 0 := eq0_bit.mpr fun i hi => q ⟨i, hi⟩
        omega
      have h5 := sub_iff.mp t1 b hb
      rw [bit_sdf, all_bit, decide_eq_true_eq] at h5
      have hs : s.testBit b = false := by cases z : s.testBit b; rfl; exact absurd z h5.2
      obtain ⟨a1, a2⟩ := one b h5.1 hs
      refine ⟨b, h5.1, hs, ?_⟩
      by_cases w : t = 2 ^ b
      · left; rw [hne _ a2, ← w]; exact t3
      · right
        have st : s ||| 2 ^ b ||| sdf t (2 ^ b) = s ||| t := by
          rw [Nat.or_assoc, or_sdf (sub_iff.mpr fun i hi => by rw [Nat.testBit_two_pow, decide_eq_true_eq] at hi; rw [← hi]; exact hb)]
        refine (ih _ (by omega) (by omega) a2).mpr ⟨sdf t (2 ^ b), sub_iff.mpr fun i hi => ?_, ?_, by rw [st]; exact t3⟩
        · rw [bit_sdf] at hi
          have := sub_iff.mp t1 i hi.1
          rw [bit_sdf] at this
          rw [bit_sdf, bit_or]
          exact ⟨this.1, fun z => by rcases z with z | z; exact this.2 z; exact hi.2 z⟩
        · apply Nat.pos_of_ne_zero
          intro q
          have := sub_iff.mp (sdf_eq0.mp q)
          apply w
          apply tb_ext
          intro i
          refine ⟨this i, fun hi => ?_⟩
          rw [Nat.testBit_two_pow, decide_eq_true_eq] at hi
          rw [← hi]; exact hb
    have bi : ∀ b, b < n → s.testBit b = false → (cv (s ||| 2 ^ b) = 1 ↔ cv (s ||| 2 ^ b) ≠ 0) := by
      intro b hb hs
      obtain ⟨a1, a2⟩ := one b hb hs
      rcases hcv _ (by omega) a2 with ⟨q, -⟩ | ⟨q, -⟩ <;> omega
    rcases hcv s h2 h3 with ⟨q1, b, b1, b2, b3⟩ | ⟨q1, q2⟩
    · refine ⟨fun _ => up b b1 b2 ?_, fun _ => by omega⟩
      rw [bi b b1 b2] at b3; exact b3
    · refine ⟨fun q => absurd q1 q, fun q => ?_⟩
      obtain ⟨b, b1, b2, b3⟩ := down q
      rw [← bi b b1 b2] at b3
      exact absurd b3 (q2 b b1 b2)
theorem ful_iff {n C s : Nat} {T B A J ne cv : Nat → Nat} (hne : ∀ s, s < 2 ^ n → ne s = nd n C T B A J s) (hcv : ∀ s, 1 ≤ s → s < 2 ^ n → isCv ne n cv s) (h1 : 1 ≤ s) (h2 : s < 2 ^ n) : (decide (nd n C T B A J s = 0) && !decide (cv s ≠ 0)) = true ↔ fulP n C T B A J s := by
  rw [Bool.and_eq_true, decide_eq_true_eq, Bool.not_eq_true', decide_eq_false_iff_not, cv_iff hne hcv (2 ^ n) s (by omega) h1 h2]
  constructor
  · rintro ⟨q1, q2⟩
    exact ⟨q1, fun t t1 t2 t3 => q2 ⟨t, t1, t2, t3⟩⟩
  · rintro ⟨q1, q2⟩
    exact ⟨q1, fun ⟨t, t1, t2, t3⟩ => q2 t t1 t2 t3⟩
