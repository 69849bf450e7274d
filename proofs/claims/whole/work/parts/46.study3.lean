/-! STUDY: by hand, loads, trials. -/
abbrev fxS (S : Nat → Nat) (n : Nat) : Nat := sdf (2 ^ n - 1) (bset (fun x => S x == 0) n)
abbrev fiS (S : Nat → Nat) (n : Nat) : Nat → Nat := fun k => bset (fun x => S x == k) n
theorem okF_S {S : Nat → Nat} {n : Nat} (hS : ∀ x, S x ≤ 12) : okF (2 ^ n - 1) (fxS S n) (fiS S n) := by
  have hb : ∀ k i, (fiS S n k).testBit i = true ↔ i < n ∧ S i = k := fun k i => by
    show (bset _ n).testBit i = true ↔ _
    rw [bset_bit, Bool.and_eq_true, decide_eq_true_eq, beq_iff_eq]
  have hx : ∀ i, (fxS S n).testBit i = true ↔ i < n ∧ ¬ S i = 0 := fun i => by
    rw [bit_sdf, all_bit, decide_eq_true_eq, bset_bit, Bool.and_eq_true, decide_eq_true_eq, beq_iff_eq]
    exact ⟨fun z => ⟨z.1, fun w => z.2 ⟨z.1, w⟩⟩, fun z => ⟨z.1, fun w => z.2 w.2⟩⟩
  refine ⟨sdf_sub _ _, ?_, fun i => ?_, fun j k i _ _ _ _ h1 h2 => ?_⟩
  · rw [eq0_bit]
    intro i hi
    have := ((hb 13 i).mp hi).2
    have := hS i
    omega
  · rw [hx]
    constructor
    · rintro ⟨z1, z2⟩; exact ⟨S i, by omega, hS i, (hb _ i).mpr ⟨z1, rfl⟩⟩
    · rintro ⟨k, k1, k2, k3⟩
      have := (hb k i).mp k3
      exact ⟨this.1, by omega⟩
  · rw [← ((hb j i).mp h1).2, ← ((hb k i).mp h2).2]
theorem isMin.c {P Q : Nat → Prop} {m : Nat} {r : Int32} (h : isMin P m r) (hc : ∀ k, k ≤ m → (P k ↔ Q k)) : isMin Q m r := by
  rcases h with ⟨k, k1, k2, k3, k4⟩ | ⟨k1, k2⟩
  · exact Or.inl ⟨k, k1, (hc k k1).mp k2, fun j hj q => k3 j hj ((hc j (by omega)).mpr q), k4⟩
  · exact Or.inr ⟨fun k hk q => k1 k hk ((hc k hk).mpr q), k2⟩
/-- a line of k stations or fewer -/
abbrev lin (n C : Nat) (T B A J : Nat → Nat) (k : Nat) : Prop := rch (2 ^ n - 1) 0 (fun _ => 0) (nd n C T B A J) k (2 ^ n - 1)
section ST
variable {h : hc_H} {y p q z0 sl ln N me so bo lc bp bc n C : Nat} {st : Int32} {H K T B A J S : Nat → Nat}
theorem mx_12 {f : Nat → Nat} (h : ∀ x, f x ≤ 12) (n : Nat) : mx f n ≤ 12 := mx_le h n
theorem c_Y_fewestByHand (hl : layY p q y z0) (hS : SI h y p q z0 sl n C T B A J so bo st lc bp bc H K) (hr : isPl h p n (nI C) T B A J S) (hw : pw n T B A J S) (hC : C < 1000) (hC0 : 0 < C) (hn : 1 ≤ n) :
    ∃ h' r, MA M_Y_fewestByHand [.ref y] h (some (.int r)) h' ∧ SI h' y p q z0 sl n C T B A J so bo st lc bp bc H K ∧ frW h h' y z0 ∧ isMin (fun k => rch (2 ^ n - 1) (fxS S n) (fiS S n) (nd n C T B A J) k (2 ^ n - 1)) 12 r := by
  obtain ⟨l1, l2, l3⟩ := id hl
  obtain ⟨ln, N, me, hy, hm1, hm⟩ := id hS
  obtain ⟨h1, ln', N', fx, us, F, G, d1, d2, d3, d4, d5, d6, d7⟩ := c_Y_measureNow hl hy hm1 hm hr hw hC
  obtain ⟨b1, b2, b3⟩ := d2.le hl
  have hn12 := hw.1
  have p1 := hr.keepW d7 (by omega) (by omega)
  obtain ⟨h2, f, e1, e2, e3, e4, e5⟩ := c_L_fix d3 p1 hw (by omega)
  have y2 := d2.keep e3 (by omega)
  have p2 := p1.keep e3 (by omega)
  have hb : ∀ k, f k < 4096 := fun k => by
    by_cases w : 1 ≤ k ∧ k ≤ 12
    · rw [e4 k w.1 w.2]
      refine tb_lt (k := 12) fun i hi => ?_
      rw [bset_bit, decide_eq_false (by omega)]; rfl
    · rw [e5 k w]; exact d4.2.2.2.1 k
  have g2 : lnG (va_up F 2 f) G := by
    obtain ⟨g1, g2, g3, g4, g5⟩ := d4
    exact ⟨g1, up_le g2 (fun k => by have := hb k; omega), g3, hb, by show f 13 = 0; rw [e5 13 (by omega)]; exact g5⟩
  have M2 : lnM n C T B A J us (va_up F 2 f) G := d5
  have ok0 := okF_S (n := n) hw.2.2.2.2.2
  have ok2 : okF (2 ^ n - 1) (fxS S n) f := by
    obtain ⟨q1, q2, q3, q4⟩ := ok0
    have ef : ∀ k, 1 ≤ k → k ≤ 12 → f k = fiS S n k := e4
    refine ⟨q1, g2.2.2.2.2, fun i => ?_, fun j k i j1 j2 k1 k2 z1 z2 => ?_⟩
    · rw [q3 i]
      constructor
      · rintro ⟨k, k1, k2, k3⟩; exact ⟨k, k1, k2, by rw [ef k k1 k2]; exact k3⟩
      · rintro ⟨k, k1, k2, k3⟩; exact ⟨k, k1, k2, by rw [← ef k k1 k2]; exact k3⟩
    · rw [ef j j1 j2] at z1
      rw [ef k k1 k2] at z2
      exact q4 j k i j1 j2 k1 k2 z1 z2
  have hlo : max (mx S n) (max (fl0 n C T) (max (fl1 n C T) (fl2 n C T B))) ≤ 1000 := by
    have := mx_12 hw.2.2.2.2.2 n
    have := floor_le hw hC0
    omega
  obtain ⟨h3, l, r, f1, f2, f3, f4, f5, -⟩ := m_search e2 M2 g2 b3 d6 ⟨hn, hn12⟩ (by omega) ok2 hlo (show 12 ≤ 12 by omega)
  have y3 := y2.keep (f3.mono (b := ln') (l := 13) (by omega) (by omega)) (by omega)
  have lG : lnG (va_up (va_up F 2 f) 8 l) G := up_G g2 (by omega) (fun s => Nat.le_trans (f5 s) (by omega))
  refine ⟨h3, r, MX.of (lv := [some (.ref y)]) 0 rfl (by decide) (Nat.le_of_ble_eq_true rfl) (sn_Y_fewestByHand_0 _ _ _ ?_), ⟨ln', N', 1, y3, Nat.le_refl _, _, _, _, _, _, _, f2, lG, fun _ => ⟨rfl, rfl, d6, d5⟩⟩, (d7.trans (e3.toW (by omega))).trans (f3.toW (by omega)), f4.c (fun k hk => rch_c d5.ne e4 k hk _)⟩
  have o3 := hy.1
  have o4 := d2.1
  have o5 := y2.1
  have o6 := p2.1
  have q1 := d3.1
  have q2 := e2.1
  simp only [vc_Y_fewestByHand_0, qi_push, qi_pushl, qi_iload, qi_lload, qi_aload, qi_istore, qi_astore, qi_lstore, qi_iinc, qi_iadd, qi_isub, qi_imul, qi_iand, qi_ior, qi_ixor, qi_ishl, qi_ishr, qi_iushr, qi_idiv, qi_irem, qi_lor, qi_lmul, qi_ladd, qi_lsub, qi_land, qi_lshl, qi_lshr, qi_i2l, qi_l2i, qi_i2c, qi_lcmp, qi_dup, qi_dup2, qi_pop, qi_if_eq, qi_icmp_eq, qi_if_ne, qi_icmp_ne, qi_if_lt, qi_icmp_lt, qi_if_ge, qi_icmp_ge, qi_if_gt, qi_icmp_gt, qi_if_le, qi_icmp_le, qi_sw, qi_get, qi_put, qi_iald, qi_lald, qi_aald, qi_iast, qi_zast, qi_cast, qi_last, qi_aast, qi_alen, qi_new, qi_newa, qi_newq, qi_obj, qi_invS, qi_invV, qi_invI, qi_iret, qi_zret, qi_lret, qi_vret, qi_acopy, qi_max, qi_min, at_o, at_i, at_l, at_q, at_a, lget, lset, lclr, lnon, lnth, spl, shrt, rpush, true_and, and_true, List.set, List.length, Nat.reduceAdd, Nat.reduceLT, Nat.reduceLeDiff, Nat.reduceEqDiff, Nat.reduceSub, o3]
  refine ⟨_, _, d1, ?_⟩
  simp only [qi_push, qi_pushl, qi_iload, qi_lload, qi_aload, qi_istore, qi_astore, qi_lstore, qi_iinc, qi_iadd, qi_isub, qi_imul, qi_iand, qi_ior, qi_ixor, qi_ishl, qi_ishr, qi_iushr, qi_idiv, qi_irem, qi_lor, qi_lmul, qi_ladd, qi_lsub, qi_land, qi_lshl, qi_lshr, qi_i2l, qi_l2i, qi_i2c, qi_lcmp, qi_dup, qi_dup2, qi_pop, qi_if_eq, qi_icmp_eq, qi_if_ne, qi_icmp_ne, qi_if_lt, qi_icmp_lt, qi_if_ge, qi_icmp_ge, qi_if_gt, qi_icmp_gt, qi_if_le, qi_icmp_le, qi_sw, qi_get, qi_put, qi_iald, qi_lald, qi_aald, qi_iast, qi_zast, qi_cast, qi_last, qi_aast, qi_alen, qi_new, qi_newa, qi_newq, qi_obj, qi_invS, qi_invV, qi_invI, qi_iret, qi_zret, qi_lret, qi_vret, qi_acopy, qi_max, qi_min, at_o, at_i, at_l, at_q, at_a, lget, lset, lclr, lnon, lnth, spl, shrt, rpush, true_and, and_true, List.set, List.length, Nat.reduceAdd, Nat.reduceLT, Nat.reduceLeDiff, Nat.reduceEqDiff, Nat.reduceSub, o4, q1]
  refine ⟨_, _, e1, ?_⟩
  simp only [qi_push, qi_pushl, qi_iload, qi_lload, qi_aload, qi_istore, qi_astore, qi_lstore, qi_iinc, qi_iadd, qi_isub, qi_imul, qi_iand, qi_ior, qi_ixor, qi_ishl, qi_ishr, qi_iushr, qi_idiv, qi_irem, qi_lor, qi_lmul, qi_ladd, qi_lsub, qi_land, qi_lshl, qi_lshr, qi_i2l, qi_l2i, qi_i2c, qi_lcmp, qi_dup, qi_dup2, qi_pop, qi_if_eq, qi_icmp_eq, qi_if_ne, qi_icmp_ne, qi_if_lt, qi_icmp_lt, qi_if_ge, qi_icmp_ge, qi_if_gt, qi_icmp_gt, qi_if_le, qi_icmp_le, qi_sw, qi_get, qi_put, qi_iald, qi_lald, qi_aald, qi_iast, qi_zast, qi_cast, qi_last, qi_aast, qi_alen, qi_new, qi_newa, qi_newq, qi_obj, qi_invS, qi_invV, qi_invI, qi_iret, qi_zret, qi_lret, qi_vret, qi_acopy, qi_max, qi_min, at_o, at_i, at_l, at_q, at_a, lget, lset, lclr, lnon, lnth, spl, shrt, rpush, true_and, and_true, List.set, List.length, Nat.reduceAdd, Nat.reduceLT, Nat.reduceLeDiff, Nat.reduceEqDiff, Nat.reduceSub, o5, o6]
  refine ⟨_, _, c_P_lastSpot p2 hw, ?_⟩
  simp only [qi_push, qi_pushl, qi_iload, qi_lload, qi_aload, qi_istore, qi_astore, qi_lstore, qi_iinc, qi_iadd, qi_isub, qi_imul, qi_iand, qi_ior, qi_ixor, qi_ishl, qi_ishr, qi_iushr, qi_idiv, qi_irem, qi_lor, qi_lmul, qi_ladd, qi_lsub, qi_land, qi_lshl, qi_lshr, qi_i2l, qi_l2i, qi_i2c, qi_lcmp, qi_dup, qi_dup2, qi_pop, qi_if_eq, qi_icmp_eq, qi_if_ne, qi_icmp_ne, qi_if_lt, qi_icmp_lt, qi_if_ge, qi_icmp_ge, qi_if_gt, qi_icmp_gt, qi_if_le, qi_icmp_le, qi_sw, qi_get, qi_put, qi_iald, qi_lald, qi_aald, qi_iast, qi_zast, qi_cast, qi_last, qi_aast, qi_alen, qi_new, qi_newa, qi_newq, qi_obj, qi_invS, qi_invV, qi_invI, qi_iret, qi_zret, qi_lret, qi_vret, qi_acopy, qi_max, qi_min, at_o, at_i, at_l, at_q, at_a, lget, lset, lclr, lnon, lnth, spl, shrt, rpush, true_and, and_true, List.set, List.length, Nat.reduceAdd, Nat.reduceLT, Nat.reduceLeDiff, Nat.reduceEqDiff, Nat.reduceSub, o5, o6]
  refine ⟨_, _, c_P_highestFloor p2 hw hC hC0, ?_⟩
  have := floor_le hw hC0
  have := mx_12 hw.2.2.2.2.2 n
  simp only [qi_push, qi_pushl, qi_iload, qi_lload, qi_aload, qi_istore, qi_astore, qi_lstore, qi_iinc, qi_iadd, qi_isub, qi_imul, qi_iand, qi_ior, qi_ixor, qi_ishl, qi_ishr, qi_iushr, qi_idiv, qi_irem, qi_lor, qi_lmul, qi_ladd, qi_lsub, qi_land, qi_lshl, qi_lshr, qi_i2l, qi_l2i, qi_i2c, qi_lcmp, qi_dup, qi_dup2, qi_pop, qi_if_eq, qi_icmp_eq, qi_if_ne, qi_icmp_ne, qi_if_lt, qi_icmp_lt, qi_if_ge, qi_icmp_ge, qi_if_gt, qi_icmp_gt, qi_if_le, qi_icmp_le, qi_sw, qi_get, qi_put, qi_iald, qi_lald, qi_aald, qi_iast, qi_zast, qi_cast, qi_last, qi_aast, qi_alen, qi_new, qi_newa, qi_newq, qi_obj, qi_invS, qi_invV, qi_invI, qi_iret, qi_zret, qi_lret, qi_vret, qi_acopy, qi_max, qi_min, at_o, at_i, at_l, at_q, at_a, lget, lset, lclr, lnon, lnth, spl, shrt, rpush, true_and, and_true, List.set, List.length, Nat.reduceAdd, Nat.reduceLT, Nat.reduceLeDiff, Nat.reduceEqDiff, Nat.reduceSub, q2]
  rw [ni_max (by omega) (by omega)]
  refine ⟨_, _, f1, ?_⟩
  simp only [qi_push, qi_pushl, qi_iload, qi_lload, qi_aload, qi_istore, qi_astore, qi_lstore, qi_iinc, qi_iadd, qi_isub, qi_imul, qi_iand, qi_ior, qi_ixor, qi_ishl, qi_ishr, qi_iushr, qi_idiv, qi_irem, qi_lor, qi_lmul, qi_ladd, qi_lsub, qi_land, qi_lshl, qi_lshr, qi_i2l, qi_l2i, qi_i2c, qi_lcmp, qi_dup, qi_dup2, qi_pop, qi_if_eq, qi_icmp_eq, qi_if_ne, qi_icmp_ne, qi_if_lt, qi_icmp_lt, qi_if_ge, qi_icmp_ge, qi_if_gt, qi_icmp_gt, qi_if_le, qi_icmp_le, qi_sw, qi_get, qi_put, qi_iald, qi_lald, qi_aald, qi_iast, qi_zast, qi_cast, qi_last, qi_aast, qi_alen, qi_new, qi_newa, qi_newq, qi_obj, qi_invS, qi_invV, qi_invI, qi_iret, qi_zret, qi_lret, qi_vret, qi_acopy, qi_max, qi_min, at_o, at_i, at_l, at_q, at_a, lget, lset, lclr, lnon, lnth, spl, shrt, rpush, true_and, and_true, List.set, List.length, Nat.reduceAdd, Nat.reduceLT, Nat.reduceLeDiff, Nat.reduceEqDiff, Nat.reduceSub]
theorem c_Y_listedLoad0 (hl : layY p q y z0) (hS : SI h y p q z0 sl n C T B A J so bo st lc bp bc H K) (hr : isPl h p n (nI C) T B A J S) (hw : pw n T B A J S) (hC : C < 1000) (i : Int32) :
    ∃ h', MA M_Y_listedLoad [.ref y, .int i, .int (nI 0)] h (some (.int (pick (fun s => decide (nd n C T B A J s = 0)) i (2 ^ n - 1) 1 0))) h' ∧ SI h' y p q z0 sl n C T B A J so bo st lc bp bc H K ∧ frW h h' y z0 := by
  obtain ⟨ln, N, me, hy, hm1, hm⟩ := id hS
  obtain ⟨h1, ln', N', fx, us, F, G, d1, d2, d3, d4, d5, d6, d7⟩ := c_Y_measureNow hl hy hm1 hm hr hw hC
  obtain ⟨b1, b2, b3⟩ := d2.le hl
  have hpn := Nat.two_pow_pos n
  have c1 := c_L_listedLoad0 d3 b3 d6 d4.2.1 i
  rw [pick_c (Q := fun s => decide (nd n C T B A J s = 0)) _ _ _ (fun t t1 t2 => by rw [d5.2.1 t (by omega)])] at c1
  refine ⟨h1, MX.of (lv := [some (.ref y), some (.int i), some (.int (nI 0))]) 0 rfl (by decide) (Nat.le_of_ble_eq_true rfl) (sn_Y_listedLoad_0 _ _ _ ?_), ⟨ln', N', 1, d2, Nat.le_refl _, _, _, _, _, _, _, d3, d4, fun _ => ⟨rfl, rfl, d6, d5⟩⟩, d7⟩
  have o3 := hy.1
  have o4 := d2.1
  have q1 := d3.1
  simp only [vc_Y_listedLoad_0, qi_push, qi_pushl, qi_iload, qi_lload, qi_aload, qi_istore, qi_astore, qi_lstore, qi_iinc, qi_iadd, qi_isub, qi_imul, qi_iand, qi_ior, qi_ixor, qi_ishl, qi_ishr, qi_iushr, qi_idiv, qi_irem, qi_lor, qi_lmul, qi_ladd, qi_lsub, qi_land, qi_lshl, qi_lshr, qi_i2l, qi_l2i, qi_i2c, qi_lcmp, qi_dup, qi_dup2, qi_pop, qi_if_eq, qi_icmp_eq, qi_if_ne, qi_icmp_ne, qi_if_lt, qi_icmp_lt, qi_if_ge, qi_icmp_ge, qi_if_gt, qi_icmp_gt, qi_if_le, qi_icmp_le, qi_sw, qi_get, qi_put, qi_iald, qi_lald, qi_aald, qi_iast, qi_zast, qi_cast, qi_last, qi_aast, qi_alen, qi_new, qi_newa, qi_newq, qi_obj, qi_invS, qi_invV, qi_invI, qi_iret, qi_zret, qi_lret, qi_vret, qi_acopy, qi_max, qi_min, at_o, at_i, at_l, at_q, at_a, lget, lset, lclr, lnon, lnth, spl, shrt, rpush, true_and, and_true, List.set, List.length, Nat.reduceAdd, Nat.reduceLT, Nat.reduceLeDiff, Nat.reduceEqDiff, Nat.reduceSub, o3]
  refine ⟨_, _, d1, ?_⟩
  simp only [qi_push, qi_pushl, qi_iload, qi_lload, qi_aload, qi_istore, qi_astore, qi_lstore, qi_iinc, qi_iadd, qi_isub, qi_imul, qi_iand, qi_ior, qi_ixor, qi_ishl, qi_ishr, qi_iushr, qi_idiv, qi_irem, qi_lor, qi_lmul, qi_ladd, qi_lsub, qi_land, qi_lshl, qi_lshr, qi_i2l, qi_l2i, qi_i2c, qi_lcmp, qi_dup, qi_dup2, qi_pop, qi_if_eq, qi_icmp_eq, qi_if_ne, qi_icmp_ne, qi_if_lt, qi_icmp_lt, qi_if_ge, qi_icmp_ge, qi_if_gt, qi_icmp_gt, qi_if_le, qi_icmp_le, qi_sw, qi_get, qi_put, qi_iald, qi_lald, qi_aald, qi_iast, qi_zast, qi_cast, qi_last, qi_aast, qi_alen, qi_new, qi_newa, qi_newq, qi_obj, qi_invS, qi_invV, qi_invI, qi_iret, qi_zret, qi_lret, qi_vret, qi_acopy, qi_max, qi_min, at_o, at_i, at_l, at_q, at_a, lget, lset, lclr, lnon, lnth, spl, shrt, rpush, true_and, and_true, List.set, List.length, Nat.reduceAdd, Nat.reduceLT, Nat.reduceLeDiff, Nat.reduceEqDiff, Nat.reduceSub, o4, q1]
  refine ⟨_, _, c1, ?_⟩
  simp only [qi_push, qi_pushl, qi_iload, qi_lload, qi_aload, qi_istore, qi_astore, qi_lstore, qi_iinc, qi_iadd, qi_isub, qi_imul, qi_iand, qi_ior, qi_ixor, qi_ishl, qi_ishr, qi_iushr, qi_idiv, qi_irem, qi_lor, qi_lmul, qi_ladd, qi_lsub, qi_land, qi_lshl, qi_lshr, qi_i2l, qi_l2i, qi_i2c, qi_lcmp, qi_dup, qi_dup2, qi_pop, qi_if_eq, qi_icmp_eq, qi_if_ne, qi_icmp_ne, qi_if_lt, qi_icmp_lt, qi_if_ge, qi_icmp_ge, qi_if_gt, qi_icmp_gt, qi_if_le, qi_icmp_le, qi_sw, qi_get, qi_put, qi_iald, qi_lald, qi_aald, qi_iast, qi_zast, qi_cast, qi_last, qi_aast, qi_alen, qi_new, qi_newa, qi_newq, qi_obj, qi_invS, qi_invV, qi_invI, qi_iret, qi_zret, qi_lret, qi_vret, qi_acopy, qi_max, qi_min, at_o, at_i, at_l, at_q, at_a, lget, lset, lclr, lnon, lnth, spl, shrt, rpush, true_and, and_true, List.set, List.length, Nat.reduceAdd, Nat.reduceLT, Nat.reduceLeDiff, Nat.reduceEqDiff, Nat.reduceSub]
theorem c_Y_listedLoad1 (hl : layY p q y z0) (hS : SI h y p q z0 sl n C T B A J so bo st lc bp bc H K) (hr : isPl h p n (nI C) T B A J S) (hw : pw n T B A J S) (hC : C < 1000) (i : Int32) :
    ∃ h' ne cv, MA M_Y_listedLoad [.ref y, .int i, .int (nI 1)] h (some (.int (pick (fun s => decide (nd n C T B A J s = 0) && !decide (cv s ≠ 0)) i (2 ^ n - 1) 1 0))) h' ∧ SI h' y p q z0 sl n C T B A J so bo st lc bp bc H K ∧ frW h h' y z0 ∧ (∀ s, s < 2 ^ n → ne s = nd n C T B A J s) ∧ ∀ s, 1 ≤ s → s < 2 ^ n → isCv ne n cv s := by
  obtain ⟨ln, N, me, hy, hm1, hm⟩ := id hS
  obtain ⟨h1, ln', N', fx, us, F, G, d1, d2, d3, d4, d5, d6, d7⟩ := c_Y_measureNow hl hy hm1 hm hr hw hC
  obtain ⟨b1, b2, b3⟩ := d2.le hl
  have hpn := Nat.two_pow_pos n
  obtain ⟨h2, cv, c1, c2, c3, c4, c5⟩ := c_L_listedLoad1 d3 b3 hw.1 d6 d4.2.1 i
  rw [pick_c (Q := fun s => decide (nd n C T B A J s = 0) && !decide (cv s ≠ 0)) _ _ _ (fun t t1 t2 => by rw [d5.2.1 t (by omega)])] at c1
  refine ⟨h2, F 7, cv, MX.of (lv := [some (.ref y), some (.int i), some (.int (nI 1))]) 0 rfl (by decide) (Nat.le_of_ble_eq_true rfl) (sn_Y_listedLoad_0 _ _ _ ?_), ⟨ln', N', 1, d2.keep c3 (by omega), Nat.le_refl _, _, _, _, _, _, _, c2, up_G d4 (by omega) c5, fun _ => ⟨rfl, rfl, d6, d5⟩⟩, d7.trans (c3.toW (by have := hl.2.2; omega)), d5.2.1, c4⟩
  have o3 := hy.1
  have o4 := d2.1
  have q1 := d3.1
  simp only [vc_Y_listedLoad_0, qi_push, qi_pushl, qi_iload, qi_lload, qi_aload, qi_istore, qi_astore, qi_lstore, qi_iinc, qi_iadd, qi_isub, qi_imul, qi_iand, qi_ior, qi_ixor, qi_ishl, qi_ishr, qi_iushr, qi_idiv, qi_irem, qi_lor, qi_lmul, qi_ladd, qi_lsub, qi_land, qi_lshl, qi_lshr, qi_i2l, qi_l2i, qi_i2c, qi_lcmp, qi_dup, qi_dup2, qi_pop, qi_if_eq, qi_icmp_eq, qi_if_ne, qi_icmp_ne, qi_if_lt, qi_icmp_lt, qi_if_ge, qi_icmp_ge, qi_if_gt, qi_icmp_gt, qi_if_le, qi_icmp_le, qi_sw, qi_get, qi_put, qi_iald, qi_lald, qi_aald, qi_iast, qi_zast, qi_cast, qi_last, qi_aast, qi_alen, qi_new, qi_newa, qi_newq, qi_obj, qi_invS, qi_invV, qi_invI, qi_iret, qi_zret, qi_lret, qi_vret, qi_acopy, qi_max, qi_min, at_o, at_i, at_l, at_q, at_a, lget, lset, lclr, lnon, lnth, spl, shrt, rpush, true_and, and_true, List.set, List.length, Nat.reduceAdd, Nat.reduceLT, Nat.reduceLeDiff, Nat.reduceEqDiff, Nat.reduceSub, o3]
  refine ⟨_, _, d1, ?_⟩
  simp only [qi_push, qi_pushl, qi_iload, qi_lload, qi_aload, qi_istore, qi_astore, qi_lstore, qi_iinc, qi_iadd, qi_isub, qi_imul, qi_iand, qi_ior, qi_ixor, qi_ishl, qi_ishr, qi_iushr, qi_idiv, qi_irem, qi_lor, qi_lmul, qi_ladd, qi_lsub, qi_land, qi_lshl, qi_lshr, qi_i2l, qi_l2i, qi_i2c, qi_lcmp, qi_dup, qi_dup2, qi_pop, qi_if_eq, qi_icmp_eq, qi_if_ne, qi_icmp_ne, qi_if_lt, qi_icmp_lt, qi_if_ge, qi_icmp_ge, qi_if_gt, qi_icmp_gt, qi_if_le, qi_icmp_le, qi_sw, qi_get, qi_put, qi_iald, qi_lald, qi_aald, qi_iast, qi_zast, qi_cast, qi_last, qi_aast, qi_alen, qi_new, qi_newa, qi_newq, qi_obj, qi_invS, qi_invV, qi_invI, qi_iret, qi_zret, qi_lret, qi_vret, qi_acopy, qi_max, qi_min, at_o, at_i, at_l, at_q, at_a, lget, lset, lclr, lnon, lnth, spl, shrt, rpush, true_and, and_true, List.set, List.length, Nat.reduceAdd, Nat.reduceLT, Nat.reduceLeDiff, Nat.reduceEqDiff, Nat.reduceSub, o4, q1]
  refine ⟨_, _, c1, ?_⟩
  simp only [qi_push, qi_pushl, qi_iload, qi_lload, qi_aload, qi_istore, qi_astore, qi_lstore, qi_iinc, qi_iadd, qi_isub, qi_imul, qi_iand, qi_ior, qi_ixor, qi_ishl, qi_ishr, qi_iushr, qi_idiv, qi_irem, qi_lor, qi_lmul, qi_ladd, qi_lsub, qi_land, qi_lshl, qi_lshr, qi_i2l, qi_l2i, qi_i2c, qi_lcmp, qi_dup, qi_dup2, qi_pop, qi_if_eq, qi_icmp_eq, qi_if_ne, qi_icmp_ne, qi_if_lt, qi_icmp_lt, qi_if_ge, qi_icmp_ge, qi_if_gt, qi_icmp_gt, qi_if_le, qi_icmp_le, qi_sw, qi_get, qi_put, qi_iald, qi_lald, qi_aald, qi_iast, qi_zast, qi_cast, qi_last, qi_aast, qi_alen, qi_new, qi_newa, qi_newq, qi_obj, qi_invS, qi_invV, qi_invI, qi_iret, qi_zret, qi_lret, qi_vret, qi_acopy, qi_max, qi_min, at_o, at_i, at_l, at_q, at_a, lget, lset, lclr, lnon, lnth, spl, shrt, rpush, true_and, and_true, List.set, List.length, Nat.reduceAdd, Nat.reduceLT, Nat.reduceLeDiff, Nat.reduceEqDiff, Nat.reduceSub]
/-- of the trial: whatever the plan of now is -/
theorem c_Y_fewestOfTrial {n0 C0 : Nat} {T0 B0 A0 J0 : Nat → Nat} (hl : layY p q y z0) (hS : SI h y p q z0 sl n0 C0 T0 B0 A0 J0 so bo st lc bp bc H K) (hr : isPl h q n (nI C) T B A J S) (hw : pw n T B A J S) (hC : C < 1000) (hC0 : 0 < C) (hn : 1 ≤ n) :
    ∃ h' r, MA M_Y_fewestOfTrial [.ref y] h (some (.int r)) h' ∧ SI h' y p q z0 sl n0 C0 T0 B0 A0 J0 so bo st lc bp bc H K ∧ frW h h' y z0 ∧ isMin (lin n C T B A J) n r := by
  obtain ⟨l1, l2, l3⟩ := id hl
  obtain ⟨ln, N, me, hy, hm1, hm⟩ := id hS
  obtain ⟨h1, ln', N', fx, us, F, G, d1, d2, d3, d4, d5, d6, d7⟩ := c_Y_measure hl hy hm.S hr hw hC (by omega)
  obtain ⟨b1, b2, b3⟩ := d2.le hl
  have hn12 := hw.1
  obtain ⟨h2, e1, e2, e3⟩ := c_L_freeAll d3
  have y2 := d2.keep e3 (by omega)
  have g2 : lnG (va_up F 2 (fun _ => 0)) G := by
    obtain ⟨g1, g2, g3, g4, g5⟩ := d4
    exact ⟨g1, up_le g2 (fun _ => Nat.zero_le _), g3, fun _ => by show 0 < 4096; omega, rfl⟩
  have M2 : lnM n C T B A J us (va_up F 2 (fun _ => 0)) G := d5
  have p2 : isPl h2 q n (nI C) T B A J S := (hr.keepW d7 (by omega) (by omega)).keep e3 (by omega)
  obtain ⟨h3, l, r, f1, f2, f3, f4, f5, f6⟩ := m_search e2 M2 g2 b3 d6 ⟨hn, hn12⟩ (by omega) (okF_free (2 ^ n - 1)) (floor_le hw hC0) hn12
  have y3 := y2.keep (f3.mono (b := ln') (l := 13) (by omega) (by omega)) (by omega)
  have lG : lnG (va_up (va_up F 2 (fun _ => 0)) 8 l) G := up_G g2 (by omega) (fun s => Nat.le_trans (f5 s) (by omega))
  refine ⟨h3, r, MX.of (lv := [some (.ref y)]) 0 rfl (by decide) (Nat.le_of_ble_eq_true rfl) (sn_Y_fewestOfTrial_0 _ _ _ ?_), ⟨ln', N', 0, y3, Nat.zero_le _, _, _, _, _, _, _, f2, lG, fun z => absurd z (by decide)⟩, (d7.trans (e3.toW (by omega))).trans (f3.toW (by omega)), f4.c (fun k hk => rch_c d5.ne (fun _ _ _ => rfl) k (by omega) _)⟩
  have o3 := hy.1
  have o4 := d2.1
  have o5 := y2.1
  have o6 := p2.1
  have q1 := d3.1
  have q2 := e2.1
  simp only [vc_Y_fewestOfTrial_0, qi_push, qi_pushl, qi_iload, qi_lload, qi_aload, qi_istore, qi_astore, qi_lstore, qi_iinc, qi_iadd, qi_isub, qi_imul, qi_iand, qi_ior, qi_ixor, qi_ishl, qi_ishr, qi_iushr, qi_idiv, qi_irem, qi_lor, qi_lmul, qi_ladd, qi_lsub, qi_land, qi_lshl, qi_lshr, qi_i2l, qi_l2i, qi_i2c, qi_lcmp, qi_dup, qi_dup2, qi_pop, qi_if_eq, qi_icmp_eq, qi_if_ne, qi_icmp_ne, qi_if_lt, qi_icmp_lt, qi_if_ge, qi_icmp_ge, qi_if_gt, qi_icmp_gt, qi_if_le, qi_icmp_le, qi_sw, qi_get, qi_put, qi_iald, qi_lald, qi_aald, qi_iast, qi_zast, qi_cast, qi_last, qi_aast, qi_alen, qi_new, qi_newa, qi_newq, qi_obj, qi_invS, qi_invV, qi_invI, qi_iret, qi_zret, qi_lret, qi_vret, qi_acopy, qi_max, qi_min, at_o, at_i, at_l, at_q, at_a, lget, lset, lclr, lnon, lnth, spl, shrt, rpush, true_and, and_true, List.set, List.length, Nat.reduceAdd, Nat.reduceLT, Nat.reduceLeDiff, Nat.reduceEqDiff, Nat.reduceSub, o3]
  refine ⟨_, _, d1, ?_⟩
  simp only [qi_push, qi_pushl, qi_iload, qi_lload, qi_aload, qi_istore, qi_astore, qi_lstore, qi_iinc, qi_iadd, qi_isub, qi_imul, qi_iand, qi_ior, qi_ixor, qi_ishl, qi_ishr, qi_iushr, qi_idiv, qi_irem, qi_lor, qi_lmul, qi_ladd, qi_lsub, qi_land, qi_lshl, qi_lshr, qi_i2l, qi_l2i, qi_i2c, qi_lcmp, qi_dup, qi_dup2, qi_pop, qi_if_eq, qi_icmp_eq, qi_if_ne, qi_icmp_ne, qi_if_lt, qi_icmp_lt, qi_if_ge, qi_icmp_ge, qi_if_gt, qi_icmp_gt, qi_if_le, qi_icmp_le, qi_sw, qi_get, qi_put, qi_iald, qi_lald, qi_aald, qi_iast, qi_zast, qi_cast, qi_last, qi_aast, qi_alen, qi_new, qi_newa, qi_newq, qi_obj, qi_invS, qi_invV, qi_invI, qi_iret, qi_zret, qi_lret, qi_vret, qi_acopy, qi_max, qi_min, at_o, at_i, at_l, at_q, at_a, lget, lset, lclr, lnon, lnth, spl, shrt, rpush, true_and, and_true, List.set, List.length, Nat.reduceAdd, Nat.reduceLT, Nat.reduceLeDiff, Nat.reduceEqDiff, Nat.reduceSub, o4, q1]
  refine ⟨_, _, e1, ?_⟩
  simp only [qi_push, qi_pushl, qi_iload, qi_lload, qi_aload, qi_istore, qi_astore, qi_lstore, qi_iinc, qi_iadd, qi_isub, qi_imul, qi_iand, qi_ior, qi_ixor, qi_ishl, qi_ishr, qi_iushr, qi_idiv, qi_irem, qi_lor, qi_lmul, qi_ladd, qi_lsub, qi_land, qi_lshl, qi_lshr, qi_i2l, qi_l2i, qi_i2c, qi_lcmp, qi_dup, qi_dup2, qi_pop, qi_if_eq, qi_icmp_eq, qi_if_ne, qi_icmp_ne, qi_if_lt, qi_icmp_lt, qi_if_ge, qi_icmp_ge, qi_if_gt, qi_icmp_gt, qi_if_le, qi_icmp_le, qi_sw, qi_get, qi_put, qi_iald, qi_lald, qi_aald, qi_iast, qi_zast, qi_cast, qi_last, qi_aast, qi_alen, qi_new, qi_newa, qi_newq, qi_obj, qi_invS, qi_invV, qi_invI, qi_iret, qi_zret, qi_lret, qi_vret, qi_acopy, qi_max, qi_min, at_o, at_i, at_l, at_q, at_a, lget, lset, lclr, lnon, lnth, spl, shrt, rpush, true_and, and_true, List.set, List.length, Nat.reduceAdd, Nat.reduceLT, Nat.reduceLeDiff, Nat.reduceEqDiff, Nat.reduceSub, o5, o6]
  refine ⟨_, _, c_P_highestFloor p2 hw hC hC0, ?_⟩
  simp only [qi_push, qi_pushl, qi_iload, qi_lload, qi_aload, qi_istore, qi_astore, qi_lstore, qi_iinc, qi_iadd, qi_isub, qi_imul, qi_iand, qi_ior, qi_ixor, qi_ishl, qi_ishr, qi_iushr, qi_idiv, qi_irem, qi_lor, qi_lmul, qi_ladd, qi_lsub, qi_land, qi_lshl, qi_lshr, qi_i2l, qi_l2i, qi_i2c, qi_lcmp, qi_dup, qi_dup2, qi_pop, qi_if_eq, qi_icmp_eq, qi_if_ne, qi_icmp_ne, qi_if_lt, qi_icmp_lt, qi_if_ge, qi_icmp_ge, qi_if_gt, qi_icmp_gt, qi_if_le, qi_icmp_le, qi_sw, qi_get, qi_put, qi_iald, qi_lald, qi_aald, qi_iast, qi_zast, qi_cast, qi_last, qi_aast, qi_alen, qi_new, qi_newa, qi_newq, qi_obj, qi_invS, qi_invV, qi_invI, qi_iret, qi_zret, qi_lret, qi_vret, qi_acopy, qi_max, qi_min, at_o, at_i, at_l, at_q, at_a, lget, lset, lclr, lnon, lnth, spl, shrt, rpush, true_and, and_true, List.set, List.length, Nat.reduceAdd, Nat.reduceLT, Nat.reduceLeDiff, Nat.reduceEqDiff, Nat.reduceSub, o5, o6, q2]
  refine ⟨_, _, f1, ?_⟩
  simp only [qi_push, qi_pushl, qi_iload, qi_lload, qi_aload, qi_istore, qi_astore, qi_lstore, qi_iinc, qi_iadd, qi_isub, qi_imul, qi_iand, qi_ior, qi_ixor, qi_ishl, qi_ishr, qi_iushr, qi_idiv, qi_irem, qi_lor, qi_lmul, qi_ladd, qi_lsub, qi_land, qi_lshl, qi_lshr, qi_i2l, qi_l2i, qi_i2c, qi_lcmp, qi_dup, qi_dup2, qi_pop, qi_if_eq, qi_icmp_eq, qi_if_ne, qi_icmp_ne, qi_if_lt, qi_icmp_lt, qi_if_ge, qi_icmp_ge, qi_if_gt, qi_icmp_gt, qi_if_le, qi_icmp_le, qi_sw, qi_get, qi_put, qi_iald, qi_lald, qi_aald, qi_iast, qi_zast, qi_cast, qi_last, qi_aast, qi_alen, qi_new, qi_newa, qi_newq, qi_obj, qi_invS, qi_invV, qi_invI, qi_iret, qi_zret, qi_lret, qi_vret, qi_acopy, qi_max, qi_min, at_o, at_i, at_l, at_q, at_a, lget, lset, lclr, lnon, lnth, spl, shrt, rpush, true_and, and_true, List.set, List.length, Nat.reduceAdd, Nat.reduceLT, Nat.reduceLeDiff, Nat.reduceEqDiff, Nat.reduceSub]
theorem SI.keep {h' : hc_H} {b k : Nat} (hl : layY p q y z0) (hS : SI h y p q z0 sl n C T B A J so bo st lc bp bc H K) (f : frm h h' b k) (hd : b + k ≤ y) : SI h' y p q z0 sl n C T B A J so bo st lc bp bc H K := by
  obtain ⟨ln, N, me, hy, hm1, fx, wh, c, us, F, G, h1, h2, h3⟩ := hS
  obtain ⟨b1, b2, b3⟩ := hy.le hl
  exact ⟨ln, N, me, hy.keep f (by omega), hm1, fx, wh, c, us, F, G, h1.keep f (by omega), h2, h3⟩
theorem pw.up {t v : Nat} (hw : pw n T B A J S) (hv : v ≤ 60) : pw n (va_up T t v) B A J S := ⟨hw.1, up1_le hw.2.1 hv, hw.2.2⟩
theorem c_Y_fewestByCycle (hl : layY p q y z0) (hS : SI h y p q z0 sl n C T B A J so bo st lc bp bc H K) {n2 : Nat} {c2 : Int32} {T2 B2 A2 J2 S2 : Nat → Nat} (hq : isPl h q n2 c2 T2 B2 A2 J2 S2) (hr : isPl h p n (nI C) T B A J S) (hw : pw n T B A J S) (hn : 1 ≤ n) {c : Nat} (hc : c < 1000) (hc0 : 0 < c) :
    ∃ h' r, MA M_Y_fewestByCycle [.ref y, .int (nI c)] h (some (.int r)) h' ∧ SI h' y p q z0 sl n C T B A J so bo st lc bp bc H K ∧ frY h h' q y z0 ∧ isPl h' q n (nI c) T B A J S ∧ isMin (lin n c T B A J) n r := by
  obtain ⟨l1, l2, l3⟩ := id hl
  obtain ⟨h1, c1, c2, c3⟩ := c_P_copy hq hr (by omega)
  obtain ⟨h2, eh2⟩ : ∃ x, hc_set h1 q (.inr (2, [.int (nI n), .int (nI c), .ref (q + 1), .ref (q + 2), .ref (q + 3), .ref (q + 4), .ref (q + 5)])) = x := ⟨_, rfl⟩
  have p2 : isPl h2 q n (nI c) T B A J S := by
    rw [← eh2]
    obtain ⟨e0, e1, e2, e3, e4, e5⟩ := id c2
    refine ⟨hs_eq _ _ _, ?_, ?_, ?_, ?_, ?_⟩ <;> rw [hs_ne _ _ (by omega)] <;> assumption
  have f2 : frm h h2 q 6 := eh2 ▸ c3.set (by omega)
  have S2 := hS.keep hl f2 (by omega)
  obtain ⟨h3, r, g1, g2, g3, g4⟩ := c_Y_fewestOfTrial hl S2 p2 hw hc hc0 hn
  refine ⟨h3, r, MX.of (lv := [some (.ref y), some (.int (nI c))]) 0 rfl (by decide) (Nat.le_of_ble_eq_true rfl) (sn_Y_fewestByCycle_0 _ _ _ ?_), g2, f2.toY.trans g3.toY, p2.keepW g3 (by omega) (by omega), g4⟩
  obtain ⟨ln, N, me, hy, -⟩ := id hS
  obtain ⟨ln', N', me', hy', -⟩ := id (hS.keep hl c3 (by omega))
  obtain ⟨ln'', N'', me'', hy'', -⟩ := id S2
  have o1 := hy.1
  have o2 := hy'.1
  have o3 := hy''.1
  have o4 := hq.1
  have o5 := c2.1
  simp only [vc_Y_fewestByCycle_0, qi_push, qi_pushl, qi_iload, qi_lload, qi_aload, qi_istore, qi_astore, qi_lstore, qi_iinc, qi_iadd, qi_isub, qi_imul, qi_iand, qi_ior, qi_ixor, qi_ishl, qi_ishr, qi_iushr, qi_idiv, qi_irem, qi_lor, qi_lmul, qi_ladd, qi_lsub, qi_land, qi_lshl, qi_lshr, qi_i2l, qi_l2i, qi_i2c, qi_lcmp, qi_dup, qi_dup2, qi_pop, qi_if_eq, qi_icmp_eq, qi_if_ne, qi_icmp_ne, qi_if_lt, qi_icmp_lt, qi_if_ge, qi_icmp_ge, qi_if_gt, qi_icmp_gt, qi_if_le, qi_icmp_le, qi_sw, qi_get, qi_put, qi_iald, qi_lald, qi_aald, qi_iast, qi_zast, qi_cast, qi_last, qi_aast, qi_alen, qi_new, qi_newa, qi_newq, qi_obj, qi_invS, qi_invV, qi_invI, qi_iret, qi_zret, qi_lret, qi_vret, qi_acopy, qi_max, qi_min, at_o, at_i, at_l, at_q, at_a, lget, lset, lclr, lnon, lnth, spl, shrt, rpush, true_and, and_true, List.set, List.length, Nat.reduceAdd, Nat.reduceLT, Nat.reduceLeDiff, Nat.reduceEqDiff, Nat.reduceSub, o1, o4]
  refine ⟨_, _, c1, ?_⟩
  simp only [qi_push, qi_pushl, qi_iload, qi_lload, qi_aload, qi_istore, qi_astore, qi_lstore, qi_iinc, qi_iadd, qi_isub, qi_imul, qi_iand, qi_ior, qi_ixor, qi_ishl, qi_ishr, qi_iushr, qi_idiv, qi_irem, qi_lor, qi_lmul, qi_ladd, qi_lsub, qi_land, qi_lshl, qi_lshr, qi_i2l, qi_l2i, qi_i2c, qi_lcmp, qi_dup, qi_dup2, qi_pop, qi_if_eq, qi_icmp_eq, qi_if_ne, qi_icmp_ne, qi_if_lt, qi_icmp_lt, qi_if_ge, qi_icmp_ge, qi_if_gt, qi_icmp_gt, qi_if_le, qi_icmp_le, qi_sw, qi_get, qi_put, qi_iald, qi_lald, qi_aald, qi_iast, qi_zast, qi_cast, qi_last, qi_aast, qi_alen, qi_new, qi_newa, qi_newq, qi_obj, qi_invS, qi_invV, qi_invI, qi_iret, qi_zret, qi_lret, qi_vret, qi_acopy, qi_max, qi_min, at_o, at_i, at_l, at_q, at_a, lget, lset, lclr, lnon, lnth, spl, shrt, rpush, true_and, and_true, List.set, List.length, Nat.reduceAdd, Nat.reduceLT, Nat.reduceLeDiff, Nat.reduceEqDiff, Nat.reduceSub, o2, o5, eh2, o3]
  refine ⟨hc_fit_i, _, _, g1, ?_⟩
  simp only [qi_push, qi_pushl, qi_iload, qi_lload, qi_aload, qi_istore, qi_astore, qi_lstore, qi_iinc, qi_iadd, qi_isub, qi_imul, qi_iand, qi_ior, qi_ixor, qi_ishl, qi_ishr, qi_iushr, qi_idiv, qi_irem, qi_lor, qi_lmul, qi_ladd, qi_lsub, qi_land, qi_lshl, qi_lshr, qi_i2l, qi_l2i, qi_i2c, qi_lcmp, qi_dup, qi_dup2, qi_pop, qi_if_eq, qi_icmp_eq, qi_if_ne, qi_icmp_ne, qi_if_lt, qi_icmp_lt, qi_if_ge, qi_icmp_ge, qi_if_gt, qi_icmp_gt, qi_if_le, qi_icmp_le, qi_sw, qi_get, qi_put, qi_iald, qi_lald, qi_aald, qi_iast, qi_zast, qi_cast, qi_last, qi_aast, qi_alen, qi_new, qi_newa, qi_newq, qi_obj, qi_invS, qi_invV, qi_invI, qi_iret, qi_zret, qi_lret, qi_vret, qi_acopy, qi_max, qi_min, at_o, at_i, at_l, at_q, at_a, lget, lset, lclr, lnon, lnth, spl, shrt, rpush, true_and, and_true, List.set, List.length, Nat.reduceAdd, Nat.reduceLT, Nat.reduceLeDiff, Nat.reduceEqDiff, Nat.reduceSub]
theorem c_Y_fewestByTime (hl : layY p q y z0) (hS : SI h y p q z0 sl n C T B A J so bo st lc bp bc H K) {n2 : Nat} {c2 : Int32} {T2 B2 A2 J2 S2 : Nat → Nat} (hq : isPl h q n2 c2 T2 B2 A2 J2 S2) (hr : isPl h p n (nI C) T B A J S) (hw : pw n T B A J S) (hC : C < 1000) (hC0 : 0 < C) (hn : 1 ≤ n) {t v : Nat} (ht : t < 12) (hv : v ≤ 60) :
    ∃ h' r, MA M_Y_fewestByTime [.ref y, .int (nI t), .int (nI v)] h (some (.int r)) h' ∧ SI h' y p q z0 sl n C T B A J so bo st lc bp bc H K ∧ frY h h' q y z0 ∧ isPl h' q n (nI C) (va_up T t v) B A J S ∧ isMin (lin n C (va_up T t v) B A J) n r := by
  obtain ⟨l1, l2, l3⟩ := id hl
  obtain ⟨h1, c1, c2, c3⟩ := c_P_copy hq hr (by omega)
  obtain ⟨h2, eh2⟩ : ∃ x, hc_set h1 (q + 1) (.inl (0, 12, .inl (fun j => nI (va_up T t v j)))) = x := ⟨_, rfl⟩
  have p2 : isPl h2 q n (nI C) (va_up T t v) B A J S := by
    rw [← eh2]
    obtain ⟨e0, e1, e2, e3, e4, e5⟩ := id c2
    refine ⟨?_, hs_eq _ _ _, ?_, ?_, ?_, ?_⟩ <;> rw [hs_ne _ _ (by omega)] <;> assumption
  have f2 : frm h h2 q 6 := eh2 ▸ c3.set (by omega)
  have S2 := hS.keep hl f2 (by omega)
  obtain ⟨h3, r, g1, g2, g3, g4⟩ := c_Y_fewestOfTrial hl S2 p2 (hw.up hv) hC hC0 hn
  refine ⟨h3, r, MX.of (lv := [some (.ref y), some (.int (nI t)), some (.int (nI v))]) 0 rfl (by decide) (Nat.le_of_ble_eq_true rfl) (sn_Y_fewestByTime_0 _ _ _ ?_), g2, f2.toY.trans g3.toY, p2.keepW g3 (by omega) (by omega), g4⟩
  obtain ⟨ln, N, me, hy, -⟩ := id hS
  obtain ⟨ln', N', me', hy', -⟩ := id (hS.keep hl c3 (by omega))
  obtain ⟨ln'', N'', me'', hy'', -⟩ := id S2
  have o1 := hy.1
  have o2 := hy'.1
  have o3 := hy''.1
  have o4 := hq.1
  have o5 := c2.1
  have o6 := c2.2.1
  have hv1 : vp_in (nI t) 12 := vp_in_nI (by omega) (by omega)
  simp only [vc_Y_fewestByTime_0, qi_push, qi_pushl, qi_iload, qi_lload, qi_aload, qi_istore, qi_astore, qi_lstore, qi_iinc, qi_iadd, qi_isub, qi_imul, qi_iand, qi_ior, qi_ixor, qi_ishl, qi_ishr, qi_iushr, qi_idiv, qi_irem, qi_lor, qi_lmul, qi_ladd, qi_lsub, qi_land, qi_lshl, qi_lshr, qi_i2l, qi_l2i, qi_i2c, qi_lcmp, qi_dup, qi_dup2, qi_pop, qi_if_eq, qi_icmp_eq, qi_if_ne, qi_icmp_ne, qi_if_lt, qi_icmp_lt, qi_if_ge, qi_icmp_ge, qi_if_gt, qi_icmp_gt, qi_if_le, qi_icmp_le, qi_sw, qi_get, qi_put, qi_iald, qi_lald, qi_aald, qi_iast, qi_zast, qi_cast, qi_last, qi_aast, qi_alen, qi_new, qi_newa, qi_newq, qi_obj, qi_invS, qi_invV, qi_invI, qi_iret, qi_zret, qi_lret, qi_vret, qi_acopy, qi_max, qi_min, at_o, at_i, at_l, at_q, at_a, lget, lset, lclr, lnon, lnth, spl, shrt, rpush, true_and, and_true, List.set, List.length, Nat.reduceAdd, Nat.reduceLT, Nat.reduceLeDiff, Nat.reduceEqDiff, Nat.reduceSub, o1, o4]
  refine ⟨_, _, c1, ?_⟩
  simp only [qi_push, qi_pushl, qi_iload, qi_lload, qi_aload, qi_istore, qi_astore, qi_lstore, qi_iinc, qi_iadd, qi_isub, qi_imul, qi_iand, qi_ior, qi_ixor, qi_ishl, qi_ishr, qi_iushr, qi_idiv, qi_irem, qi_lor, qi_lmul, qi_ladd, qi_lsub, qi_land, qi_lshl, qi_lshr, qi_i2l, qi_l2i, qi_i2c, qi_lcmp, qi_dup, qi_dup2, qi_pop, qi_if_eq, qi_icmp_eq, qi_if_ne, qi_icmp_ne, qi_if_lt, qi_icmp_lt, qi_if_ge, qi_icmp_ge, qi_if_gt, qi_icmp_gt, qi_if_le, qi_icmp_le, qi_sw, qi_get, qi_put, qi_iald, qi_lald, qi_aald, qi_iast, qi_zast, qi_cast, qi_last, qi_aast, qi_alen, qi_new, qi_newa, qi_newq, qi_obj, qi_invS, qi_invV, qi_invI, qi_iret, qi_zret, qi_lret, qi_vret, qi_acopy, qi_max, qi_min, at_o, at_i, at_l, at_q, at_a, lget, lset, lclr, lnon, lnth, spl, shrt, rpush, true_and, and_true, List.set, List.length, Nat.reduceAdd, Nat.reduceLT, Nat.reduceLeDiff, Nat.reduceEqDiff, Nat.reduceSub, o2, o5, o6, hv1]
  rw [nI_clamp (by omega), upd_nI, eh2]
  simp only [qi_push, qi_pushl, qi_iload, qi_lload, qi_aload, qi_istore, qi_astore, qi_lstore, qi_iinc, qi_iadd, qi_isub, qi_imul, qi_iand, qi_ior, qi_ixor, qi_ishl, qi_ishr, qi_iushr, qi_idiv, qi_irem, qi_lor, qi_lmul, qi_ladd, qi_lsub, qi_land, qi_lshl, qi_lshr, qi_i2l, qi_l2i, qi_i2c, qi_lcmp, qi_dup, qi_dup2, qi_pop, qi_if_eq, qi_icmp_eq, qi_if_ne, qi_icmp_ne, qi_if_lt, qi_icmp_lt, qi_if_ge, qi_icmp_ge, qi_if_gt, qi_icmp_gt, qi_if_le, qi_icmp_le, qi_sw, qi_get, qi_put, qi_iald, qi_lald, qi_aald, qi_iast, qi_zast, qi_cast, qi_last, qi_aast, qi_alen, qi_new, qi_newa, qi_newq, qi_obj, qi_invS, qi_invV, qi_invI, qi_iret, qi_zret, qi_lret, qi_vret, qi_acopy, qi_max, qi_min, at_o, at_i, at_l, at_q, at_a, lget, lset, lclr, lnon, lnth, spl, shrt, rpush, true_and, and_true, List.set, List.length, Nat.reduceAdd, Nat.reduceLT, Nat.reduceLeDiff, Nat.reduceEqDiff, Nat.reduceSub, o3]
  refine ⟨_, _, g1, ?_⟩
  simp only [qi_push, qi_pushl, qi_iload, qi_lload, qi_aload, qi_istore, qi_astore, qi_lstore, qi_iinc, qi_iadd, qi_isub, qi_imul, qi_iand, qi_ior, qi_ixor, qi_ishl, qi_ishr, qi_iushr, qi_idiv, qi_irem, qi_lor, qi_lmul, qi_ladd, qi_lsub, qi_land, qi_lshl, qi_lshr, qi_i2l, qi_l2i, qi_i2c, qi_lcmp, qi_dup, qi_dup2, qi_pop, qi_if_eq, qi_icmp_eq, qi_if_ne, qi_icmp_ne, qi_if_lt, qi_icmp_lt, qi_if_ge, qi_icmp_ge, qi_if_gt, qi_icmp_gt, qi_if_le, qi_icmp_le, qi_sw, qi_get, qi_put, qi_iald, qi_lald, qi_aald, qi_iast, qi_zast, qi_cast, qi_last, qi_aast, qi_alen, qi_new, qi_newa, qi_newq, qi_obj, qi_invS, qi_invV, qi_invI, qi_iret, qi_zret, qi_lret, qi_vret, qi_acopy, qi_max, qi_min, at_o, at_i, at_l, at_q, at_a, lget, lset, lclr, lnon, lnth, spl, shrt, rpush, true_and, and_true, List.set, List.length, Nat.reduceAdd, Nat.reduceLT, Nat.reduceLeDiff, Nat.reduceEqDiff, Nat.reduceSub]
end ST
