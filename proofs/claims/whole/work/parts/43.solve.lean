/-! STUDY: solving. -/
def mea (h : hc_H) (ln N me n C : Nat) (T B A J : Nat → Nat) : Prop := ∃ fx wh c us F G, isLn h ln N fx wh c us F G ∧ lnG F G ∧ (me = 1 → wh = 2 ^ n - 1 ∧ c = nI C ∧ 2 ^ n ≤ N ∧ lnM n C T B A J us F G)
/-- what is found of the best lines -/
def slv (n C : Nat) (T B A J : Nat → Nat) (st : Int32) (lc bp : Nat) (H : Nat → Nat) : Prop :=
  ∃ ne sp, (∀ s, s < 2 ^ n → ne s = nd n C T B A J s ∧ sp s = spn s n) ∧ isMin (fun k => rch (2 ^ n - 1) 0 (fun _ => 0) ne k (2 ^ n - 1)) n st ∧ (st = -4 → lc = 0) ∧ (st ≠ -4 → ∃ K l pl0, 1 ≤ K ∧ K ≤ n ∧ st = nI K ∧ lvG (2 ^ n - 1) 0 (fun _ => 0) ne l K ∧ lc = (trc (2 ^ n - 1) l ne sp pl0 (2 ^ n - 1)).1 0 ∧ bp = (trc (2 ^ n - 1) l ne sp pl0 (2 ^ n - 1)).2.1 0 ∧ H = (trc (2 ^ n - 1) l ne sp pl0 (2 ^ n - 1)).2.2 ∧ lc ≤ 1000000 ∧ bp < 2 ^ 60 ∧ ∀ k, H k < 4096)
/-- STUDY, of the plan with n C T B A J -/
def SI (h : hc_H) (y p q z0 sl n C : Nat) (T B A J : Nat → Nat) (so bo : Nat) (st : Int32) (lc bp bc : Nat) (H K : Nat → Nat) : Prop := ∃ ln N me, isY h y p q z0 sl ln N me so bo st lc bp bc H K ∧ me ≤ 1 ∧ mea h ln N me n C T B A J
theorem mea.S {h : hc_H} {ln N me n C : Nat} {T B A J : Nat → Nat} (hm : mea h ln N me n C T B A J) : lnS h ln N := by
  obtain ⟨fx, wh, c, us, F, G, h1, h2, -⟩ := hm
  exact ⟨fx, wh, c, us, F, G, h1, h2⟩
theorem floor_le {n C : Nat} {T B A J S : Nat → Nat} (hw : pw n T B A J S) (h0 : 0 < C) : max (fl0 n C T) (max (fl1 n C T) (fl2 n C T B)) ≤ 1000 := by
  have l0 : fl0 n C T ≤ 720 := Nat.le_trans (ru_le h0) (tsum_small hw _)
  have l1 : fl1 n C T ≤ 24 := by
    have a1 := cnt_le (fun x => decide (C < 2 * T x)) n
    have a2 := cnt_le (fun x => decide (2 * T x = C)) n
    have a3 := ru_le (s := cnt (fun x => decide (2 * T x = C)) n) (d := 2) (by omega)
    have := hw.1
    unfold fl1
    omega
  have l2 : fl2 n C T B ≤ 720 := Nat.le_trans (ru_le h0) (mx_le (fun x => tsum_small hw _) n)
  omega
section ST
variable {h : hc_H} {y p q z0 sl ln N me so bo lc bp bc n C : Nat} {st : Int32} {H K T B A J S : Nat → Nat}
theorem c_Y_measureNow (hl : layY p q y z0) (hy : isY h y p q z0 sl ln N me so bo st lc bp bc H K) (hm1 : me ≤ 1) (hm : mea h ln N me n C T B A J) (hr : isPl h p n (nI C) T B A J S) (hw : pw n T B A J S) (hC : C < 1000) :
    ∃ h' ln' N' fx us F G, MA M_Y_measureNow [.ref y] h none h' ∧ isY h' y p q z0 sl ln' N' 1 so bo st lc bp bc H K ∧ isLn h' ln' N' fx (2 ^ n - 1) (nI C) us F G ∧ lnG F G ∧ lnM n C T B A J us F G ∧ 2 ^ n ≤ N' ∧ frW h h' y z0 := by
  obtain ⟨l1, l2, l3⟩ := id hl
  have o3 := hy.1
  rcases (show me = 1 ∨ me = 0 by omega) with rfl | rfl
  · obtain ⟨fx, wh, c, us, F, G, h1, h2, h3⟩ := hm
    obtain ⟨rfl, rfl, h5, h6⟩ := h3 rfl
    refine ⟨h, ln, N, fx, us, F, G, MX.of (lv := [some (.ref y)]) 0 rfl (by decide) (Nat.le_of_ble_eq_true rfl) (sn_Y_measureNow_0 _ _ _ ?_), hy, h1, h2, h6, h5, frW.rfl'⟩
    simp only [vc_Y_measureNow_0, vc_Y_measureNow_20, qi_push, qi_pushl, qi_iload, qi_lload, qi_aload, qi_istore, qi_astore, qi_lstore, qi_iinc, qi_iadd, qi_isub, qi_imul, qi_iand, qi_ior, qi_ixor, qi_ishl, qi_ishr, qi_iushr, qi_idiv, qi_irem, qi_lor, qi_lmul, qi_ladd, qi_lsub, qi_land, qi_lshl, qi_lshr, qi_i2l, qi_l2i, qi_i2c, qi_lcmp, qi_dup, qi_dup2, qi_pop, qi_if_eq, qi_icmp_eq, qi_if_ne, qi_icmp_ne, qi_if_lt, qi_icmp_lt, qi_if_ge, qi_icmp_ge, qi_if_gt, qi_icmp_gt, qi_if_le, qi_icmp_le, qi_sw, qi_get, qi_put, qi_iald, qi_lald, qi_aald, qi_iast, qi_zast, qi_cast, qi_last, qi_aast, qi_alen, qi_new, qi_newa, qi_newq, qi_obj, qi_invS, qi_invV, qi_invI, qi_iret, qi_zret, qi_lret, qi_vret, qi_acopy, qi_max, qi_min, at_o, at_i, at_l, at_q, at_a, lget, lset, lclr, lnon, lnth, spl, shrt, rpush, true_and, and_true, List.set, List.length, Nat.reduceAdd, Nat.reduceLT, Nat.reduceLeDiff, Nat.reduceEqDiff, Nat.reduceSub, o3]
    exact ⟨fun _ => trivial, fun z => absurd z (by decide)⟩
  · obtain ⟨h1, ln', N', fx, us, F, G, d1, d2, d3, d4, d5, d6, d7⟩ := c_Y_measure hl hy hm.S hr hw hC (by omega)
    obtain ⟨b1, b2, b3⟩ := d2.le hl
    refine ⟨hc_set h1 y (styO y p q ln' 1 so bo st lc bp bc), ln', N', fx, us, F, G, MX.of (lv := [some (.ref y)]) 0 rfl (by decide) (Nat.le_of_ble_eq_true rfl) (sn_Y_measureNow_0 _ _ _ ?_), d2.setO, d3.hs (by omega), d4, d5, d6, d7.trans (frm.toW (a := y) (k := 1) (frm.rfl'.set (by omega)) (by omega))⟩
    have o4 := d2.1
    simp only [vc_Y_measureNow_0, vc_Y_measureNow_20, qi_push, qi_pushl, qi_iload, qi_lload, qi_aload, qi_istore, qi_astore, qi_lstore, qi_iinc, qi_iadd, qi_isub, qi_imul, qi_iand, qi_ior, qi_ixor, qi_ishl, qi_ishr, qi_iushr, qi_idiv, qi_irem, qi_lor, qi_lmul, qi_ladd, qi_lsub, qi_land, qi_lshl, qi_lshr, qi_i2l, qi_l2i, qi_i2c, qi_lcmp, qi_dup, qi_dup2, qi_pop, qi_if_eq, qi_icmp_eq, qi_if_ne, qi_icmp_ne, qi_if_lt, qi_icmp_lt, qi_if_ge, qi_icmp_ge, qi_if_gt, qi_icmp_gt, qi_if_le, qi_icmp_le, qi_sw, qi_get, qi_put, qi_iald, qi_lald, qi_aald, qi_iast, qi_zast, qi_cast, qi_last, qi_aast, qi_alen, qi_new, qi_newa, qi_newq, qi_obj, qi_invS, qi_invV, qi_invI, qi_iret, qi_zret, qi_lret, qi_vret, qi_acopy, qi_max, qi_min, at_o, at_i, at_l, at_q, at_a, lget, lset, lclr, lnon, lnth, spl, shrt, rpush, true_and, and_true, List.set, List.length, Nat.reduceAdd, Nat.reduceLT, Nat.reduceLeDiff, Nat.reduceEqDiff, Nat.reduceSub, o3]
    refine ⟨fun z => absurd rfl z, fun _ => ⟨_, _, d1, ?_⟩⟩
    simp only [qi_push, qi_pushl, qi_iload, qi_lload, qi_aload, qi_istore, qi_astore, qi_lstore, qi_iinc, qi_iadd, qi_isub, qi_imul, qi_iand, qi_ior, qi_ixor, qi_ishl, qi_ishr, qi_iushr, qi_idiv, qi_irem, qi_lor, qi_lmul, qi_ladd, qi_lsub, qi_land, qi_lshl, qi_lshr, qi_i2l, qi_l2i, qi_i2c, qi_lcmp, qi_dup, qi_dup2, qi_pop, qi_if_eq, qi_icmp_eq, qi_if_ne, qi_icmp_ne, qi_if_lt, qi_icmp_lt, qi_if_ge, qi_icmp_ge, qi_if_gt, qi_icmp_gt, qi_if_le, qi_icmp_le, qi_sw, qi_get, qi_put, qi_iald, qi_lald, qi_aald, qi_iast, qi_zast, qi_cast, qi_last, qi_aast, qi_alen, qi_new, qi_newa, qi_newq, qi_obj, qi_invS, qi_invV, qi_invI, qi_iret, qi_zret, qi_lret, qi_vret, qi_acopy, qi_max, qi_min, at_o, at_i, at_l, at_q, at_a, lget, lset, lclr, lnon, lnth, spl, shrt, rpush, true_and, and_true, List.set, List.length, Nat.reduceAdd, Nat.reduceLT, Nat.reduceLeDiff, Nat.reduceEqDiff, Nat.reduceSub, o4]
    exact hc_fit_o
set_option maxRecDepth 8000 in
theorem c_Y_solve (hl : layY p q y z0) (hS : SI h y p q z0 sl n C T B A J so bo st lc bp bc H K) (hso : so ≤ 1) (hsv : so = 1 → slv n C T B A J st lc bp H) (hr : isPl h p n (nI C) T B A J S) (hw : pw n T B A J S) (hC : C < 1000) (hC0 : 0 < C) (hn : 1 ≤ n) :
    ∃ h' st' lc' bp' H', MA M_Y_solve [.ref y] h none h' ∧ SI h' y p q z0 sl n C T B A J 1 bo st' lc' bp' bc H' K ∧ slv n C T B A J st' lc' bp' H' ∧ frW h h' y z0 := by
  obtain ⟨l1, l2, l3⟩ := id hl
  obtain ⟨ln, N, me, hy, hm1, hm⟩ := id hS
  have o3 := hy.1
  rcases (show so = 1 ∨ so = 0 by omega) with rfl | rfl
  · refine ⟨h, st, lc, bp, H, MX.of (lv := [some (.ref y)]) 0 rfl (by decide) (Nat.le_of_ble_eq_true rfl) (sn_Y_solve_0 _ _ _ ?_), hS, hsv rfl, frW.rfl'⟩
    simp only [vc_Y_solve_0, qi_push, qi_pushl, qi_iload, qi_lload, qi_aload, qi_istore, qi_astore, qi_lstore, qi_iinc, qi_iadd, qi_isub, qi_imul, qi_iand, qi_ior, qi_ixor, qi_ishl, qi_ishr, qi_iushr, qi_idiv, qi_irem, qi_lor, qi_lmul, qi_ladd, qi_lsub, qi_land, qi_lshl, qi_lshr, qi_i2l, qi_l2i, qi_i2c, qi_lcmp, qi_dup, qi_dup2, qi_pop, qi_if_eq, qi_icmp_eq, qi_if_ne, qi_icmp_ne, qi_if_lt, qi_icmp_lt, qi_if_ge, qi_icmp_ge, qi_if_gt, qi_icmp_gt, qi_if_le, qi_icmp_le, qi_sw, qi_get, qi_put, qi_iald, qi_lald, qi_aald, qi_iast, qi_zast, qi_cast, qi_last, qi_aast, qi_alen, qi_new, qi_newa, qi_newq, qi_obj, qi_invS, qi_invV, qi_invI, qi_iret, qi_zret, qi_lret, qi_vret, qi_acopy, qi_max, qi_min, at_o, at_i, at_l, at_q, at_a, lget, lset, lclr, lnon, lnth, spl, shrt, rpush, true_and, and_true, List.set, List.length, Nat.reduceAdd, Nat.reduceLT, Nat.reduceLeDiff, Nat.reduceEqDiff, Nat.reduceSub, o3]
    exact ⟨fun z => absurd z (by decide), fun _ => trivial⟩
  · obtain ⟨h1, ln', N', fx, us, F, G, d1, d2, d3, d4, d5, d6, d7⟩ := c_Y_measureNow hl hy hm1 hm hr hw hC
    obtain ⟨b1, b2, b3⟩ := d2.le hl
    have hn12 := hw.1
    have l12 : 2 ^ n ≤ 2 ^ 12 := Nat.pow_le_pow_right (by omega) hn12
    have hpn := Nat.two_pow_pos n
    obtain ⟨h2, e1, e2, e3⟩ := c_L_freeAll d3
    have y2 := d2.keep e3 (by omega)
    have g2 : lnG (va_up F 2 (fun _ => 0)) G := by
      obtain ⟨g1, g2, g3, g4, g5⟩ := d4
      exact ⟨g1, up_le g2 (fun _ => Nat.zero_le _), g3, fun _ => by show 0 < 4096; omega, rfl⟩
    have M2 : lnM n C T B A J us (va_up F 2 (fun _ => 0)) G := d5
    have p2 : isPl h2 p n (nI C) T B A J S := (hr.keepW d7 (by omega) (by omega)).keep e3 (by omega)
    obtain ⟨h3, l, r, f1, f2, f3, f4, f5, f6⟩ := m_search e2 M2 g2 b3 d6 ⟨hn, hn12⟩ (by omega) (okF_free (2 ^ n - 1)) (floor_le hw hC0) hn12
    have y3 := y2.keep (f3.mono (b := ln') (l := 13) (by omega) (by omega)) (by omega)
    have lG : lnG (va_up (va_up F 2 (fun _ => 0)) 8 l) G := up_G g2 (by omega) (fun s => Nat.le_trans (f5 s) (by omega))
    have lM : lnM n C T B A J us (va_up (va_up F 2 (fun _ => 0)) 8 l) G := d5
    have fr3 : frW h h3 y z0 := (d7.trans (e3.toW (by omega))).trans (f3.toW (by omega))
    have o4 := d2.1
    have o5 := y2.1
    have o6 := p2.1
    have o7 := y3.1
    have q1 := d3.1
    have q2 := e2.1
    obtain ⟨h4, eh4⟩ : ∃ x, hc_set h3 y (styO y p q ln' 1 0 bo r 0 bp bc) = x := ⟨_, rfl⟩
    have y4 : isY h4 y p q z0 sl ln' N' 1 0 bo r 0 bp bc H K := eh4 ▸ y3.setO
    have n4 := eh4 ▸ f2.hs (b := y) (e := styO y p q ln' 1 0 bo r 0 bp bc) (by omega)
    have fr4 : frW h h4 y z0 := eh4 ▸ fr3.trans (frm.toW (a := y) (k := 1) (frm.rfl'.set (by omega)) (by omega))
    have o8 := y4.1
    have q4 := n4.1
    -- up to where it is known whether there is a line
    have start : ∀ h', (r = -4 → vc_Y_solve_98 none h' (cx hc_tt M_Y_solve h h' none) [some (.ref y)] [] h4) → (r ≠ -4 → ∃ h5, MA M_L_traceBest [.ref ln'] h4 none h5 ∧ (∃ fs, h5.1 ln' = some (.inr (0, fs))) ∧ h5.1 y = h4.1 y ∧ ∃ a b, MA M_L_lineCount [.ref ln'] h5 (some (.int a)) h5 ∧ MA M_L_bestPlaces [.ref ln'] (hc_set h5 y (.inr (4, [.ref p, .ref q, .ref ln', .int (nI 1), .int (nI 0), .int (nI bo), .int r, .int a, .long (lN bp), .ref (y + 1), .ref (y + 2), .int (nI bc)]))) (some (.long b)) (hc_set h5 y (.inr (4, [.ref p, .ref q, .ref ln', .int (nI 1), .int (nI 0), .int (nI bo), .int r, .int a, .long (lN bp), .ref (y + 1), .ref (y + 2), .int (nI bc)]))) ∧ ∃ h6, MA M_L_copyHeldAt [.ref ln', .ref (y + 1)] (hc_set h5 y (.inr (4, [.ref p, .ref q, .ref ln', .int (nI 1), .int (nI 0), .int (nI bo), .int r, .int a, .long b, .ref (y + 1), .ref (y + 2), .int (nI bc)]))) none h6 ∧ vc_Y_solve_98 none h' (cx hc_tt M_Y_solve h h' none) [some (.ref y)] [] h6) → MA M_Y_solve [.ref y] h none h' := by
      intro h' k1 k2
      refine MX.of (lv := [some (.ref y)]) 0 rfl (by decide) (Nat.le_of_ble_eq_true rfl) (sn_Y_solve_0 _ _ _ ?_)
      simp only [vc_Y_solve_0, vc_Y_solve_8, qi_push, qi_pushl, qi_iload, qi_lload, qi_aload, qi_istore, qi_astore, qi_lstore, qi_iinc, qi_iadd, qi_isub, qi_imul, qi_iand, qi_ior, qi_ixor, qi_ishl, qi_ishr, qi_iushr, qi_idiv, qi_irem, qi_lor, qi_lmul, qi_ladd, qi_lsub, qi_land, qi_lshl, qi_lshr, qi_i2l, qi_l2i, qi_i2c, qi_lcmp, qi_dup, qi_dup2, qi_pop, qi_if_eq, qi_icmp_eq, qi_if_ne, qi_icmp_ne, qi_if_lt, qi_icmp_lt, qi_if_ge, qi_icmp_ge, qi_if_gt, qi_icmp_gt, qi_if_le, qi_icmp_le, qi_sw, qi_get, qi_put, qi_iald, qi_lald, qi_aald, qi_iast, qi_zast, qi_cast, qi_last, qi_aast, qi_alen, qi_new, qi_newa, qi_newq, qi_obj, qi_invS, qi_invV, qi_invI, qi_iret, qi_zret, qi_lret, qi_vret, qi_acopy, qi_max, qi_min, at_o, at_i, at_l, at_q, at_a, lget, lset, lclr, lnon, lnth, spl, shrt, rpush, true_and, and_true, List.set, List.length, Nat.reduceAdd, Nat.reduceLT, Nat.reduceLeDiff, Nat.reduceEqDiff, Nat.reduceSub, o3]
      refine ⟨fun _ => ⟨_, _, d1, ?_⟩, fun z => absurd rfl z⟩
      simp only [qi_push, qi_pushl, qi_iload, qi_lload, qi_aload, qi_istore, qi_astore, qi_lstore, qi_iinc, qi_iadd, qi_isub, qi_imul, qi_iand, qi_ior, qi_ixor, qi_ishl, qi_ishr, qi_iushr, qi_idiv, qi_irem, qi_lor, qi_lmul, qi_ladd, qi_lsub, qi_land, qi_lshl, qi_lshr, qi_i2l, qi_l2i, qi_i2c, qi_lcmp, qi_dup, qi_dup2, qi_pop, qi_if_eq, qi_icmp_eq, qi_if_ne, qi_icmp_ne, qi_if_lt, qi_icmp_lt, qi_if_ge, qi_icmp_ge, qi_if_gt, qi_icmp_gt, qi_if_le, qi_icmp_le, qi_sw, qi_get, qi_put, qi_iald, qi_lald, qi_aald, qi_iast, qi_zast, qi_cast, qi_last, qi_aast, qi_alen, qi_new, qi_newa, qi_newq, qi_obj, qi_invS, qi_invV, qi_invI, qi_iret, qi_zret, qi_lret, qi_vret, qi_acopy, qi_max, qi_min, at_o, at_i, at_l, at_q, at_a, lget, lset, lclr, lnon, lnth, spl, shrt, rpush, true_and, and_true, List.set, List.length, Nat.reduceAdd, Nat.reduceLT, Nat.reduceLeDiff, Nat.reduceEqDiff, Nat.reduceSub, o4, q1]
      refine ⟨_, _, e1, ?_⟩
      simp only [qi_push, qi_pushl, qi_iload, qi_lload, qi_aload, qi_istore, qi_astore, qi_lstore, qi_iinc, qi_iadd, qi_isub, qi_imul, qi_iand, qi_ior, qi_ixor, qi_ishl, qi_ishr, qi_iushr, qi_idiv, qi_irem, qi_lor, qi_lmul, qi_ladd, qi_lsub, qi_land, qi_lshl, qi_lshr, qi_i2l, qi_l2i, qi_i2c, qi_lcmp, qi_dup, qi_dup2, qi_pop, qi_if_eq, qi_icmp_eq, qi_if_ne, qi_icmp_ne, qi_if_lt, qi_icmp_lt, qi_if_ge, qi_icmp_ge, qi_if_gt, qi_icmp_gt, qi_if_le, qi_icmp_le, qi_sw, qi_get, qi_put, qi_iald, qi_lald, qi_aald, qi_iast, qi_zast, qi_cast, qi_last, qi_aast, qi_alen, qi_new, qi_newa, qi_newq, qi_obj, qi_invS, qi_invV, qi_invI, qi_iret, qi_zret, qi_lret, qi_vret, qi_acopy, qi_max, qi_min, at_o, at_i, at_l, at_q, at_a, lget, lset, lclr, lnon, lnth, spl, shrt, rpush, true_and, and_true, List.set, List.length, Nat.reduceAdd, Nat.reduceLT, Nat.reduceLeDiff, Nat.reduceEqDiff, Nat.reduceSub, o5, o6]
      refine ⟨_, _, c_P_highestFloor p2 hw hC hC0, ?_⟩
      simp only [qi_push, qi_pushl, qi_iload, qi_lload, qi_aload, qi_istore, qi_astore, qi_lstore, qi_iinc, qi_iadd, qi_isub, qi_imul, qi_iand, qi_ior, qi_ixor, qi_ishl, qi_ishr, qi_iushr, qi_idiv, qi_irem, qi_lor, qi_lmul, qi_ladd, qi_lsub, qi_land, qi_lshl, qi_lshr, qi_i2l, qi_l2i, qi_i2c, qi_lcmp, qi_dup, qi_dup2, qi_pop, qi_if_eq, qi_icmp_eq, qi_if_ne, qi_icmp_ne, qi_if_lt, qi_icmp_lt, qi_if_ge, qi_icmp_ge, qi_if_gt, qi_icmp_gt, qi_if_le, qi_icmp_le, qi_sw, qi_get, qi_put, qi_iald, qi_lald, qi_aald, qi_iast, qi_zast, qi_cast, qi_last, qi_aast, qi_alen, qi_new, qi_newa, qi_newq, qi_obj, qi_invS, qi_invV, qi_invI, qi_iret, qi_zret, qi_lret, qi_vret, qi_acopy, qi_max, qi_min, at_o, at_i, at_l, at_q, at_a, lget, lset, lclr, lnon, lnth, spl, shrt, rpush, true_and, and_true, List.set, List.length, Nat.reduceAdd, Nat.reduceLT, Nat.reduceLeDiff, Nat.reduceEqDiff, Nat.reduceSub, o5, o6, q2]
      refine ⟨_, _, f1, ?_⟩
      simp only [qi_push, qi_pushl, qi_iload, qi_lload, qi_aload, qi_istore, qi_astore, qi_lstore, qi_iinc, qi_iadd, qi_isub, qi_imul, qi_iand, qi_ior, qi_ixor, qi_ishl, qi_ishr, qi_iushr, qi_idiv, qi_irem, qi_lor, qi_lmul, qi_ladd, qi_lsub, qi_land, qi_lshl, qi_lshr, qi_i2l, qi_l2i, qi_i2c, qi_lcmp, qi_dup, qi_dup2, qi_pop, qi_if_eq, qi_icmp_eq, qi_if_ne, qi_icmp_ne, qi_if_lt, qi_icmp_lt, qi_if_ge, qi_icmp_ge, qi_if_gt, qi_icmp_gt, qi_if_le, qi_icmp_le, qi_sw, qi_get, qi_put, qi_iald, qi_lald, qi_aald, qi_iast, qi_zast, qi_cast, qi_last, qi_aast, qi_alen, qi_new, qi_newa, qi_newq, qi_obj, qi_invS, qi_invV, qi_invI, qi_iret, qi_zret, qi_lret, qi_vret, qi_acopy, qi_max, qi_min, at_o, at_i, at_l, at_q, at_a, lget, lset, lclr, lnon, lnth, spl, shrt, rpush, true_and, and_true, List.set, List.length, Nat.reduceAdd, Nat.reduceLT, Nat.reduceLeDiff, Nat.reduceEqDiff, Nat.reduceSub, o7, hs_eq, hs_hs, eh4, o8, q4]
      refine ⟨hc_fit_i, hc_fit_i, fun z => k1 z, fun z => ?_⟩
      obtain ⟨h5, x1, ⟨fs, x2⟩, x3, a, b, x4, x5, h6, x6, x7⟩ := k2 z
      refine ⟨_, _, x1, ?_⟩
      simp only [qi_push, qi_pushl, qi_iload, qi_lload, qi_aload, qi_istore, qi_astore, qi_lstore, qi_iinc, qi_iadd, qi_isub, qi_imul, qi_iand, qi_ior, qi_ixor, qi_ishl, qi_ishr, qi_iushr, qi_idiv, qi_irem, qi_lor, qi_lmul, qi_ladd, qi_lsub, qi_land, qi_lshl, qi_lshr, qi_i2l, qi_l2i, qi_i2c, qi_lcmp, qi_dup, qi_dup2, qi_pop, qi_if_eq, qi_icmp_eq, qi_if_ne, qi_icmp_ne, qi_if_lt, qi_icmp_lt, qi_if_ge, qi_icmp_ge, qi_if_gt, qi_icmp_gt, qi_if_le, qi_icmp_le, qi_sw, qi_get, qi_put, qi_iald, qi_lald, qi_aald, qi_iast, qi_zast, qi_cast, qi_last, qi_aast, qi_alen, qi_new, qi_newa, qi_newq, qi_obj, qi_invS, qi_invV, qi_invI, qi_iret, qi_zret, qi_lret, qi_vret, qi_acopy, qi_max, qi_min, at_o, at_i, at_l, at_q, at_a, lget, lset, lclr, lnon, lnth, spl, shrt, rpush, true_and, and_true, List.set, List.length, Nat.reduceAdd, Nat.reduceLT, Nat.reduceLeDiff, Nat.reduceEqDiff, Nat.reduceSub, x2, x3, o8]
      refine ⟨_, _, x4, ?_⟩
      have x8 : (hc_set h5 y (.inr (4, [.ref p, .ref q, .ref ln', .int (nI 1), .int (nI 0), .int (nI bo), .int r, .int a, .long (lN bp), .ref (y + 1), .ref (y + 2), .int (nI bc)]))).1 ln' = some (.inr (0, fs)) := by rw [hs_ne _ _ (by omega)]; exact x2
      have x9 : (hc_set h5 y (.inr (4, [.ref p, .ref q, .ref ln', .int (nI 1), .int (nI 0), .int (nI bo), .int r, .int a, .long b, .ref (y + 1), .ref (y + 2), .int (nI bc)]))).1 ln' = some (.inr (0, fs)) := by rw [hs_ne _ _ (by omega)]; exact x2
      simp only [qi_push, qi_pushl, qi_iload, qi_lload, qi_aload, qi_istore, qi_astore, qi_lstore, qi_iinc, qi_iadd, qi_isub, qi_imul, qi_iand, qi_ior, qi_ixor, qi_ishl, qi_ishr, qi_iushr, qi_idiv, qi_irem, qi_lor, qi_lmul, qi_ladd, qi_lsub, qi_land, qi_lshl, qi_lshr, qi_i2l, qi_l2i, qi_i2c, qi_lcmp, qi_dup, qi_dup2, qi_pop, qi_if_eq, qi_icmp_eq, qi_if_ne, qi_icmp_ne, qi_if_lt, qi_icmp_lt, qi_if_ge, qi_icmp_ge, qi_if_gt, qi_icmp_gt, qi_if_le, qi_icmp_le, qi_sw, qi_get, qi_put, qi_iald, qi_lald, qi_aald, qi_iast, qi_zast, qi_cast, qi_last, qi_aast, qi_alen, qi_new, qi_newa, qi_newq, qi_obj, qi_invS, qi_invV, qi_invI, qi_iret, qi_zret, qi_lret, qi_vret, qi_acopy, qi_max, qi_min, at_o, at_i, at_l, at_q, at_a, lget, lset, lclr, lnon, lnth, spl, shrt, rpush, true_and, and_true, List.set, List.length, Nat.reduceAdd, Nat.reduceLT, Nat.reduceLeDiff, Nat.reduceEqDiff, Nat.reduceSub, x3, o8, hs_eq, x8]
      refine ⟨hc_fit_i, _, _, x5, ?_⟩
      simp only [qi_push, qi_pushl, qi_iload, qi_lload, qi_aload, qi_istore, qi_astore, qi_lstore, qi_iinc, qi_iadd, qi_isub, qi_imul, qi_iand, qi_ior, qi_ixor, qi_ishl, qi_ishr, qi_iushr, qi_idiv, qi_irem, qi_lor, qi_lmul, qi_ladd, qi_lsub, qi_land, qi_lshl, qi_lshr, qi_i2l, qi_l2i, qi_i2c, qi_lcmp, qi_dup, qi_dup2, qi_pop, qi_if_eq, qi_icmp_eq, qi_if_ne, qi_icmp_ne, qi_if_lt, qi_icmp_lt, qi_if_ge, qi_icmp_ge, qi_if_gt, qi_icmp_gt, qi_if_le, qi_icmp_le, qi_sw, qi_get, qi_put, qi_iald, qi_lald, qi_aald, qi_iast, qi_zast, qi_cast, qi_last, qi_aast, qi_alen, qi_new, qi_newa, qi_newq, qi_obj, qi_invS, qi_invV, qi_invI, qi_iret, qi_zret, qi_lret, qi_vret, qi_acopy, qi_max, qi_min, at_o, at_i, at_l, at_q, at_a, lget, lset, lclr, lnon, lnth, spl, shrt, rpush, true_and, and_true, List.set, List.length, Nat.reduceAdd, Nat.reduceLT, Nat.reduceLeDiff, Nat.reduceEqDiff, Nat.reduceSub, hs_eq, hs_hs, x9]
      refine ⟨hc_fit_l, _, _, x6, ?_⟩
      simp only [qi_push, qi_pushl, qi_iload, qi_lload, qi_aload, qi_istore, qi_astore, qi_lstore, qi_iinc, qi_iadd, qi_isub, qi_imul, qi_iand, qi_ior, qi_ixor, qi_ishl, qi_ishr, qi_iushr, qi_idiv, qi_irem, qi_lor, qi_lmul, qi_ladd, qi_lsub, qi_land, qi_lshl, qi_lshr, qi_i2l, qi_l2i, qi_i2c, qi_lcmp, qi_dup, qi_dup2, qi_pop, qi_if_eq, qi_icmp_eq, qi_if_ne, qi_icmp_ne, qi_if_lt, qi_icmp_lt, qi_if_ge, qi_icmp_ge, qi_if_gt, qi_icmp_gt, qi_if_le, qi_icmp_le, qi_sw, qi_get, qi_put, qi_iald, qi_lald, qi_aald, qi_iast, qi_zast, qi_cast, qi_last, qi_aast, qi_alen, qi_new, qi_newa, qi_newq, qi_obj, qi_invS, qi_invV, qi_invI, qi_iret, qi_zret, qi_lret, qi_vret, qi_acopy, qi_max, qi_min, at_o, at_i, at_l, at_q, at_a, lget, lset, lclr, lnon, lnth, spl, shrt, rpush, true_and, and_true, List.set, List.length, Nat.reduceAdd, Nat.reduceLT, Nat.reduceLeDiff, Nat.reduceEqDiff, Nat.reduceSub]
      exact x7
    by_cases w : r = -4
    · refine ⟨hc_set h4 y (styO y p q ln' 1 1 bo r 0 bp bc), r, 0, bp, H, start _ (fun _ => ?_) (fun z => absurd w z), ⟨ln', N', 1, y4.setO, Nat.le_refl _, _, _, _, _, _, _, n4.hs (b := y) (by omega), lG, fun _ => ⟨rfl, rfl, d6, lM⟩⟩, ?_, fr4.trans (frm.toW (a := y) (k := 1) (frm.rfl'.set (by omega)) (by omega))⟩
      · simp only [vc_Y_solve_98, qi_push, qi_pushl, qi_iload, qi_lload, qi_aload, qi_istore, qi_astore, qi_lstore, qi_iinc, qi_iadd, qi_isub, qi_imul, qi_iand, qi_ior, qi_ixor, qi_ishl, qi_ishr, qi_iushr, qi_idiv, qi_irem, qi_lor, qi_lmul, qi_ladd, qi_lsub, qi_land, qi_lshl, qi_lshr, qi_i2l, qi_l2i, qi_i2c, qi_lcmp, qi_dup, qi_dup2, qi_pop, qi_if_eq, qi_icmp_eq, qi_if_ne, qi_icmp_ne, qi_if_lt, qi_icmp_lt, qi_if_ge, qi_icmp_ge, qi_if_gt, qi_icmp_gt, qi_if_le, qi_icmp_le, qi_sw, qi_get, qi_put, qi_iald, qi_lald, qi_aald, qi_iast, qi_zast, qi_cast, qi_last, qi_aast, qi_alen, qi_new, qi_newa, qi_newq, qi_obj, qi_invS, qi_invV, qi_invI, qi_iret, qi_zret, qi_lret, qi_vret, qi_acopy, qi_max, qi_min, at_o, at_i, at_l, at_q, at_a, lget, lset, lclr, lnon, lnth, spl, shrt, rpush, true_and, and_true, List.set, List.length, Nat.reduceAdd, Nat.reduceLT, Nat.reduceLeDiff, Nat.reduceEqDiff, Nat.reduceSub, o8]
        exact hc_fit_o
      · refine ⟨F 7, G 1, fun s hs => ⟨d5.2.1 s hs, (d5.1 s hs).2.2.2.2⟩, f4, fun _ => rfl, fun z => absurd w z⟩
    · obtain ⟨K', k1, k2, k3, k4⟩ := f6 w
      have hG1 : ∀ s, s ≤ 2 ^ n - 1 → G 1 s < 2 ^ 48 := fun s hs => by rw [(d5.1 s (by omega)).2.2.2.2]; exact spn_lt s n hn12
      obtain ⟨h5, t1, t2, t3⟩ := c_L_traceBest n4 b3 (by omega) lG.2.1 lG.2.2.1 hG1 f5
      have tb := trc_b (l := l) (ne := F 7) (sp := G 1) (pl0 := G 0) (show 2 ^ n - 1 < 4096 by omega) lG.2.2.1 hG1 (2 ^ n - 1)
      have y5 := y4.keep t2 (by omega)
      obtain ⟨tr, etr⟩ : ∃ x, trc (2 ^ n - 1) l (F 7) (G 1) (G 0) (2 ^ n - 1) = x := ⟨_, rfl⟩
      have t3 : isLn h5 ln' N' 0 (2 ^ n - 1) (nI C) us (va_up (va_up (va_up (va_up F 2 (fun _ => 0)) 8 l) 9 tr.1) 1 tr.2.2) (va_up G 0 tr.2.1) := by rw [← etr]; exact t3
      rw [etr] at tb
      have G5 : lnG (va_up (va_up (va_up (va_up F 2 (fun _ => 0)) 8 l) 9 tr.1) 1 tr.2.2) (va_up G 0 tr.2.1) := by
        refine ⟨lG.1, up_le (up_le lG.2.1 (fun s => Nat.le_trans (tb.1 s) (by omega))) (fun s => by have := tb.2.2 s; omega), tb.2.1, lG.2.2.2.1, lG.2.2.2.2⟩
      have M5 : lnM n C T B A J us (va_up (va_up (va_up (va_up F 2 (fun _ => 0)) 8 l) 9 tr.1) 1 tr.2.2) (va_up G 0 tr.2.1) := d5
      have y6 : isY (hc_set h5 y (styO y p q ln' 1 0 bo r (tr.1 0) (tr.2.1 0) bc)) y p q z0 sl ln' N' 1 0 bo r (tr.1 0) (tr.2.1 0) bc H K := y5.setO
      have n6 := t3.hs (b := y) (e := styO y p q ln' 1 0 bo r (tr.1 0) (tr.2.1 0) bc) (by omega)
      have n6' := t3.hs (b := y) (e := styO y p q ln' 1 0 bo r (tr.1 0) bp bc) (by omega)
      have y7 := y6.setH (f := tr.2.2)
      have n7 := n6.hs (b := y + 1) (e := .inl (0, 13, .inl (fun j => nI (tr.2.2 j)))) (by omega)
      have o9 := y7.1
      have fr7 : frW h5 (hc_set (hc_set (hc_set h5 y (styO y p q ln' 1 0 bo r (tr.1 0) (tr.2.1 0) bc)) (y + 1) (.inl (0, 13, .inl (fun j => nI (tr.2.2 j))))) y (styO y p q ln' 1 1 bo r (tr.1 0) (tr.2.1 0) bc)) y z0 := frm.toW (a := y) (k := 2) (((frm.rfl'.set (by omega)).set (by omega)).set (by omega)) (by omega)
      refine ⟨_, r, tr.1 0, tr.2.1 0, tr.2.2, start _ (fun z => absurd z w) (fun _ => ⟨h5, t1, ⟨_, t3.1⟩, t2.2 _ (by omega), nI (tr.1 0), lN (tr.2.1 0), c_L_lineCount t3 b3 (by omega), c_L_bestPlaces n6' b3 (by omega), _, c_L_copyHeldAt n6 y6.2.1, ?_⟩), ⟨ln', N', 1, y7.setO, Nat.le_refl _, _, _, _, _, _, _, n7.hs (b := y) (by omega), G5, fun _ => ⟨rfl, rfl, d6, M5⟩⟩, ?_, (fr4.trans (t2.toW (by omega))).trans fr7⟩
      · have o9' : (hc_set (hc_set h5 y (styO y p q ln' 1 0 bo r (tr.1 0) (tr.2.1 0) bc)) (y + 1) (.inl (0, 13, .inl (fun j => nI (va_up (va_up (va_up (va_up F 2 (fun _ => 0)) 8 l) 9 tr.1) 1 tr.2.2 1 j))))).1 y = some (styO y p q ln' 1 0 bo r (tr.1 0) (tr.2.1 0) bc) := o9
        simp only [vc_Y_solve_98, qi_push, qi_pushl, qi_iload, qi_lload, qi_aload, qi_istore, qi_astore, qi_lstore, qi_iinc, qi_iadd, qi_isub, qi_imul, qi_iand, qi_ior, qi_ixor, qi_ishl, qi_ishr, qi_iushr, qi_idiv, qi_irem, qi_lor, qi_lmul, qi_ladd, qi_lsub, qi_land, qi_lshl, qi_lshr, qi_i2l, qi_l2i, qi_i2c, qi_lcmp, qi_dup, qi_dup2, qi_pop, qi_if_eq, qi_icmp_eq, qi_if_ne, qi_icmp_ne, qi_if_lt, qi_icmp_lt, qi_if_ge, qi_icmp_ge, qi_if_gt, qi_icmp_gt, qi_if_le, qi_icmp_le, qi_sw, qi_get, qi_put, qi_iald, qi_lald, qi_aald, qi_iast, qi_zast, qi_cast, qi_last, qi_aast, qi_alen, qi_new, qi_newa, qi_newq, qi_obj, qi_invS, qi_invV, qi_invI, qi_iret, qi_zret, qi_lret, qi_vret, qi_acopy, qi_max, qi_min, at_o, at_i, at_l, at_q, at_a, lget, lset, lclr, lnon, lnth, spl, shrt, rpush, true_and, and_true, List.set, List.length, Nat.reduceAdd, Nat.reduceLT, Nat.reduceLeDiff, Nat.reduceEqDiff, Nat.reduceSub, o9']
        exact ⟨hc_fit_o, rfl⟩
      · refine ⟨F 7, G 1, fun s hs => ⟨d5.2.1 s hs, (d5.1 s hs).2.2.2.2⟩, f4, fun z => absurd z w, fun _ => ⟨K', l, G 0, k1, k2, k3, k4, by rw [etr], by rw [etr], by rw [etr], tb.1 0, tb.2.1 0, tb.2.2⟩⟩
end ST
