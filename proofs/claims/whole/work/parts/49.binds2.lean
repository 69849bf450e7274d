/-! STUDY: all orders that bind; the constructor. -/
theorem dec_c (P : Prop) : ∃ b : Bool, b = true ↔ P := by
  by_cases h : P
  · exact ⟨true, fun _ => h, fun _ => rfl⟩
  · exact ⟨false, fun z => (by cases z), fun z => absurd z h⟩
theorem bndS_ex {n m C : Nat} {T B A J : Nat → Nat} : ∃ P : Nat → Nat → Bool, ∀ a b, P a b = true ↔ (B b).testBit a = true ∧ linC n T (va_up B b (sdf (B b) (2 ^ a))) A J m C :=
  ⟨fun a b => Classical.choose (dec_c ((B b).testBit a = true ∧ linC n T (va_up B b (sdf (B b) (2 ^ a))) A J m C)), fun _ _ => Classical.choose_spec (dec_c _)⟩
section ST
variable {h : hc_H} {y p q z0 sl ln N me so bo lc bp bc n C : Nat} {st : Int32} {H K T B A J S : Nat → Nat}
theorem SI.setO {so' bo' lc' bp' bc' : Nat} {st' : Int32} (hl : layY p q y z0) (hS : SI h y p q z0 sl n C T B A J so bo st lc bp bc H K) : ∃ ln me fs, h.1 y = some (styO y p q ln me so bo st lc bp bc) ∧ fs = styO y p q ln me so' bo' st' lc' bp' bc' ∧ SI (hc_set h y fs) y p q z0 sl n C T B A J so' bo' st' lc' bp' bc' H K ∧ frW h (hc_set h y fs) y z0 := by
  obtain ⟨ln, N, me, hy, hm1, fx, wh, c, us, F, G, h1, h2, h3⟩ := hS
  obtain ⟨b1, b2, b3⟩ := hy.le hl
  exact ⟨ln, me, _, hy.1, rfl, ⟨ln, N, me, hy.setO, hm1, fx, wh, c, us, F, G, h1.hs (by omega), h2, h3⟩, frm.toW (a := y) (k := 1) (frm.rfl'.set (by omega)) (by omega)⟩
theorem isQ.keepW {h' : hc_H} (hl : layY p q y z0) (hq : isQ h q) (f : frW h h' y z0) : isQ h' q := by
  obtain ⟨l1, l2, l3⟩ := hl
  obtain ⟨n, c, T, B, A, J, S, h1⟩ := hq
  exact ⟨n, c, T, B, A, J, S, h1.keepW f (by omega) (by omega)⟩
set_option maxRecDepth 8000 in
theorem c_Y_findBindings (hl : layY p q y z0) (hS : SI h y p q z0 sl n C T B A J so bo st lc bp bc H K) (hso : so ≤ 1) (hbo : bo ≤ 1) (hsv : so = 1 → slv n C T B A J st lc bp H) (hbv : bo = 1 → so = 1 ∧ ∃ P, bndS n C T B A J P ∧ isBL bc K (blist P n n) ∧ (blist P n n).length ≤ 66) (hq : isQ h q) (hr : isPl h p n (nI C) T B A J S) (hw : pw n T B A J S) (hC : C < 1000) (hC0 : 0 < C) (hn : 1 ≤ n) (hB : ∀ a b, a < n → b < n → (B b).testBit a = true → ¬ (B a).testBit b = true) :
    ∃ h' st' lc' bp' bc' H' K' P, MA M_Y_findBindings [.ref y] h none h' ∧ SI h' y p q z0 sl n C T B A J 1 1 st' lc' bp' bc' H' K' ∧ slv n C T B A J st' lc' bp' H' ∧ (bndS n C T B A J P ∧ isBL bc' K' (blist P n n) ∧ (blist P n n).length ≤ 66) ∧ frY h h' q y z0 ∧ isQ h' q := by
  obtain ⟨l1, l2, l3⟩ := id hl
  have hn12 := hw.1
  rcases (show bo = 1 ∨ bo = 0 by omega) with rfl | rfl
  · obtain ⟨rfl, P, hP⟩ := hbv rfl
    obtain ⟨ln, N, me, hy, -⟩ := id hS
    have o1 := hy.1
    refine ⟨h, st, lc, bp, bc, H, K, P, MX.of (lv := [some (.ref y), none, none, none]) 3 rfl (by decide) (Nat.le_of_ble_eq_true rfl) (sn_Y_findBindings_0 _ _ _ ?_), hS, hsv rfl, hP, frY.rfl', hq⟩
    simp only [vc_Y_findBindings_0, qi_push, qi_pushl, qi_iload, qi_lload, qi_aload, qi_istore, qi_astore, qi_lstore, qi_iinc, qi_iadd, qi_isub, qi_imul, qi_iand, qi_ior, qi_ixor, qi_ishl, qi_ishr, qi_iushr, qi_idiv, qi_irem, qi_lor, qi_lmul, qi_ladd, qi_lsub, qi_land, qi_lshl, qi_lshr, qi_i2l, qi_l2i, qi_i2c, qi_lcmp, qi_dup, qi_dup2, qi_pop, qi_if_eq, qi_icmp_eq, qi_if_ne, qi_icmp_ne, qi_if_lt, qi_icmp_lt, qi_if_ge, qi_icmp_ge, qi_if_gt, qi_icmp_gt, qi_if_le, qi_icmp_le, qi_sw, qi_get, qi_put, qi_iald, qi_lald, qi_aald, qi_iast, qi_zast, qi_cast, qi_last, qi_aast, qi_alen, qi_new, qi_newa, qi_newq, qi_obj, qi_invS, qi_invV, qi_invI, qi_iret, qi_zret, qi_lret, qi_vret, qi_acopy, qi_max, qi_min, at_o, at_i, at_l, at_q, at_a, lget, lset, lclr, lnon, lnth, spl, shrt, rpush, true_and, and_true, List.set, List.length, Nat.reduceAdd, Nat.reduceLT, Nat.reduceLeDiff, Nat.reduceEqDiff, Nat.reduceSub, o1]
    exact ⟨fun z => absurd z (by decide), fun _ => trivial⟩
  · obtain ⟨h1, st1, lc1, bp1, H1, c1, c2, c3, c4⟩ := c_Y_solve hl hS hso hsv hr hw hC hC0 hn
    have hmin := slv_min hn12 c3
    -- how many stations there may be
    obtain ⟨m, hm12, hms, hmm⟩ : ∃ m, m ≤ n ∧ ((m = n ∧ ∀ k, k ≤ n → ¬ lin n C T B A J k) ∨ (lin n C T B A J (m + 1) ∧ ∀ j, j ≤ m → ¬ lin n C T B A J j)) ∧ ((st1 = -4 ∧ m = n) ∨ (st1 ≠ -4 ∧ st1 - nI 1 = nI m)) := by
      rcases hmin with ⟨k, k1, k2, k3, k4⟩ | ⟨k1, k2⟩
      · have k0 : ¬ k = 0 := by
          intro z
          rw [z] at k2
          have : 2 ^ n - 1 = 0 := k2
          have : 2 ^ 1 ≤ 2 ^ n := Nat.pow_le_pow_right (by omega) hn
          omega
        refine ⟨k - 1, by omega, Or.inr ⟨by rw [show k - 1 + 1 = k by omega]; exact k2, fun j hj => k3 j (by omega)⟩, Or.inr ⟨?_, ?_⟩⟩
        · rw [k4]
          intro z
          have := congrArg Int32.toInt z
          rw [nI_toInt (by omega), show (-4 : Int32).toInt = -4 by decide] at this
          omega
        · rw [k4, pk_sub (by omega)]
      · exact ⟨n, Nat.le_refl _, Or.inl ⟨rfl, k1⟩, Or.inl ⟨k2, rfl⟩⟩
    obtain ⟨P, hP⟩ := bndS_ex (n := n) (m := m) (C := C) (T := T) (B := B) (A := A) (J := J)
    have hb : bndS n C T B A J P := ⟨m, hm12, hms, fun a b _ _ => hP a b⟩
    have h66 : (blist P n n).length ≤ 66 := blist_66 hn12 (fun a b ha hb z1 z2 => hB a b ha hb ((hP a b).mp z1).1 ((hP b a).mp z2).1)
    let Z : hc_H → Nat → (Nat → Nat) → Prop := fun h' bc' K' => SI h' y p q z0 sl n C T B A J 1 1 st1 lc1 bp1 bc' H1 K' ∧ isBL bc' K' (blist P n n) ∧ frY h h' q y z0 ∧ isQ h' q
    have outer := lp_up (P := fun a => ∀ h2 bc2 K2, SI h2 y p q z0 sl n C T B A J 1 0 st1 lc1 bp1 bc2 H1 K2 → isBL bc2 K2 (blist P n a) → frY h h2 q y z0 → isQ h2 q → ∃ h' bc' K', Z h' bc' K' ∧ ∀ o3, cx hc_tt M_Y_findBindings h h' none 45 [some (.ref y), some (.int (nI m)), some (.int (nI a)), o3] [] h2) (n := n)
      (by intro h2 bc2 K2 j1 j2 j3 j4
          obtain ⟨ln, me, fs, k1, k2, k3, k4⟩ := j1.setO (so' := 1) (bo' := 1) (lc' := lc1) (bp' := bp1) (bc' := bc2) (st' := st1) hl
          have o2 := (hr.keepY j3 (by omega) (by omega) (by omega)).1
          refine ⟨hc_set h2 y fs, bc2, K2, ⟨k3, j2, j3.trans k4.toY, j4.keepW hl k4⟩, fun o3 => sn_Y_findBindings_45 _ _ _ ?_⟩
          simp only [vc_Y_findBindings_45, vc_Y_findBindings_113, qi_push, qi_pushl, qi_iload, qi_lload, qi_aload, qi_istore, qi_astore, qi_lstore, qi_iinc, qi_iadd, qi_isub, qi_imul, qi_iand, qi_ior, qi_ixor, qi_ishl, qi_ishr, qi_iushr, qi_idiv, qi_irem, qi_lor, qi_lmul, qi_ladd, qi_lsub, qi_land, qi_lshl, qi_lshr, qi_i2l, qi_l2i, qi_i2c, qi_lcmp, qi_dup, qi_dup2, qi_pop, qi_if_eq, qi_icmp_eq, qi_if_ne, qi_icmp_ne, qi_if_lt, qi_icmp_lt, qi_if_ge, qi_icmp_ge, qi_if_gt, qi_icmp_gt, qi_if_le, qi_icmp_le, qi_sw, qi_get, qi_put, qi_iald, qi_lald, qi_aald, qi_iast, qi_zast, qi_cast, qi_last, qi_aast, qi_alen, qi_new, qi_newa, qi_newq, qi_obj, qi_invS, qi_invV, qi_invI, qi_iret, qi_zret, qi_lret, qi_vret, qi_acopy, qi_max, qi_min, at_o, at_i, at_l, at_q, at_a, lget, lset, lclr, lnon, lnth, spl, shrt, rpush, true_and, and_true, List.set, List.length, Nat.reduceAdd, Nat.reduceLT, Nat.reduceLeDiff, Nat.reduceEqDiff, Nat.reduceSub, k1, o2, k2]
          exact ⟨fun _ => hc_fit_o, fun z => absurd (nI_le (Nat.le_refl _) (by omega)) z⟩)
      (fun a ha iha h2 bc2 K2 j1 j2 j3 j4 => by
          have inner := lp_up (P := fun b => ∀ h3 bc3 K3, SI h3 y p q z0 sl n C T B A J 1 0 st1 lc1 bp1 bc3 H1 K3 → isBL bc3 K3 (blist P n a ++ brow P a b) → frY h h3 q y z0 → isQ h3 q → ∃ h' bc' K', Z h' bc' K' ∧ cx hc_tt M_Y_findBindings h h' none 58 [some (.ref y), some (.int (nI m)), some (.int (nI a)), some (.int (nI b))] [] h3) (n := n)
            (by intro h3 bc3 K3 i1 i2 i3 i4
                obtain ⟨h', bc', K', z1, z2⟩ := iha h3 bc3 K3 i1 i2 i3 i4
                refine ⟨h', bc', K', z1, sn_Y_findBindings_58 _ _ _ ?_⟩
                obtain ⟨ln, N, me, y3, -⟩ := id i1
                have o1 := y3.1
                have o2 := (hr.keepY i3 (by omega) (by omega) (by omega)).1
                simp only [vc_Y_findBindings_58, vc_Y_findBindings_107, qi_push, qi_pushl, qi_iload, qi_lload, qi_aload, qi_istore, qi_astore, qi_lstore, qi_iinc, qi_iadd, qi_isub, qi_imul, qi_iand, qi_ior, qi_ixor, qi_ishl, qi_ishr, qi_iushr, qi_idiv, qi_irem, qi_lor, qi_lmul, qi_ladd, qi_lsub, qi_land, qi_lshl, qi_lshr, qi_i2l, qi_l2i, qi_i2c, qi_lcmp, qi_dup, qi_dup2, qi_pop, qi_if_eq, qi_icmp_eq, qi_if_ne, qi_icmp_ne, qi_if_lt, qi_icmp_lt, qi_if_ge, qi_icmp_ge, qi_if_gt, qi_icmp_gt, qi_if_le, qi_icmp_le, qi_sw, qi_get, qi_put, qi_iald, qi_lald, qi_aald, qi_iast, qi_zast, qi_cast, qi_last, qi_aast, qi_alen, qi_new, qi_newa, qi_newq, qi_obj, qi_invS, qi_invV, qi_invI, qi_iret, qi_zret, qi_lret, qi_vret, qi_acopy, qi_max, qi_min, at_o, at_i, at_l, at_q, at_a, lget, lset, lclr, lnon, lnth, spl, shrt, rpush, true_and, and_true, List.set, List.length, Nat.reduceAdd, Nat.reduceLT, Nat.reduceLeDiff, Nat.reduceEqDiff, Nat.reduceSub, o1, o2]
                rw [nI_add]
                exact ⟨fun _ => z2 _, fun z => absurd (nI_le (Nat.le_refl _) (by omega)) z⟩)
            (fun b hb9 ihb h3 bc3 K3 i1 i2 i3 i4 => by
                obtain ⟨ln, N, me, y3, -⟩ := id i1
                have p3 := hr.keepY i3 (by omega) (by omega) (by omega)
                have o1 := y3.1
                have o2 := p3.1
                have eB : brow P a (b + 1) = brow P a b ++ if P a b then [100 * a + b] else [] := rfl
                -- up to the question whether it binds
                have pre : ∀ h', ((B b).testBit a = false → vc_Y_findBindings_101 none h' (cx hc_tt M_Y_findBindings h h' none) [some (.ref y), some (.int (nI m)), some (.int (nI a)), some (.int (nI b))] [] h3) → ((B b).testBit a = true → ∃ h4, ∃ r : Bool, MA M_Y_isBinding [.ref y, .int (nI a), .int (nI b), .int (nI m)] h3 (some (.int (nI r.toNat))) h4 ∧ (r = false → vc_Y_findBindings_101 none h' (cx hc_tt M_Y_findBindings h h' none) [some (.ref y), some (.int (nI m)), some (.int (nI a)), some (.int (nI b))] [] h4) ∧ (r = true → (∃ fs, h4.1 y = some (.inr (4, fs))) ∧ ∃ h5, MA M_Y_addBinding [.ref y, .int (nI (100 * a + b))] h4 none h5 ∧ vc_Y_findBindings_101 none h' (cx hc_tt M_Y_findBindings h h' none) [some (.ref y), some (.int (nI m)), some (.int (nI a)), some (.int (nI b))] [] h5)) → cx hc_tt M_Y_findBindings h h' none 58 [some (.ref y), some (.int (nI m)), some (.int (nI a)), some (.int (nI b))] [] h3 := by
                  intro h' k1 k2
                  refine sn_Y_findBindings_58 _ _ _ ?_
                  simp only [vc_Y_findBindings_58, qi_push, qi_pushl, qi_iload, qi_lload, qi_aload, qi_istore, qi_astore, qi_lstore, qi_iinc, qi_iadd, qi_isub, qi_imul, qi_iand, qi_ior, qi_ixor, qi_ishl, qi_ishr, qi_iushr, qi_idiv, qi_irem, qi_lor, qi_lmul, qi_ladd, qi_lsub, qi_land, qi_lshl, qi_lshr, qi_i2l, qi_l2i, qi_i2c, qi_lcmp, qi_dup, qi_dup2, qi_pop, qi_if_eq, qi_icmp_eq, qi_if_ne, qi_icmp_ne, qi_if_lt, qi_icmp_lt, qi_if_ge, qi_icmp_ge, qi_if_gt, qi_icmp_gt, qi_if_le, qi_icmp_le, qi_sw, qi_get, qi_put, qi_iald, qi_lald, qi_aald, qi_iast, qi_zast, qi_cast, qi_last, qi_aast, qi_alen, qi_new, qi_newa, qi_newq, qi_obj, qi_invS, qi_invV, qi_invI, qi_iret, qi_zret, qi_lret, qi_vret, qi_acopy, qi_max, qi_min, at_o, at_i, at_l, at_q, at_a, lget, lset, lclr, lnon, lnth, spl, shrt, rpush, true_and, and_true, List.set, List.length, Nat.reduceAdd, Nat.reduceLT, Nat.reduceLeDiff, Nat.reduceEqDiff, Nat.reduceSub, o1, o2]
                  refine ⟨fun z => absurd z (nI_ge hb9 (by omega)), fun _ => ⟨_, _, c_P_isBehind p3 hw (by omega) (by omega), ?_⟩⟩
                  simp only [qi_push, qi_pushl, qi_iload, qi_lload, qi_aload, qi_istore, qi_astore, qi_lstore, qi_iinc, qi_iadd, qi_isub, qi_imul, qi_iand, qi_ior, qi_ixor, qi_ishl, qi_ishr, qi_iushr, qi_idiv, qi_irem, qi_lor, qi_lmul, qi_ladd, qi_lsub, qi_land, qi_lshl, qi_lshr, qi_i2l, qi_l2i, qi_i2c, qi_lcmp, qi_dup, qi_dup2, qi_pop, qi_if_eq, qi_icmp_eq, qi_if_ne, qi_icmp_ne, qi_if_lt, qi_icmp_lt, qi_if_ge, qi_icmp_ge, qi_if_gt, qi_icmp_gt, qi_if_le, qi_icmp_le, qi_sw, qi_get, qi_put, qi_iald, qi_lald, qi_aald, qi_iast, qi_zast, qi_cast, qi_last, qi_aast, qi_alen, qi_new, qi_newa, qi_newq, qi_obj, qi_invS, qi_invV, qi_invI, qi_iret, qi_zret, qi_lret, qi_vret, qi_acopy, qi_max, qi_min, at_o, at_i, at_l, at_q, at_a, lget, lset, lclr, lnon, lnth, spl, shrt, rpush, true_and, and_true, List.set, List.length, Nat.reduceAdd, Nat.reduceLT, Nat.reduceLeDiff, Nat.reduceEqDiff, Nat.reduceSub, o1]
                  rw [nb_eq0]
                  refine ⟨fun z => k1 z, fun z => ?_⟩
                  have z : (B b).testBit a = true := by cases q9 : (B b).testBit a; exact absurd q9 z; rfl
                  obtain ⟨h4, r, x1, x2, x3⟩ := k2 z
                  refine ⟨_, _, x1, ?_⟩
                  simp only [qi_push, qi_pushl, qi_iload, qi_lload, qi_aload, qi_istore, qi_astore, qi_lstore, qi_iinc, qi_iadd, qi_isub, qi_imul, qi_iand, qi_ior, qi_ixor, qi_ishl, qi_ishr, qi_iushr, qi_idiv, qi_irem, qi_lor, qi_lmul, qi_ladd, qi_lsub, qi_land, qi_lshl, qi_lshr, qi_i2l, qi_l2i, qi_i2c, qi_lcmp, qi_dup, qi_dup2, qi_pop, qi_if_eq, qi_icmp_eq, qi_if_ne, qi_icmp_ne, qi_if_lt, qi_icmp_lt, qi_if_ge, qi_icmp_ge, qi_if_gt, qi_icmp_gt, qi_if_le, qi_icmp_le, qi_sw, qi_get, qi_put, qi_iald, qi_lald, qi_aald, qi_iast, qi_zast, qi_cast, qi_last, qi_aast, qi_alen, qi_new, qi_newa, qi_newq, qi_obj, qi_invS, qi_invV, qi_invI, qi_iret, qi_zret, qi_lret, qi_vret, qi_acopy, qi_max, qi_min, at_o, at_i, at_l, at_q, at_a, lget, lset, lclr, lnon, lnth, spl, shrt, rpush, true_and, and_true, List.set, List.length, Nat.reduceAdd, Nat.reduceLT, Nat.reduceLeDiff, Nat.reduceEqDiff, Nat.reduceSub]
                  rw [nb_eq0, pk_mul, nI_add]
                  refine ⟨fun z => x2 z, fun z => ?_⟩
                  have z : r = true := by cases r; exact absurd rfl z; rfl
                  obtain ⟨⟨fs, x4⟩, h5, x5, x6⟩ := x3 z
                  simp only [qi_push, qi_pushl, qi_iload, qi_lload, qi_aload, qi_istore, qi_astore, qi_lstore, qi_iinc, qi_iadd, qi_isub, qi_imul, qi_iand, qi_ior, qi_ixor, qi_ishl, qi_ishr, qi_iushr, qi_idiv, qi_irem, qi_lor, qi_lmul, qi_ladd, qi_lsub, qi_land, qi_lshl, qi_lshr, qi_i2l, qi_l2i, qi_i2c, qi_lcmp, qi_dup, qi_dup2, qi_pop, qi_if_eq, qi_icmp_eq, qi_if_ne, qi_icmp_ne, qi_if_lt, qi_icmp_lt, qi_if_ge, qi_icmp_ge, qi_if_gt, qi_icmp_gt, qi_if_le, qi_icmp_le, qi_sw, qi_get, qi_put, qi_iald, qi_lald, qi_aald, qi_iast, qi_zast, qi_cast, qi_last, qi_aast, qi_alen, qi_new, qi_newa, qi_newq, qi_obj, qi_invS, qi_invV, qi_invI, qi_iret, qi_zret, qi_lret, qi_vret, qi_acopy, qi_max, qi_min, at_o, at_i, at_l, at_q, at_a, lget, lset, lclr, lnon, lnth, spl, shrt, rpush, true_and, and_true, List.set, List.length, Nat.reduceAdd, Nat.reduceLT, Nat.reduceLeDiff, Nat.reduceEqDiff, Nat.reduceSub, x4]
                  refine ⟨_, _, x5, ?_⟩
                  simp only [qi_push, qi_pushl, qi_iload, qi_lload, qi_aload, qi_istore, qi_astore, qi_lstore, qi_iinc, qi_iadd, qi_isub, qi_imul, qi_iand, qi_ior, qi_ixor, qi_ishl, qi_ishr, qi_iushr, qi_idiv, qi_irem, qi_lor, qi_lmul, qi_ladd, qi_lsub, qi_land, qi_lshl, qi_lshr, qi_i2l, qi_l2i, qi_i2c, qi_lcmp, qi_dup, qi_dup2, qi_pop, qi_if_eq, qi_icmp_eq, qi_if_ne, qi_icmp_ne, qi_if_lt, qi_icmp_lt, qi_if_ge, qi_icmp_ge, qi_if_gt, qi_icmp_gt, qi_if_le, qi_icmp_le, qi_sw, qi_get, qi_put, qi_iald, qi_lald, qi_aald, qi_iast, qi_zast, qi_cast, qi_last, qi_aast, qi_alen, qi_new, qi_newa, qi_newq, qi_obj, qi_invS, qi_invV, qi_invI, qi_iret, qi_zret, qi_lret, qi_vret, qi_acopy, qi_max, qi_min, at_o, at_i, at_l, at_q, at_a, lget, lset, lclr, lnon, lnth, spl, shrt, rpush, true_and, and_true, List.set, List.length, Nat.reduceAdd, Nat.reduceLT, Nat.reduceLeDiff, Nat.reduceEqDiff, Nat.reduceSub]
                  exact x6
                have n101 : ∀ h' h4, cx hc_tt M_Y_findBindings h h' none 58 [some (.ref y), some (.int (nI m)), some (.int (nI a)), some (.int (nI (b + 1)))] [] h4 → vc_Y_findBindings_101 none h' (cx hc_tt M_Y_findBindings h h' none) [some (.ref y), some (.int (nI m)), some (.int (nI a)), some (.int (nI b))] [] h4 := by
                  intro h' h4 k
                  simp only [vc_Y_findBindings_101, qi_push, qi_pushl, qi_iload, qi_lload, qi_aload, qi_istore, qi_astore, qi_lstore, qi_iinc, qi_iadd, qi_isub, qi_imul, qi_iand, qi_ior, qi_ixor, qi_ishl, qi_ishr, qi_iushr, qi_idiv, qi_irem, qi_lor, qi_lmul, qi_ladd, qi_lsub, qi_land, qi_lshl, qi_lshr, qi_i2l, qi_l2i, qi_i2c, qi_lcmp, qi_dup, qi_dup2, qi_pop, qi_if_eq, qi_icmp_eq, qi_if_ne, qi_icmp_ne, qi_if_lt, qi_icmp_lt, qi_if_ge, qi_icmp_ge, qi_if_gt, qi_icmp_gt, qi_if_le, qi_icmp_le, qi_sw, qi_get, qi_put, qi_iald, qi_lald, qi_aald, qi_iast, qi_zast, qi_cast, qi_last, qi_aast, qi_alen, qi_new, qi_newa, qi_newq, qi_obj, qi_invS, qi_invV, qi_invI, qi_iret, qi_zret, qi_lret, qi_vret, qi_acopy, qi_max, qi_min, at_o, at_i, at_l, at_q, at_a, lget, lset, lclr, lnon, lnth, spl, shrt, rpush, true_and, and_true, List.set, List.length, Nat.reduceAdd, Nat.reduceLT, Nat.reduceLeDiff, Nat.reduceEqDiff, Nat.reduceSub]
                  rw [nI_add]
                  exact k
                by_cases w : (B b).testBit a = true
                · obtain ⟨h4, r, x1, x2, x3, x4, x5⟩ := c_Y_isBinding hl i1 i4 p3 hw hC hC0 hn (show a < 12 by omega) (show b < 12 by omega) (show m ≤ 12 by omega)
                  have fr4 := i3.trans x3
                  cases hr9 : r
                  · have np : P a b = false := by
                      cases q9 : P a b
                      · rfl
                      · rw [x5.mpr ((hP a b).mp q9).2] at hr9; cases hr9
                    rw [np] at eB
                    obtain ⟨h', bc', K', z1, z2⟩ := ihb h4 bc3 K3 x2 (by rw [eB]; simpa using i2) fr4 x4
                    exact ⟨h', bc', K', z1, pre h' (fun z => by rw [w] at z; cases z) (fun _ => ⟨h4, r, x1, fun _ => n101 _ _ z2, fun z => by rw [hr9] at z; cases z⟩)⟩
                  · have ip : P a b = true := (hP a b).mpr ⟨w, x5.mp hr9⟩
                    rw [ip] at eB
                    obtain ⟨ln4, N4, me4, y4, m4, fx4, wh4, cc4, us4, F4, G4, n4, g4, q4⟩ := id x2
                    obtain ⟨b1, b2, b3⟩ := y4.le hl
                    have hlen : bc3 < 66 := by
                      rw [i2.1]
                      have e1 : (blist P n a ++ brow P a (b + 1)).length = (blist P n a ++ brow P a b).length + 1 := by
                        rw [eB]
                        simp only [if_true, List.length_append, List.length_cons, List.length_nil]
                        omega
                      have e2 := brow_pre P a (n - (b + 1)) (b + 1)
                      rw [show b + 1 + (n - (b + 1)) = n by omega] at e2
                      have e3 := blist_pre P n (n - (a + 1)) (a + 1)
                      rw [show a + 1 + (n - (a + 1)) = n by omega] at e3
                      have e4 : (blist P n (a + 1)).length = (blist P n a).length + (brow P a n).length := by simp only [blist]; rw [List.length_append]
                      rw [List.length_append] at e1
                      omega
                    obtain ⟨h5, t1, t2, t3⟩ := c_Y_addBinding y4 hlen (x := 100 * a + b)
                    have S5 : SI h5 y p q z0 sl n C T B A J 1 0 st1 lc1 bp1 (bc3 + 1) H1 (va_up K3 bc3 (100 * a + b)) := ⟨ln4, N4, me4, t2, m4, fx4, wh4, cc4, us4, F4, G4, n4.keep t3 (by omega), g4, q4⟩
                    have fW5 : frW h4 h5 y z0 := t3.toW (by omega)
                    obtain ⟨h', bc', K', z1, z2⟩ := ihb h5 _ _ S5 (by rw [eB]; simp only [if_true]; rw [← List.append_assoc]; exact i2.add) (fr4.trans fW5.toY) (x4.keepW hl fW5)
                    exact ⟨h', bc', K', z1, pre h' (fun z => by rw [w] at z; cases z) (fun _ => ⟨h4, r, x1, fun z => (by rw [hr9] at z; cases z), fun _ => ⟨⟨_, y4.1⟩, h5, t1, n101 _ _ z2⟩⟩)⟩
                · have np : P a b = false := by
                    cases q9 : P a b
                    · rfl
                    · exact absurd ((hP a b).mp q9).1 w
                  rw [np] at eB
                  obtain ⟨h', bc', K', z1, z2⟩ := ihb h3 bc3 K3 i1 (by rw [eB]; simpa using i2) i3 i4
                  exact ⟨h', bc', K', z1, pre h' (fun _ => n101 _ _ z2) (fun z => absurd z w)⟩)
          obtain ⟨h', bc', K', z1, z2⟩ := inner 0 (Nat.zero_le _) h2 bc2 K2 j1 (by show isBL bc2 K2 (blist P n a ++ []); rw [List.append_nil]; exact j2) j3 j4
          refine ⟨h', bc', K', z1, fun o3 => sn_Y_findBindings_45 _ _ _ ?_⟩
          obtain ⟨ln, N, me, y3, -⟩ := id j1
          have o1 := y3.1
          have o2 := (hr.keepY j3 (by omega) (by omega) (by omega)).1
          simp only [vc_Y_findBindings_45, qi_push, qi_pushl, qi_iload, qi_lload, qi_aload, qi_istore, qi_astore, qi_lstore, qi_iinc, qi_iadd, qi_isub, qi_imul, qi_iand, qi_ior, qi_ixor, qi_ishl, qi_ishr, qi_iushr, qi_idiv, qi_irem, qi_lor, qi_lmul, qi_ladd, qi_lsub, qi_land, qi_lshl, qi_lshr, qi_i2l, qi_l2i, qi_i2c, qi_lcmp, qi_dup, qi_dup2, qi_pop, qi_if_eq, qi_icmp_eq, qi_if_ne, qi_icmp_ne, qi_if_lt, qi_icmp_lt, qi_if_ge, qi_icmp_ge, qi_if_gt, qi_icmp_gt, qi_if_le, qi_icmp_le, qi_sw, qi_get, qi_put, qi_iald, qi_lald, qi_aald, qi_iast, qi_zast, qi_cast, qi_last, qi_aast, qi_alen, qi_new, qi_newa, qi_newq, qi_obj, qi_invS, qi_invV, qi_invI, qi_iret, qi_zret, qi_lret, qi_vret, qi_acopy, qi_max, qi_min, at_o, at_i, at_l, at_q, at_a, lget, lset, lclr, lnon, lnth, spl, shrt, rpush, true_and, and_true, List.set, List.length, Nat.reduceAdd, Nat.reduceLT, Nat.reduceLeDiff, Nat.reduceEqDiff, Nat.reduceSub, o1, o2]
          exact ⟨fun z => absurd z (nI_ge ha (by omega)), fun _ => z2⟩)
    obtain ⟨ln, me, fs, k1, k2, k3, k4⟩ := c2.setO (so' := 1) (bo' := 0) (lc' := lc1) (bp' := bp1) (bc' := 0) (st' := st1) hl
    have f2 : frY h (hc_set h1 y fs) q y z0 := (c4.trans k4).toY
    obtain ⟨h', bc', K', ⟨z1, z2, z3, z4⟩, z5⟩ := outer 0 (Nat.zero_le _) (hc_set h1 y fs) 0 K k3 ⟨rfl, fun i hi => absurd hi (Nat.not_lt_zero _)⟩ f2 ((hq.keepW hl c4).keepW hl k4)
    refine ⟨h', st1, lc1, bp1, bc', H1, K', P, MX.of (lv := [some (.ref y), none, none, none]) 3 rfl (by decide) (Nat.le_of_ble_eq_true rfl) (sn_Y_findBindings_0 _ _ _ ?_), z1, c3, ⟨hb, z2, h66⟩, z3, z4⟩
    obtain ⟨ln0, N0, me0, y0, -⟩ := id hS
    have o0 := y0.1
    have o2 := (hr.keepW c4 (by omega) (by omega)).1
    simp only [vc_Y_findBindings_0, vc_Y_findBindings_8, vc_Y_findBindings_31, vc_Y_findBindings_37, qi_push, qi_pushl, qi_iload, qi_lload, qi_aload, qi_istore, qi_astore, qi_lstore, qi_iinc, qi_iadd, qi_isub, qi_imul, qi_iand, qi_ior, qi_ixor, qi_ishl, qi_ishr, qi_iushr, qi_idiv, qi_irem, qi_lor, qi_lmul, qi_ladd, qi_lsub, qi_land, qi_lshl, qi_lshr, qi_i2l, qi_l2i, qi_i2c, qi_lcmp, qi_dup, qi_dup2, qi_pop, qi_if_eq, qi_icmp_eq, qi_if_ne, qi_icmp_ne, qi_if_lt, qi_icmp_lt, qi_if_ge, qi_icmp_ge, qi_if_gt, qi_icmp_gt, qi_if_le, qi_icmp_le, qi_sw, qi_get, qi_put, qi_iald, qi_lald, qi_aald, qi_iast, qi_zast, qi_cast, qi_last, qi_aast, qi_alen, qi_new, qi_newa, qi_newq, qi_obj, qi_invS, qi_invV, qi_invI, qi_iret, qi_zret, qi_lret, qi_vret, qi_acopy, qi_max, qi_min, at_o, at_i, at_l, at_q, at_a, lget, lset, lclr, lnon, lnth, spl, shrt, rpush, true_and, and_true, List.set, List.length, Nat.reduceAdd, Nat.reduceLT, Nat.reduceLeDiff, Nat.reduceEqDiff, Nat.reduceSub, o0]
    refine ⟨fun _ => ⟨_, _, c1, ?_⟩, fun z => absurd rfl z⟩
    simp only [qi_push, qi_pushl, qi_iload, qi_lload, qi_aload, qi_istore, qi_astore, qi_lstore, qi_iinc, qi_iadd, qi_isub, qi_imul, qi_iand, qi_ior, qi_ixor, qi_ishl, qi_ishr, qi_iushr, qi_idiv, qi_irem, qi_lor, qi_lmul, qi_ladd, qi_lsub, qi_land, qi_lshl, qi_lshr, qi_i2l, qi_l2i, qi_i2c, qi_lcmp, qi_dup, qi_dup2, qi_pop, qi_if_eq, qi_icmp_eq, qi_if_ne, qi_icmp_ne, qi_if_lt, qi_icmp_lt, qi_if_ge, qi_icmp_ge, qi_if_gt, qi_icmp_gt, qi_if_le, qi_icmp_le, qi_sw, qi_get, qi_put, qi_iald, qi_lald, qi_aald, qi_iast, qi_zast, qi_cast, qi_last, qi_aast, qi_alen, qi_new, qi_newa, qi_newq, qi_obj, qi_invS, qi_invV, qi_invI, qi_iret, qi_zret, qi_lret, qi_vret, qi_acopy, qi_max, qi_min, at_o, at_i, at_l, at_q, at_a, lget, lset, lclr, lnon, lnth, spl, shrt, rpush, true_and, and_true, List.set, List.length, Nat.reduceAdd, Nat.reduceLT, Nat.reduceLeDiff, Nat.reduceEqDiff, Nat.reduceSub, k1, o2]
    rcases hmm with ⟨w1, w2⟩ | ⟨w1, w2⟩
    · refine ⟨fun z => absurd w1 z, fun _ => ⟨hc_fit_i, ?_⟩⟩
      rw [← w2]
      rw [k2] at z5
      exact z5 none
    · refine ⟨fun _ => ⟨hc_fit_i, ?_⟩, fun z => absurd z w1⟩
      rw [w2]
      rw [k2] at z5
      exact z5 none
end ST
set_option maxRecDepth 8000 in
theorem c_Y_init {h : hc_H} {y p q n : Nat} {c : Int32} {T B A J S : Nat → Nat} (hp : h.1 y = some (.inr (4, [.null, .null, .null, .int 0, .int 0, .int 0, .int 0, .int 0, .long 0, .null, .null, .int 0]))) (h2 : h.2.1 = y + 1) (hr : isPl h p n c T B A J S) (hn : n ≤ 12) (hd : p + 6 ≤ y) :
    ∃ h', MA M_Y_init [.ref y, .ref p, .ref q] h none h' ∧ (h'.1 y = some (styO y p q (y + 3) 0 0 0 0 0 0 0) ∧ h'.1 (y + 1) = ii 13 (fun _ => 0) ∧ h'.1 (y + 2) = ii 66 (fun _ => 0)) ∧ isLn h' (y + 3) (2 ^ n) 0 0 (nI 0) 0 (fun _ _ => 0) (fun _ _ => 0) ∧ frA h h' y 16 (122 + 10 * 2 ^ n) := by
  let f0 : List Value := [.null, .null, .null, .int 0, .int 0, .int 0, .int 0, .int 0, .long 0, .null, .null, .int 0]
  obtain ⟨n2, en2⟩ : ∃ x, nst (nst h 0 13 y 4 9 f0) 0 66 y 4 10 (f0.set 9 (.ref h.2.1)) = x := ⟨_, rfl⟩
  have k1 : n2.1 y = some (.inr (4, [.null, .null, .null, .int 0, .int 0, .int 0, .int 0, .int 0, .long 0, .ref (y + 1), .ref (y + 2), .int 0])) := by
    rw [← en2]; simp [f0, nst_at, nst_21, h2]
  have k2 : n2.1 (y + 1) = ii 13 (fun _ => 0) := by rw [← en2]; simp [f0, nst_at, nst_21, h2, nI_0]
  have k3 : n2.1 (y + 2) = ii 66 (fun _ => 0) := by rw [← en2]; simp [f0, nst_at, nst_21, h2, nI_0]
  have k4 : n2.2 = (y + 3, h.2.2 + 79) := by rw [← en2]; simp [nst_2, h2]
  have k5 : ∀ a, ¬ (y ≤ a ∧ a < y + 3) → n2.1 a = h.1 a := fun a ha => by
    rw [← en2]
    simp only [nst_at, nst_21, h2]
    rw [if_neg (by omega), if_neg (by omega), if_neg (by omega), if_neg (by omega)]
  obtain ⟨h3, eh3⟩ : ∃ x, hc_set n2 y (.inr (4, [.ref p, .ref q, .null, .int 0, .int 0, .int 0, .int 0, .int 0, .long 0, .ref (y + 1), .ref (y + 2), .int 0])) = x := ⟨_, rfl⟩
  obtain ⟨h4, eh4⟩ : ∃ x, hc_new h3 (.inr (0, [.null, .null, .null, .null, .null, .null, .null, .null, .null, .null, .null, .null, .int 0, .int 0, .int 0, .int 0])) 16 = x := ⟨_, rfl⟩
  have q1 : h3.2 = (y + 3, h.2.2 + 79) := by rw [← eh3]; exact k4
  have q2 : h4.2 = (y + 4, h.2.2 + 95) := by rw [← eh4, hn_2, q1]
  have q3 : h4.1 (y + 3) = some (.inr (0, [.null, .null, .null, .null, .null, .null, .null, .null, .null, .null, .null, .null, .int 0, .int 0, .int 0, .int 0])) := by rw [← eh4, hn_at, q1, if_pos rfl]
  have q4 : ∀ a, a < y → h4.1 a = h.1 a := fun a ha => by rw [← eh4, hn_at, q1, if_neg (by show ¬ a = y + 3; omega), ← eh3, hs_ne _ _ (by omega), k5 a (by omega)]
  obtain ⟨h5, c1, c2, c3⟩ := c_L_init hn q3 (by rw [q2])
  have q5 : h4.1 y = some (.inr (4, [.ref p, .ref q, .null, .int 0, .int 0, .int 0, .int 0, .int 0, .long 0, .ref (y + 1), .ref (y + 2), .int 0])) := by rw [← eh4, hn_at, q1, if_neg (by show ¬ y = y + 3; omega), ← eh3, hs_eq]
  have q6 : h5.1 y = some (.inr (4, [.ref p, .ref q, .null, .int 0, .int 0, .int 0, .int 0, .int 0, .long 0, .ref (y + 1), .ref (y + 2), .int 0])) := by rw [c3.2 y (by omega)]; exact q5
  have q7 : isPl h4 p n c T B A J S := by
    obtain ⟨e0, e1, e2, e3, e4, e5⟩ := hr
    refine ⟨?_, ?_, ?_, ?_, ?_, ?_⟩ <;> rw [q4 _ (by omega)] <;> assumption
  refine ⟨hc_set h5 y (styO y p q (y + 3) 0 0 0 0 0 0 0), MX.of (lv := [some (.ref y), some (.ref p), some (.ref q)]) 0 rfl (by decide) (Nat.le_of_ble_eq_true rfl) (sn_Y_init_0 _ _ _ ?_), ⟨hs_eq _ _ _, ?_, ?_⟩, c2.hs (by omega), ?_, fun a ha => ?_⟩
  · simp only [vc_Y_init_0, qi_aload, qi_obj, qi_push, lget, shrt, true_and]
    refine nst_ok hp (by omega) (by simp) (by omega) ?_
    simp only [qi_aload, qi_push, lget]
    refine nst_ok (nst_p ..) (by rw [nst_21]; omega) (by simp) (by omega) ?_
    rw [show nst (nst h 0 13 y 4 9 [.null, .null, .null, .int 0, .int 0, .int 0, .int 0, .int 0, .long 0, .null, .null, .int 0]) 0 66 y 4 10 ([.null, .null, .null, .int 0, .int 0, .int 0, .int 0, .int 0, .long 0, .null, .null, .int 0].set 9 (.ref h.2.1)) = n2 from en2]
    simp only [qi_push, qi_pushl, qi_iload, qi_lload, qi_aload, qi_istore, qi_astore, qi_lstore, qi_iinc, qi_iadd, qi_isub, qi_imul, qi_iand, qi_ior, qi_ixor, qi_ishl, qi_ishr, qi_iushr, qi_idiv, qi_irem, qi_lor, qi_lmul, qi_ladd, qi_lsub, qi_land, qi_lshl, qi_lshr, qi_i2l, qi_l2i, qi_i2c, qi_lcmp, qi_dup, qi_dup2, qi_pop, qi_if_eq, qi_icmp_eq, qi_if_ne, qi_icmp_ne, qi_if_lt, qi_icmp_lt, qi_if_ge, qi_icmp_ge, qi_if_gt, qi_icmp_gt, qi_if_le, qi_icmp_le, qi_sw, qi_get, qi_put, qi_iald, qi_lald, qi_aald, qi_iast, qi_zast, qi_cast, qi_last, qi_aast, qi_alen, qi_new, qi_newa, qi_newq, qi_obj, qi_invS, qi_invV, qi_invI, qi_iret, qi_zret, qi_lret, qi_vret, qi_acopy, qi_max, qi_min, at_o, at_i, at_l, at_q, at_a, lget, lset, lclr, lnon, lnth, spl, shrt, rpush, true_and, and_true, List.set, List.length, Nat.reduceAdd, Nat.reduceLT, Nat.reduceLeDiff, Nat.reduceEqDiff, Nat.reduceSub, k1, hs_eq, hs_hs, eh3, eh4, q1]
    have o1 := q7.1
    simp only [qi_push, qi_pushl, qi_iload, qi_lload, qi_aload, qi_istore, qi_astore, qi_lstore, qi_iinc, qi_iadd, qi_isub, qi_imul, qi_iand, qi_ior, qi_ixor, qi_ishl, qi_ishr, qi_iushr, qi_idiv, qi_irem, qi_lor, qi_lmul, qi_ladd, qi_lsub, qi_land, qi_lshl, qi_lshr, qi_i2l, qi_l2i, qi_i2c, qi_lcmp, qi_dup, qi_dup2, qi_pop, qi_if_eq, qi_icmp_eq, qi_if_ne, qi_icmp_ne, qi_if_lt, qi_icmp_lt, qi_if_ge, qi_icmp_ge, qi_if_gt, qi_icmp_gt, qi_if_le, qi_icmp_le, qi_sw, qi_get, qi_put, qi_iald, qi_lald, qi_aald, qi_iast, qi_zast, qi_cast, qi_last, qi_aast, qi_alen, qi_new, qi_newa, qi_newq, qi_obj, qi_invS, qi_invV, qi_invI, qi_iret, qi_zret, qi_lret, qi_vret, qi_acopy, qi_max, qi_min, at_o, at_i, at_l, at_q, at_a, lget, lset, lclr, lnon, lnth, spl, shrt, rpush, true_and, and_true, List.set, List.length, Nat.reduceAdd, Nat.reduceLT, Nat.reduceLeDiff, Nat.reduceEqDiff, Nat.reduceSub, o1]
    refine ⟨hc_fit_r, hc_fit_r, _, _, c1, ?_⟩
    simp only [qi_push, qi_pushl, qi_iload, qi_lload, qi_aload, qi_istore, qi_astore, qi_lstore, qi_iinc, qi_iadd, qi_isub, qi_imul, qi_iand, qi_ior, qi_ixor, qi_ishl, qi_ishr, qi_iushr, qi_idiv, qi_irem, qi_lor, qi_lmul, qi_ladd, qi_lsub, qi_land, qi_lshl, qi_lshr, qi_i2l, qi_l2i, qi_i2c, qi_lcmp, qi_dup, qi_dup2, qi_pop, qi_if_eq, qi_icmp_eq, qi_if_ne, qi_icmp_ne, qi_if_lt, qi_icmp_lt, qi_if_ge, qi_icmp_ge, qi_if_gt, qi_icmp_gt, qi_if_le, qi_icmp_le, qi_sw, qi_get, qi_put, qi_iald, qi_lald, qi_aald, qi_iast, qi_zast, qi_cast, qi_last, qi_aast, qi_alen, qi_new, qi_newa, qi_newq, qi_obj, qi_invS, qi_invV, qi_invI, qi_iret, qi_zret, qi_lret, qi_vret, qi_acopy, qi_max, qi_min, at_o, at_i, at_l, at_q, at_a, lget, lset, lclr, lnon, lnth, spl, shrt, rpush, true_and, and_true, List.set, List.length, Nat.reduceAdd, Nat.reduceLT, Nat.reduceLeDiff, Nat.reduceEqDiff, Nat.reduceSub, q6]
    exact ⟨hc_fit_r, rfl⟩
  · rw [hs_ne _ _ (by omega), c3.2 _ (by omega), ← eh4, hn_at, q1, if_neg (by show ¬ y + 1 = y + 3; omega), ← eh3, hs_ne _ _ (by omega)]; exact k2
  · rw [hs_ne _ _ (by omega), c3.2 _ (by omega), ← eh4, hn_at, q1, if_neg (by show ¬ y + 2 = y + 3; omega), ← eh3, hs_ne _ _ (by omega)]; exact k3
  · show h5.2 = _
    have e6 := c3.1
    rw [q2] at e6
    have e7 : h.2.2 + 95 + (27 + 10 * 2 ^ n) = h.2.2 + (122 + 10 * 2 ^ n) := by omega
    exact e6.trans (congrArg (Prod.mk (y + 16)) e7)
  · rw [hs_ne _ _ (by omega), c3.2 _ (by omega), ← eh4, hn_at, q1, if_neg (by show ¬ a = y + 3; omega), ← eh3, hs_ne _ _ (by omega), k5 a (by omega)]
