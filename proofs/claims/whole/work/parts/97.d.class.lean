/-! THE CLASS: how it begins. -/
theorem new_f {h n : hc_H} {e : hc_C} {k z s : Nat} (en : hc_new h e k = n) (h2 : h.2 = (z, s)) : n.1 z = some e ∧ n.2 = (z + 1, s + k) ∧ ∀ x, ¬ x = z → n.1 x = h.1 x := by
  have q : h.2.1 = z := by rw [h2]
  subst en
  exact ⟨by rw [hn_at, q, if_pos rfl], by rw [hn_2, h2], fun x hx => by rw [hn_at, q, if_neg hx]⟩
theorem isSc.same {h h' : hc_H} {a len : Nat} {L : Nat → Nat} (hr : isSc h a len L) (f : ∀ x, a ≤ x → x < a + 2 → h'.1 x = h.1 x) : isSc h' a len L := ⟨by rw [f _ (by omega) (by omega)]; exact hr.1, by rw [f _ (by omega) (by omega)]; exact hr.2⟩
theorem isPa.same {h h' : hc_H} {a z : Nat} {K : Nat → Nat} {V : Nat → pv} (hp : isPa h a z K V) (f : ∀ x, a ≤ x → x < a + 38 → h'.1 x = h.1 x) : isPa h' a z K V := by
  obtain ⟨e0, e1, e2, e3, e4⟩ := hp
  refine ⟨by rw [f _ (by omega) (by omega)]; exact e0, by rw [f _ (by omega) (by omega)]; exact e1, e2, e3, fun i hi => ?_⟩
  obtain ⟨m, m1, m2⟩ := e2 i hi
  exact (e4 i hi).same (fun x h1 h2 => f x (by omega) (by omega))
set_option maxRecDepth 8000 in
theorem c_B_init {q v : Nat} {f : Option Nat} {h : hc_H} {b s : Nat} (hp : h.1 b = some (.inr (5, [.null, .null, .null, .null, .null]))) (h2 : h.2 = (b + 1, s)) :
    ∃ h' L, MX (phS q v f) M_B_init [.ref b] h none h' ∧ h'.1 b = some (blO b) ∧ isSc h' (b + 1) 0 L ∧ (∀ j, L j < 65536) ∧ isPl h' (b + 3) 9 (nI 20) tI bI aI jI (fun _ => 0) ∧ isPv h' (b + 9) pv0 ∧ (∃ K, isPa h' (b + 15) 0 K (fun _ => pv0)) ∧ (h'.1 (b + 53) = some (styO (b + 53) (b + 3) (b + 9) (b + 53 + 3) 0 0 0 0 0 0 0) ∧ h'.1 (b + 53 + 1) = ii 13 (fun _ => 0) ∧ h'.1 (b + 53 + 2) = ii 66 (fun _ => 0)) ∧ isLn h' (b + 53 + 3) 512 0 0 (nI 0) 0 (fun _ _ => 0) (fun _ _ => 0) ∧ frA h h' b 69 6000 := by
  -- the text
  obtain ⟨n1, en1⟩ : ∃ x, hc_new h (.inr (3, [.null, .int 0])) 2 = x := ⟨_, rfl⟩
  obtain ⟨a1, a2, a3⟩ := new_f en1 h2
  obtain ⟨h1, c1, s1, t1, u1⟩ := c_S_init a1 (by rw [a2])
  have o1 : h1.1 b = some (.inr (5, [.null, .null, .null, .null, .null])) := by rw [u1 _ (by omega), a3 _ (by omega), hp]
  obtain ⟨g1, eg1⟩ : ∃ x, hc_set h1 b (.inr (5, [.ref (b + 1), .null, .null, .null, .null])) = x := ⟨_, rfl⟩
  have b1 : g1.1 b = some (.inr (5, [.ref (b + 1), .null, .null, .null, .null])) := by rw [← eg1, hs_eq]
  have b2 : g1.2 = (b + 3, s + 202) := by rw [← eg1]; show h1.2 = _; rw [t1, a2]
  have b3 : ∀ x, ¬ x = b → g1.1 x = h1.1 x := fun x hx => by rw [← eg1, hs_ne _ _ hx]
  have S1 : isSc g1 (b + 1) 0 (fun _ => 0) := s1.same (fun x q1 q2 => b3 x (by omega))
  have w1 : ∀ x, ¬ (b ≤ x ∧ x < b + 3) → g1.1 x = h.1 x := fun x hx => by rw [b3 x (by omega), u1 x (by omega), a3 x (by omega)]
  -- the plan
  obtain ⟨n2, en2⟩ : ∃ x, hc_new g1 (.inr (2, [.int 0, .int 0, .null, .null, .null, .null, .null])) 7 = x := ⟨_, rfl⟩
  obtain ⟨d1, d2, d3⟩ := new_f en2 b2
  obtain ⟨h3, c2, s2, t2, u2⟩ := c_P_init d1 (by rw [d2])
  have o2 : h3.1 b = some (.inr (5, [.ref (b + 1), .null, .null, .null, .null])) := by rw [u2 _ (by omega), d3 _ (by omega), b1]
  obtain ⟨g2, eg2⟩ : ∃ x, hc_set h3 b (.inr (5, [.ref (b + 1), .ref (b + 3), .null, .null, .null])) = x := ⟨_, rfl⟩
  have e1 : g2.1 b = some (.inr (5, [.ref (b + 1), .ref (b + 3), .null, .null, .null])) := by rw [← eg2, hs_eq]
  have e2 : g2.2 = (b + 9, s + 269) := by rw [← eg2]; show h3.2 = _; rw [t2, d2]
  have e3 : ∀ x, ¬ x = b → g2.1 x = h3.1 x := fun x hx => by rw [← eg2, hs_ne _ _ hx]
  have P2 : isPv g2 (b + 3) pv0 := isPl.same s2 (fun x q1 q2 => e3 x (by omega))
  have w2 : ∀ x, ¬ (b + 3 ≤ x ∧ x < b + 9) → ¬ x = b → g2.1 x = g1.1 x := fun x hx hb => by rw [e3 x hb, u2 x (by omega), d3 x (by omega)]
  -- the draft
  obtain ⟨n3, en3⟩ : ∃ x, hc_new g2 (.inr (2, [.int 0, .int 0, .null, .null, .null, .null, .null])) 7 = x := ⟨_, rfl⟩
  obtain ⟨i1, i2, i3⟩ := new_f en3 e2
  obtain ⟨h4, c3, s3, t3, u3⟩ := c_P_init i1 (by rw [i2])
  have o3 : h4.1 b = some (.inr (5, [.ref (b + 1), .ref (b + 3), .null, .null, .null])) := by rw [u3 _ (by omega), i3 _ (by omega), e1]
  obtain ⟨g3, eg3⟩ : ∃ x, hc_set h4 b (.inr (5, [.ref (b + 1), .ref (b + 3), .ref (b + 9), .null, .null])) = x := ⟨_, rfl⟩
  have j1 : g3.1 b = some (.inr (5, [.ref (b + 1), .ref (b + 3), .ref (b + 9), .null, .null])) := by rw [← eg3, hs_eq]
  have j2 : g3.2 = (b + 15, s + 336) := by rw [← eg3]; show h4.2 = _; rw [t3, i2]
  have j3 : ∀ x, ¬ x = b → g3.1 x = h4.1 x := fun x hx => by rw [← eg3, hs_ne _ _ hx]
  have P3 : isPv g3 (b + 9) pv0 := isPl.same s3 (fun x q1 q2 => j3 x (by omega))
  have w3 : ∀ x, ¬ (b + 9 ≤ x ∧ x < b + 15) → ¬ x = b → g3.1 x = g2.1 x := fun x hx hb => by rw [j3 x hb, u3 x (by omega), i3 x (by omega)]
  -- the past
  obtain ⟨n4, en4⟩ : ∃ x, hc_new g3 (.inr (1, [.null, .int 0])) 2 = x := ⟨_, rfl⟩
  obtain ⟨k1, k2, k3⟩ := new_f en4 j2
  obtain ⟨h5, c4, ⟨K4, s4⟩, t4, u4⟩ := c_H_init k1 k2
  have o4 : h5.1 b = some (.inr (5, [.ref (b + 1), .ref (b + 3), .ref (b + 9), .null, .null])) := by rw [u4 _ (by omega), k3 _ (by omega), j1]
  obtain ⟨g4, eg4⟩ : ∃ x, hc_set h5 b (.inr (5, [.ref (b + 1), .ref (b + 3), .ref (b + 9), .ref (b + 15), .null])) = x := ⟨_, rfl⟩
  have l1 : g4.1 b = some (.inr (5, [.ref (b + 1), .ref (b + 3), .ref (b + 9), .ref (b + 15), .null])) := by rw [← eg4, hs_eq]
  have l2 : g4.2 = (b + 53, s + 746) := by rw [← eg4]; show h5.2 = _; rw [t4, k2]
  have l3 : ∀ x, ¬ x = b → g4.1 x = h5.1 x := fun x hx => by rw [← eg4, hs_ne _ _ hx]
  have H4 : isPa g4 (b + 15) 0 K4 (fun _ => pv0) := s4.same (fun x q1 q2 => l3 x (by omega))
  have w4 : ∀ x, ¬ (b + 15 ≤ x ∧ x < b + 53) → ¬ x = b → g4.1 x = g3.1 x := fun x hx hb => by rw [l3 x hb, u4 x (by omega), k3 x (by omega)]
  have S4 : isSc g4 (b + 1) 0 (fun _ => 0) := S1.same (fun x q1 q2 => by rw [w4 x (by omega) (by omega), w3 x (by omega) (by omega), w2 x (by omega) (by omega)])
  have P4 : isPv g4 (b + 3) pv0 := isPl.same P2 (fun x q1 q2 => by rw [w4 x (by omega) (by omega), w3 x (by omega) (by omega)])
  have Q4 : isPv g4 (b + 9) pv0 := isPl.same P3 (fun x q1 q2 => by rw [w4 x (by omega) (by omega)])
  have W4 : ∀ x, ¬ (b ≤ x ∧ x < b + 53) → g4.1 x = h.1 x := fun x hx => by rw [w4 x (by omega) (by omega), w3 x (by omega) (by omega), w2 x (by omega) (by omega), w1 x (by omega)]
  -- from the loop on
  have lpq := lp_up (P := fun i => ∀ g L, isSc g (b + 1) i L → (∀ j, j < i → L j = ltF j) → (∀ j, L j < 65536) → frm g4 g (b + 1) 2 → ∃ h' L', (h'.1 b = some (blO b) ∧ isSc h' (b + 1) 0 L' ∧ (∀ j, L' j < 65536) ∧ isPl h' (b + 3) 9 (nI 20) tI bI aI jI (fun _ => 0) ∧ isPv h' (b + 9) pv0 ∧ (∃ K, isPa h' (b + 15) 0 K (fun _ => pv0)) ∧ (h'.1 (b + 53) = some (styO (b + 53) (b + 3) (b + 9) (b + 53 + 3) 0 0 0 0 0 0 0) ∧ h'.1 (b + 53 + 1) = ii 13 (fun _ => 0) ∧ h'.1 (b + 53 + 2) = ii 66 (fun _ => 0)) ∧ isLn h' (b + 53 + 3) 512 0 0 (nI 0) 0 (fun _ _ => 0) (fun _ _ => 0) ∧ frA h h' b 69 6000) ∧ cx (phS q v f) M_B_init h h' none 50 [some (.ref b), some (.int (nI i))] [] g) (n := 73)
    (by
      intro g L r1 r2 r3 r4
      have P5 : isPv g (b + 3) pv0 := isPl.same P4 (fun x q1 q2 => r4.2 x (by omega))
      obtain ⟨h6, v6, x1, x2, -, x3, x4⟩ := c_S_readInto r1 (by omega) r3 P5 (Or.inl (by omega))
      rw [rdC_c r2, rdF.1] at x4
      have ev := x4 rfl
      subst ev
      have S6 : isSc h6 (b + 1) 73 L := r1.same (fun x q1 q2 => x3.2 x (by omega))
      obtain ⟨h7, y1, y2, y3⟩ := c_S_clear S6
      have P7 : isPl h7 (b + 3) 9 (nI 20) tI bI aI jI (fun _ => 0) := isPl.same x2 (fun x q1 q2 => y3.2 x (by omega))
      have W7 : ∀ x, ¬ (b + 1 ≤ x ∧ x < b + 9) → h7.1 x = g4.1 x := fun x hx => by rw [y3.2 x (by omega), x3.2 x (by omega), r4.2 x (by omega)]
      have o5 : g.1 b = some (.inr (5, [.ref (b + 1), .ref (b + 3), .ref (b + 9), .ref (b + 15), .null])) := by rw [r4.2 _ (by omega), l1]
      have o6 : h6.1 b = some (.inr (5, [.ref (b + 1), .ref (b + 3), .ref (b + 9), .ref (b + 15), .null])) := by rw [x3.2 _ (by omega), o5]
      have o7 : h7.1 b = some (.inr (5, [.ref (b + 1), .ref (b + 3), .ref (b + 9), .ref (b + 15), .null])) := by rw [y3.2 _ (by omega), o6]
      have z7 : h7.2 = (b + 53, s + 746) := by rw [y3.1, x3.1, r4.1, l2]
      obtain ⟨n8, en8⟩ : ∃ x, hc_new h7 (.inr (4, [.null, .null, .null, .int 0, .int 0, .int 0, .int 0, .int 0, .long 0, .null, .null, .int 0])) 12 = x := ⟨_, rfl⟩
      obtain ⟨m1, m2, m3⟩ := new_f en8 z7
      have P8 : isPl n8 (b + 3) 9 (nI 20) tI bI aI jI (fun _ => 0) := isPl.same P7 (fun x q1 q2 => m3 x (by omega))
      have o8 : n8.1 b = some (.inr (5, [.ref (b + 1), .ref (b + 3), .ref (b + 9), .ref (b + 15), .null])) := by rw [m3 _ (by omega), o7]
      obtain ⟨h9, p1, p2, p3, p4, p5⟩ := c_Y_init (q := b + 9) m1 (by rw [m2]) P8 (by omega) (by omega)
      have o9 : h9.1 b = some (.inr (5, [.ref (b + 1), .ref (b + 3), .ref (b + 9), .ref (b + 15), .null])) := by rw [p5 _ (by omega), o8]
      have z7' : h7.2.1 = b + 53 := by rw [z7]
      have K9 : ∀ x, ¬ x = b → ¬ (b + 53 ≤ x ∧ x < b + 69) → (hc_set h9 b (blO b)).1 x = h7.1 x := fun x q1 q2 => by rw [hs_ne _ _ q1, p5 x (by omega), m3 x (by omega)]
      refine ⟨hc_set h9 b (blO b), L, ⟨hs_eq _ _ _, y2.same (fun x q1 q2 => K9 x (by omega) (by omega)), r3, isPl.same P7 (fun x q1 q2 => K9 x (by omega) (by omega)), isPl.same Q4 (fun x q1 q2 => by rw [K9 x (by omega) (by omega), W7 x (by omega)]), ⟨K4, H4.same (fun x q1 q2 => by rw [K9 x (by omega) (by omega), W7 x (by omega)])⟩, ⟨by rw [hs_ne _ _ (by omega)]; exact p2.1, by rw [hs_ne _ _ (by omega)]; exact p2.2.1, by rw [hs_ne _ _ (by omega)]; exact p2.2.2⟩, p3.hs (by omega), ?_, fun x hx => by rw [K9 x (by omega) (by omega), W7 x (by omega), W4 x (by omega)]⟩, sn_B_init_50 _ _ _ ?_⟩
      · show h9.2 = _
        rw [p4, m2, h2]
      · simp only [vc_B_init_50, qi_val, qi_invT, qi_push, qi_pushl, qi_iload, qi_lload, qi_aload, qi_istore, qi_astore, qi_lstore, qi_iinc, qi_iadd, qi_isub, qi_imul, qi_iand, qi_ior, qi_ixor, qi_ishl, qi_ishr, qi_iushr, qi_idiv, qi_irem, qi_lor, qi_lmul, qi_ladd, qi_lsub, qi_land, qi_lshl, qi_lshr, qi_i2l, qi_l2i, qi_i2c, qi_lcmp, qi_dup, qi_dup2, qi_pop, qi_if_eq, qi_icmp_eq, qi_if_ne, qi_icmp_ne, qi_if_lt, qi_icmp_lt, qi_if_ge, qi_icmp_ge, qi_if_gt, qi_icmp_gt, qi_if_le, qi_icmp_le, qi_sw, qi_get, qi_put, qi_iald, qi_lald, qi_aald, qi_iast, qi_zast, qi_cast, qi_last, qi_aast, qi_alen, qi_new, qi_newa, qi_newq, qi_obj, qi_invS, qi_invV, qi_invI, qi_iret, qi_zret, qi_lret, qi_vret, qi_acopy, qi_max, qi_min, at_o, at_i, at_l, at_q, at_a, lget, lset, lclr, lnon, lnth, spl, shrt, rpush, true_and, and_true, List.set, List.length, Nat.reduceAdd, Nat.reduceLT, Nat.reduceLeDiff, Nat.reduceEqDiff, Nat.reduceSub]
        refine ⟨_, _, c_JS_length, ?_⟩
        simp only [vc_B_init_79, qi_push, qi_pushl, qi_iload, qi_lload, qi_aload, qi_istore, qi_astore, qi_lstore, qi_iinc, qi_iadd, qi_isub, qi_imul, qi_iand, qi_ior, qi_ixor, qi_ishl, qi_ishr, qi_iushr, qi_idiv, qi_irem, qi_lor, qi_lmul, qi_ladd, qi_lsub, qi_land, qi_lshl, qi_lshr, qi_i2l, qi_l2i, qi_i2c, qi_lcmp, qi_dup, qi_dup2, qi_pop, qi_if_eq, qi_icmp_eq, qi_if_ne, qi_icmp_ne, qi_if_lt, qi_icmp_lt, qi_if_ge, qi_icmp_ge, qi_if_gt, qi_icmp_gt, qi_if_le, qi_icmp_le, qi_sw, qi_get, qi_put, qi_iald, qi_lald, qi_aald, qi_iast, qi_zast, qi_cast, qi_last, qi_aast, qi_alen, qi_new, qi_newa, qi_newq, qi_obj, qi_invS, qi_invV, qi_invI, qi_iret, qi_zret, qi_lret, qi_vret, qi_acopy, qi_max, qi_min, at_o, at_i, at_l, at_q, at_a, lget, lset, lclr, lnon, lnth, spl, shrt, rpush, true_and, and_true, List.set, List.length, Nat.reduceAdd, Nat.reduceLT, Nat.reduceLeDiff, Nat.reduceEqDiff, Nat.reduceSub, o5, r1.1]
        refine ⟨fun _ => ⟨_, _, x1, ?_⟩, fun z => absurd (nI_le (Nat.le_refl _) (by omega)) z⟩
        simp only [qi_push, qi_pushl, qi_iload, qi_lload, qi_aload, qi_istore, qi_astore, qi_lstore, qi_iinc, qi_iadd, qi_isub, qi_imul, qi_iand, qi_ior, qi_ixor, qi_ishl, qi_ishr, qi_iushr, qi_idiv, qi_irem, qi_lor, qi_lmul, qi_ladd, qi_lsub, qi_land, qi_lshl, qi_lshr, qi_i2l, qi_l2i, qi_i2c, qi_lcmp, qi_dup, qi_dup2, qi_pop, qi_if_eq, qi_icmp_eq, qi_if_ne, qi_icmp_ne, qi_if_lt, qi_icmp_lt, qi_if_ge, qi_icmp_ge, qi_if_gt, qi_icmp_gt, qi_if_le, qi_icmp_le, qi_sw, qi_get, qi_put, qi_iald, qi_lald, qi_aald, qi_iast, qi_zast, qi_cast, qi_last, qi_aast, qi_alen, qi_new, qi_newa, qi_newq, qi_obj, qi_invS, qi_invV, qi_invI, qi_iret, qi_zret, qi_lret, qi_vret, qi_acopy, qi_max, qi_min, at_o, at_i, at_l, at_q, at_a, lget, lset, lclr, lnon, lnth, spl, shrt, rpush, true_and, and_true, List.set, List.length, Nat.reduceAdd, Nat.reduceLT, Nat.reduceLeDiff, Nat.reduceEqDiff, Nat.reduceSub, o6, S6.1]
        refine ⟨_, _, y1, ?_⟩
        simp only [qi_push, qi_pushl, qi_iload, qi_lload, qi_aload, qi_istore, qi_astore, qi_lstore, qi_iinc, qi_iadd, qi_isub, qi_imul, qi_iand, qi_ior, qi_ixor, qi_ishl, qi_ishr, qi_iushr, qi_idiv, qi_irem, qi_lor, qi_lmul, qi_ladd, qi_lsub, qi_land, qi_lshl, qi_lshr, qi_i2l, qi_l2i, qi_i2c, qi_lcmp, qi_dup, qi_dup2, qi_pop, qi_if_eq, qi_icmp_eq, qi_if_ne, qi_icmp_ne, qi_if_lt, qi_icmp_lt, qi_if_ge, qi_icmp_ge, qi_if_gt, qi_icmp_gt, qi_if_le, qi_icmp_le, qi_sw, qi_get, qi_put, qi_iald, qi_lald, qi_aald, qi_iast, qi_zast, qi_cast, qi_last, qi_aast, qi_alen, qi_new, qi_newa, qi_newq, qi_obj, qi_invS, qi_invV, qi_invI, qi_iret, qi_zret, qi_lret, qi_vret, qi_acopy, qi_max, qi_min, at_o, at_i, at_l, at_q, at_a, lget, lset, lclr, lnon, lnth, spl, shrt, rpush, true_and, and_true, List.set, List.length, Nat.reduceAdd, Nat.reduceLT, Nat.reduceLeDiff, Nat.reduceEqDiff, Nat.reduceSub, en8, z7', o8]
        refine ⟨_, _, p1, ?_⟩
        simp only [qi_push, qi_pushl, qi_iload, qi_lload, qi_aload, qi_istore, qi_astore, qi_lstore, qi_iinc, qi_iadd, qi_isub, qi_imul, qi_iand, qi_ior, qi_ixor, qi_ishl, qi_ishr, qi_iushr, qi_idiv, qi_irem, qi_lor, qi_lmul, qi_ladd, qi_lsub, qi_land, qi_lshl, qi_lshr, qi_i2l, qi_l2i, qi_i2c, qi_lcmp, qi_dup, qi_dup2, qi_pop, qi_if_eq, qi_icmp_eq, qi_if_ne, qi_icmp_ne, qi_if_lt, qi_icmp_lt, qi_if_ge, qi_icmp_ge, qi_if_gt, qi_icmp_gt, qi_if_le, qi_icmp_le, qi_sw, qi_get, qi_put, qi_iald, qi_lald, qi_aald, qi_iast, qi_zast, qi_cast, qi_last, qi_aast, qi_alen, qi_new, qi_newa, qi_newq, qi_obj, qi_invS, qi_invV, qi_invI, qi_iret, qi_zret, qi_lret, qi_vret, qi_acopy, qi_max, qi_min, at_o, at_i, at_l, at_q, at_a, lget, lset, lclr, lnon, lnth, spl, shrt, rpush, true_and, and_true, List.set, List.length, Nat.reduceAdd, Nat.reduceLT, Nat.reduceLeDiff, Nat.reduceEqDiff, Nat.reduceSub, o9]
        exact hc_fit_r)
    (fun i hi ih g L r1 r2 r3 r4 => by
      rcases c_S_add r1 (by omega) (show ltF i < 65536 by have := ltF_le i; omega) with ⟨z, -⟩ | ⟨-, h6, x1, x2, x3⟩
      · omega
      · obtain ⟨h', L', z1, z2⟩ := ih h6 _ x2 (fun j hj => by
          by_cases e : j = i
          · subst e; rw [up_eq]
          · rw [up_ne e]; exact r2 j (by omega)) (fun j => by
          by_cases e : j = i
          · subst e; rw [up_eq]; have := ltF_le j; omega
          · rw [up_ne e]; exact r3 j) (r4.trans x3)
        refine ⟨h', L', z1, sn_B_init_50 _ _ _ ?_⟩
        have o5 : g.1 b = some (.inr (5, [.ref (b + 1), .ref (b + 3), .ref (b + 9), .ref (b + 15), .null])) := by rw [r4.2 _ (by omega), l1]
        simp only [vc_B_init_50, qi_val, qi_invT, qi_push, qi_pushl, qi_iload, qi_lload, qi_aload, qi_istore, qi_astore, qi_lstore, qi_iinc, qi_iadd, qi_isub, qi_imul, qi_iand, qi_ior, qi_ixor, qi_ishl, qi_ishr, qi_iushr, qi_idiv, qi_irem, qi_lor, qi_lmul, qi_ladd, qi_lsub, qi_land, qi_lshl, qi_lshr, qi_i2l, qi_l2i, qi_i2c, qi_lcmp, qi_dup, qi_dup2, qi_pop, qi_if_eq, qi_icmp_eq, qi_if_ne, qi_icmp_ne, qi_if_lt, qi_icmp_lt, qi_if_ge, qi_icmp_ge, qi_if_gt, qi_icmp_gt, qi_if_le, qi_icmp_le, qi_sw, qi_get, qi_put, qi_iald, qi_lald, qi_aald, qi_iast, qi_zast, qi_cast, qi_last, qi_aast, qi_alen, qi_new, qi_newa, qi_newq, qi_obj, qi_invS, qi_invV, qi_invI, qi_iret, qi_zret, qi_lret, qi_vret, qi_acopy, qi_max, qi_min, at_o, at_i, at_l, at_q, at_a, lget, lset, lclr, lnon, lnth, spl, shrt, rpush, true_and, and_true, List.set, List.length, Nat.reduceAdd, Nat.reduceLT, Nat.reduceLeDiff, Nat.reduceEqDiff, Nat.reduceSub]
        refine ⟨_, _, c_JS_length, ?_⟩
        simp only [qi_push, qi_pushl, qi_iload, qi_lload, qi_aload, qi_istore, qi_astore, qi_lstore, qi_iinc, qi_iadd, qi_isub, qi_imul, qi_iand, qi_ior, qi_ixor, qi_ishl, qi_ishr, qi_iushr, qi_idiv, qi_irem, qi_lor, qi_lmul, qi_ladd, qi_lsub, qi_land, qi_lshl, qi_lshr, qi_i2l, qi_l2i, qi_i2c, qi_lcmp, qi_dup, qi_dup2, qi_pop, qi_if_eq, qi_icmp_eq, qi_if_ne, qi_icmp_ne, qi_if_lt, qi_icmp_lt, qi_if_ge, qi_icmp_ge, qi_if_gt, qi_icmp_gt, qi_if_le, qi_icmp_le, qi_sw, qi_get, qi_put, qi_iald, qi_lald, qi_aald, qi_iast, qi_zast, qi_cast, qi_last, qi_aast, qi_alen, qi_new, qi_newa, qi_newq, qi_obj, qi_invS, qi_invV, qi_invI, qi_iret, qi_zret, qi_lret, qi_vret, qi_acopy, qi_max, qi_min, at_o, at_i, at_l, at_q, at_a, lget, lset, lclr, lnon, lnth, spl, shrt, rpush, true_and, and_true, List.set, List.length, Nat.reduceAdd, Nat.reduceLT, Nat.reduceLeDiff, Nat.reduceEqDiff, Nat.reduceSub, o5]
        refine ⟨fun z => absurd z (nI_ge hi (by omega)), fun _ => ⟨_, _, c_JS_charAt hi, ?_⟩⟩
        simp only [qi_push, qi_pushl, qi_iload, qi_lload, qi_aload, qi_istore, qi_astore, qi_lstore, qi_iinc, qi_iadd, qi_isub, qi_imul, qi_iand, qi_ior, qi_ixor, qi_ishl, qi_ishr, qi_iushr, qi_idiv, qi_irem, qi_lor, qi_lmul, qi_ladd, qi_lsub, qi_land, qi_lshl, qi_lshr, qi_i2l, qi_l2i, qi_i2c, qi_lcmp, qi_dup, qi_dup2, qi_pop, qi_if_eq, qi_icmp_eq, qi_if_ne, qi_icmp_ne, qi_if_lt, qi_icmp_lt, qi_if_ge, qi_icmp_ge, qi_if_gt, qi_icmp_gt, qi_if_le, qi_icmp_le, qi_sw, qi_get, qi_put, qi_iald, qi_lald, qi_aald, qi_iast, qi_zast, qi_cast, qi_last, qi_aast, qi_alen, qi_new, qi_newa, qi_newq, qi_obj, qi_invS, qi_invV, qi_invI, qi_iret, qi_zret, qi_lret, qi_vret, qi_acopy, qi_max, qi_min, at_o, at_i, at_l, at_q, at_a, lget, lset, lclr, lnon, lnth, spl, shrt, rpush, true_and, and_true, List.set, List.length, Nat.reduceAdd, Nat.reduceLT, Nat.reduceLeDiff, Nat.reduceEqDiff, Nat.reduceSub, r1.1]
        refine ⟨_, _, x1, ?_⟩
        simp only [qi_push, qi_pushl, qi_iload, qi_lload, qi_aload, qi_istore, qi_astore, qi_lstore, qi_iinc, qi_iadd, qi_isub, qi_imul, qi_iand, qi_ior, qi_ixor, qi_ishl, qi_ishr, qi_iushr, qi_idiv, qi_irem, qi_lor, qi_lmul, qi_ladd, qi_lsub, qi_land, qi_lshl, qi_lshr, qi_i2l, qi_l2i, qi_i2c, qi_lcmp, qi_dup, qi_dup2, qi_pop, qi_if_eq, qi_icmp_eq, qi_if_ne, qi_icmp_ne, qi_if_lt, qi_icmp_lt, qi_if_ge, qi_icmp_ge, qi_if_gt, qi_icmp_gt, qi_if_le, qi_icmp_le, qi_sw, qi_get, qi_put, qi_iald, qi_lald, qi_aald, qi_iast, qi_zast, qi_cast, qi_last, qi_aast, qi_alen, qi_new, qi_newa, qi_newq, qi_obj, qi_invS, qi_invV, qi_invI, qi_iret, qi_zret, qi_lret, qi_vret, qi_acopy, qi_max, qi_min, at_o, at_i, at_l, at_q, at_a, lget, lset, lclr, lnon, lnth, spl, shrt, rpush, true_and, and_true, List.set, List.length, Nat.reduceAdd, Nat.reduceLT, Nat.reduceLeDiff, Nat.reduceEqDiff, Nat.reduceSub, nI_add]
        exact z2)
  obtain ⟨h', L', z1, z2⟩ := lpq 0 (by omega) g4 _ S4 (fun j hj => by omega) (fun j => by show 0 < 65536; omega) frm.rfl'
  have q2 : h.2.1 = b + 1 := by rw [h2]
  have q3 : g1.2.1 = b + 3 := by rw [b2]
  have q4 : g2.2.1 = b + 9 := by rw [e2]
  have q5 : g3.2.1 = b + 15 := by rw [j2]
  refine ⟨h', L', MX.of (lv := [some (.ref b), none]) 1 rfl (by decide) (Nat.le_of_ble_eq_true rfl) (sn_B_init_0 _ _ _ ?_), z1⟩
  simp only [vc_B_init_0, qi_push, qi_pushl, qi_iload, qi_lload, qi_aload, qi_istore, qi_astore, qi_lstore, qi_iinc, qi_iadd, qi_isub, qi_imul, qi_iand, qi_ior, qi_ixor, qi_ishl, qi_ishr, qi_iushr, qi_idiv, qi_irem, qi_lor, qi_lmul, qi_ladd, qi_lsub, qi_land, qi_lshl, qi_lshr, qi_i2l, qi_l2i, qi_i2c, qi_lcmp, qi_dup, qi_dup2, qi_pop, qi_if_eq, qi_icmp_eq, qi_if_ne, qi_icmp_ne, qi_if_lt, qi_icmp_lt, qi_if_ge, qi_icmp_ge, qi_if_gt, qi_icmp_gt, qi_if_le, qi_icmp_le, qi_sw, qi_get, qi_put, qi_iald, qi_lald, qi_aald, qi_iast, qi_zast, qi_cast, qi_last, qi_aast, qi_alen, qi_new, qi_newa, qi_newq, qi_obj, qi_invS, qi_invV, qi_invI, qi_iret, qi_zret, qi_lret, qi_vret, qi_acopy, qi_max, qi_min, at_o, at_i, at_l, at_q, at_a, lget, lset, lclr, lnon, lnth, spl, shrt, rpush, true_and, and_true, List.set, List.length, Nat.reduceAdd, Nat.reduceLT, Nat.reduceLeDiff, Nat.reduceEqDiff, Nat.reduceSub, en1, q2]
  refine ⟨_, _, c1, ?_⟩
  simp only [qi_push, qi_pushl, qi_iload, qi_lload, qi_aload, qi_istore, qi_astore, qi_lstore, qi_iinc, qi_iadd, qi_isub, qi_imul, qi_iand, qi_ior, qi_ixor, qi_ishl, qi_ishr, qi_iushr, qi_idiv, qi_irem, qi_lor, qi_lmul, qi_ladd, qi_lsub, qi_land, qi_lshl, qi_lshr, qi_i2l, qi_l2i, qi_i2c, qi_lcmp, qi_dup, qi_dup2, qi_pop, qi_if_eq, qi_icmp_eq, qi_if_ne, qi_icmp_ne, qi_if_lt, qi_icmp_lt, qi_if_ge, qi_icmp_ge, qi_if_gt, qi_icmp_gt, qi_if_le, qi_icmp_le, qi_sw, qi_get, qi_put, qi_iald, qi_lald, qi_aald, qi_iast, qi_zast, qi_cast, qi_last, qi_aast, qi_alen, qi_new, qi_newa, qi_newq, qi_obj, qi_invS, qi_invV, qi_invI, qi_iret, qi_zret, qi_lret, qi_vret, qi_acopy, qi_max, qi_min, at_o, at_i, at_l, at_q, at_a, lget, lset, lclr, lnon, lnth, spl, shrt, rpush, true_and, and_true, List.set, List.length, Nat.reduceAdd, Nat.reduceLT, Nat.reduceLeDiff, Nat.reduceEqDiff, Nat.reduceSub, o1, eg1, en2, q3]
  refine ⟨hc_fit_r, _, _, c2, ?_⟩
  simp only [qi_push, qi_pushl, qi_iload, qi_lload, qi_aload, qi_istore, qi_astore, qi_lstore, qi_iinc, qi_iadd, qi_isub, qi_imul, qi_iand, qi_ior, qi_ixor, qi_ishl, qi_ishr, qi_iushr, qi_idiv, qi_irem, qi_lor, qi_lmul, qi_ladd, qi_lsub, qi_land, qi_lshl, qi_lshr, qi_i2l, qi_l2i, qi_i2c, qi_lcmp, qi_dup, qi_dup2, qi_pop, qi_if_eq, qi_icmp_eq, qi_if_ne, qi_icmp_ne, qi_if_lt, qi_icmp_lt, qi_if_ge, qi_icmp_ge, qi_if_gt, qi_icmp_gt, qi_if_le, qi_icmp_le, qi_sw, qi_get, qi_put, qi_iald, qi_lald, qi_aald, qi_iast, qi_zast, qi_cast, qi_last, qi_aast, qi_alen, qi_new, qi_newa, qi_newq, qi_obj, qi_invS, qi_invV, qi_invI, qi_iret, qi_zret, qi_lret, qi_vret, qi_acopy, qi_max, qi_min, at_o, at_i, at_l, at_q, at_a, lget, lset, lclr, lnon, lnth, spl, shrt, rpush, true_and, and_true, List.set, List.length, Nat.reduceAdd, Nat.reduceLT, Nat.reduceLeDiff, Nat.reduceEqDiff, Nat.reduceSub, o2, eg2, en3, q4]
  refine ⟨hc_fit_r, _, _, c3, ?_⟩
  simp only [qi_push, qi_pushl, qi_iload, qi_lload, qi_aload, qi_istore, qi_astore, qi_lstore, qi_iinc, qi_iadd, qi_isub, qi_imul, qi_iand, qi_ior, qi_ixor, qi_ishl, qi_ishr, qi_iushr, qi_idiv, qi_irem, qi_lor, qi_lmul, qi_ladd, qi_lsub, qi_land, qi_lshl, qi_lshr, qi_i2l, qi_l2i, qi_i2c, qi_lcmp, qi_dup, qi_dup2, qi_pop, qi_if_eq, qi_icmp_eq, qi_if_ne, qi_icmp_ne, qi_if_lt, qi_icmp_lt, qi_if_ge, qi_icmp_ge, qi_if_gt, qi_icmp_gt, qi_if_le, qi_icmp_le, qi_sw, qi_get, qi_put, qi_iald, qi_lald, qi_aald, qi_iast, qi_zast, qi_cast, qi_last, qi_aast, qi_alen, qi_new, qi_newa, qi_newq, qi_obj, qi_invS, qi_invV, qi_invI, qi_iret, qi_zret, qi_lret, qi_vret, qi_acopy, qi_max, qi_min, at_o, at_i, at_l, at_q, at_a, lget, lset, lclr, lnon, lnth, spl, shrt, rpush, true_and, and_true, List.set, List.length, Nat.reduceAdd, Nat.reduceLT, Nat.reduceLeDiff, Nat.reduceEqDiff, Nat.reduceSub, o3, eg3, en4, q5]
  refine ⟨hc_fit_r, _, _, c4, ?_⟩
  simp only [qi_push, qi_pushl, qi_iload, qi_lload, qi_aload, qi_istore, qi_astore, qi_lstore, qi_iinc, qi_iadd, qi_isub, qi_imul, qi_iand, qi_ior, qi_ixor, qi_ishl, qi_ishr, qi_iushr, qi_idiv, qi_irem, qi_lor, qi_lmul, qi_ladd, qi_lsub, qi_land, qi_lshl, qi_lshr, qi_i2l, qi_l2i, qi_i2c, qi_lcmp, qi_dup, qi_dup2, qi_pop, qi_if_eq, qi_icmp_eq, qi_if_ne, qi_icmp_ne, qi_if_lt, qi_icmp_lt, qi_if_ge, qi_icmp_ge, qi_if_gt, qi_icmp_gt, qi_if_le, qi_icmp_le, qi_sw, qi_get, qi_put, qi_iald, qi_lald, qi_aald, qi_iast, qi_zast, qi_cast, qi_last, qi_aast, qi_alen, qi_new, qi_newa, qi_newq, qi_obj, qi_invS, qi_invV, qi_invI, qi_iret, qi_zret, qi_lret, qi_vret, qi_acopy, qi_max, qi_min, at_o, at_i, at_l, at_q, at_a, lget, lset, lclr, lnon, lnth, spl, shrt, rpush, true_and, and_true, List.set, List.length, Nat.reduceAdd, Nat.reduceLT, Nat.reduceLeDiff, Nat.reduceEqDiff, Nat.reduceSub, o4, eg4]
  exact ⟨hc_fit_r, z2⟩
/-- THE TWO BEGIN IN STEP -/
theorem rel_init {h1 h2 : hc_H} {b s : Nat} {L : Nat → Nat} {X : Nat → Nat → Nat} {Q : Nat → Int32} (z1 : h1.2 = (b + 69, s)) (g1 : h1.1 b = some (blO b)) (g2 : isSc h1 (b + 1) 0 L) (g3 : ∀ j, L j < 65536) (g4 : isPl h1 (b + 3) 9 (nI 20) tI bI aI jI (fun _ => 0)) (g5 : isPv h1 (b + 9) pv0) (g6 : ∃ K, isPa h1 (b + 15) 0 K (fun _ => pv0)) (g7 : h1.1 (b + 53) = some (styO (b + 53) (b + 3) (b + 9) (b + 53 + 3) 0 0 0 0 0 0 0) ∧ h1.1 (b + 53 + 1) = ii 13 (fun _ => 0) ∧ h1.1 (b + 53 + 2) = ii 66 (fun _ => 0)) (g8 : isLn h1 (b + 53 + 3) 512 0 0 (nI 0) 0 (fun _ _ => 0) (fun _ _ => 0)) (r1 : isR h2 (b + 69) 0 0 0 0 X Q) (r2 : X 2 = rowP 9 20 tI bI aI jI (fun _ => 0)) (r3 : ∀ x, X 11 x = 0) (hz : h2.2 = (b + 83, s + 25317)) (hf : ∀ x, ¬ (b + 69 ≤ x ∧ x < b + 83) → h2.1 x = h1.1 x) : rel h2 b (s + 25317) := by
  have k : ∀ x, x < b + 69 → h2.1 x = h1.1 x := fun x hx => hf x (by omega)
  obtain ⟨K, g6⟩ := g6
  refine ⟨0, L, 9, 20, tI, bI, aI, jI, fun _ => 0, 0, fun _ => pv0, 0, 0, X, Q, ⟨by rw [k _ (by omega)]; exact g1, g2.same (fun x _ q => k x (by omega)), isPl.same g4 (fun x _ q => k x (by omega)), ⟨_, _, _, _, _, _, _, isPl.same g5 (fun x _ q => k x (by omega))⟩, ⟨K, g6.same (fun x _ q => k x (by omega))⟩, ?_⟩, r1, r2, fun j hj => by omega, fun i hi => by omega, rdF.2, by omega, by omega, g3, fun x _ => by rw [r3]; omega, by omega⟩
  refine ⟨0, 0, 0, 0, 0, 0, fun _ => 0, fun _ => 0, ⟨b + 53 + 3, 512, 0, ⟨?_, ?_, ?_, Or.inl ⟨rfl, rfl, hz⟩⟩, by omega, 0, 0, nI 0, 0, fun _ _ => 0, fun _ _ => 0, ?_, ?_, fun z => absurd z (by decide)⟩, by omega, by omega, fun z => absurd z (by decide), fun z => absurd z (by decide)⟩
  · rw [k _ (by omega)]; exact g7.1
  · rw [k _ (by omega)]; exact g7.2.1
  · rw [k _ (by omega)]; exact g7.2.2
  · obtain ⟨e0, e1, e2, e3, e4, e5, e6, e7, e8, e9, e10, e11, e12⟩ := g8
    refine ⟨?_, ?_, ?_, ?_, ?_, ?_, ?_, ?_, ?_, ?_, ?_, ?_, ?_⟩ <;> rw [k _ (by omega)] <;> assumption
  · exact ⟨⟨rfl, rfl, rfl, rfl, rfl⟩, fun _ _ => Nat.zero_le _, fun _ => Nat.two_pow_pos _, fun _ => by show 0 < 4096; omega, rfl⟩
