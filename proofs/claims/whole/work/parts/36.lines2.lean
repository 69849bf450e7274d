/-! LINES: tracing, covered sets, loads, the constructor. -/
theorem trc_b {W : Nat} {l ne sp pl0 : Nat → Nat} (hW : W < 4096) (hp : ∀ e, pl0 e < 2 ^ 60) (hs : ∀ s, s ≤ W → sp s < 2 ^ 48) : ∀ i, (∀ e, (trc W l ne sp pl0 i).1 e ≤ 1000000) ∧ (∀ e, (trc W l ne sp pl0 i).2.1 e < 2 ^ 60) ∧ ∀ e, (trc W l ne sp pl0 i).2.2 e < 4096 := by
  intro i
  induction i with
  | zero =>
    refine ⟨fun e => ?_, fun e => ?_, fun e => ?_⟩
    · show va_up (fun _ => 0) W 1 e ≤ _; unfold va_up; split; omega; exact Nat.zero_le _
    · show va_up pl0 W 0 e < _; unfold va_up; split; exact Nat.two_pow_pos 60; exact hp e
    · show 0 < 4096; omega
  | succ i ih =>
    simp only [trc]
    split
    · rename_i q
      refine ⟨fun e => ?_, fun e => ?_, fun e => ?_⟩
      · show tW l ne _ _ _ e ≤ _; unfold tW; split; exact Nat.min_le_left _ _; exact ih.1 e
      · show tP l ne sp _ _ _ _ e < _
        unfold tP
        split
        · refine or_lt (ih.2.1 _) ?_
          have h1 := hs (sdf (W - i) e) (Nat.le_trans (sub_le (sdf_sub _ _)) (Nat.sub_le _ _))
          have h2 : sp (sdf (W - i) e) * l (W - i) ≤ sp (sdf (W - i) e) * 12 := Nat.mul_le_mul_left _ q.2.2
          omega
        · exact ih.2.1 e
      · show va_up _ _ _ e < 4096
        unfold va_up
        split
        · unfold tH; exact or_lt (k := 12) (ih.2.2 _) (orS_lt (by omega))
        · exact ih.2.2 e
    · exact ih
section LN
variable {h : hc_H} {a N fx wh us C : Nat} {F G : Nat → Nat → Nat}
theorem c_L_traceBest (hp : isLn h a N fx wh (nI C) us F G) (hN : N ≤ 4096) (hW : wh < N) (hF : ∀ k s, F k s ≤ 2000000) (hG0 : ∀ s, G 0 s < 2 ^ 60) (hG1 : ∀ s, s ≤ wh → G 1 s < 2 ^ 48) (hl : ∀ s, F 8 s ≤ 1000) : ∃ h', MA M_L_traceBest [.ref a] h none h' ∧ frm h h' a 13 ∧ isLn h' a N fx wh (nI C) us (va_up (va_up F 9 (trc wh (F 8) (F 7) (G 1) (G 0) wh).1) 1 (trc wh (F 8) (F 7) (G 1) (G 0) wh).2.2) (va_up G 0 (trc wh (F 8) (F 7) (G 1) (G 0) wh).2.1) := by
  obtain ⟨e0, e1, e2, e3, e4, e5, e6, e7, e8, e9, e10, e11, e12⟩ := id hp
  let FS : Nat → Nat → Nat → Nat := fun i => va_up (va_up F 9 (trc wh (F 8) (F 7) (G 1) (G 0) i).1) 1 (trc wh (F 8) (F 7) (G 1) (G 0) i).2.2
  let GS : Nat → Nat → Nat → Nat := fun i => va_up G 0 (trc wh (F 8) (F 7) (G 1) (G 0) i).2.1
  have tb := trc_b (l := F 8) (ne := F 7) (sp := G 1) (pl0 := G 0) (W := wh) (by omega) hG0 hG1
  have loop : ∀ t, t ≤ wh → ∀ h1, isLn h1 a N fx wh (nI C) us (FS (wh - t)) (GS (wh - t)) → frm h h1 a 13 → ∃ h', frm h h' a 13 ∧ isLn h' a N fx wh (nI C) us (FS wh) (GS wh) ∧ cx hc_tt M_L_traceBest h h' none 41 [some (.ref a), some (.int (nI t))] [] h1 := by
    intro t
    induction t with
    | zero =>
      intro _ h1 i1 i2
      refine ⟨h1, i2, i1, sn_L_traceBest_41 _ _ _ ?_⟩
      simp only [vc_L_traceBest_41, vc_L_traceBest_65, qi_push, qi_pushl, qi_iload, qi_lload, qi_aload, qi_istore, qi_astore, qi_lstore, qi_iinc, qi_iadd, qi_isub, qi_imul, qi_iand, qi_ior, qi_ixor, qi_ishl, qi_ishr, qi_iushr, qi_idiv, qi_irem, qi_lor, qi_lmul, qi_ladd, qi_lsub, qi_land, qi_lshl, qi_lshr, qi_i2l, qi_l2i, qi_i2c, qi_lcmp, qi_dup, qi_dup2, qi_pop, qi_if_eq, qi_icmp_eq, qi_if_ne, qi_icmp_ne, qi_if_lt, qi_icmp_lt, qi_if_ge, qi_icmp_ge, qi_if_gt, qi_icmp_gt, qi_if_le, qi_icmp_le, qi_sw, qi_get, qi_put, qi_iald, qi_lald, qi_aald, qi_iast, qi_zast, qi_cast, qi_last, qi_aast, qi_alen, qi_new, qi_newa, qi_newq, qi_obj, qi_invS, qi_invV, qi_invI, qi_iret, qi_zret, qi_lret, qi_vret, qi_acopy, qi_max, qi_min, at_o, at_i, at_l, at_q, at_a, lget, lset, lclr, lnon, lnth, spl, shrt, rpush, true_and, and_true, List.set, List.length, Nat.reduceAdd, Nat.reduceLT, Nat.reduceLeDiff, Nat.reduceEqDiff, Nat.reduceSub]
      exact ⟨fun _ => trivial, fun z => absurd (by decide) z⟩
    | succ t ih =>
      intro ht h1 i1 i2
      obtain ⟨i, hi⟩ : ∃ i, wh - (t + 1) = i := ⟨_, rfl⟩
      have hi2 : wh - t = i + 1 := by omega
      have hi3 : wh - i = t + 1 := by omega
      rw [hi] at i1
      rw [hi2] at ih
      obtain ⟨t1, t2, t3⟩ := tb i
      have bF : ∀ k s, FS i k s ≤ 2000000 := up_le (up_le hF (fun e => by have := t1 e; omega)) (fun e => by have := t3 e; omega)
      have o0 := i1.1
      have o9 : h1.1 (a + 9) = ii N (trc wh (F 8) (F 7) (G 1) (G 0) i).1 := i1.2.2.2.2.2.2.2.2.2.1
      have hv : vp_in (nI (t + 1)) N := vp_in_nI (by omega) (by omega)
      have ct : (nI (t + 1)).toNatClampNeg = t + 1 := nI_clamp (by omega)
      have w1 := t1 (t + 1)
      obtain ⟨h2, c1, c2, c3, c4⟩ := c_L_traceFrom i1 hN hW bF t2 hG1 t3 t1 hl (th := t + 1) ht
      have step : trc wh (F 8) (F 7) (G 1) (G 0) (i + 1) = if 0 < (trc wh (F 8) (F 7) (G 1) (G 0) i).1 (t + 1) ∧ 1 ≤ F 8 (t + 1) ∧ F 8 (t + 1) ≤ 12 then (tW (F 8) (F 7) (trc wh (F 8) (F 7) (G 1) (G 0) i).1 (t + 1) 0, tP (F 8) (F 7) (G 1) (trc wh (F 8) (F 7) (G 1) (G 0) i).1 (trc wh (F 8) (F 7) (G 1) (G 0) i).2.1 (t + 1) 0, va_up (trc wh (F 8) (F 7) (G 1) (G 0) i).2.2 (F 8 (t + 1)) (tH (F 8) (F 7) (trc wh (F 8) (F 7) (G 1) (G 0) i).2.2 (t + 1) 0)) else trc wh (F 8) (F 7) (G 1) (G 0) i := by
        simp only [trc, hi3]
      by_cases q : 0 < (trc wh (F 8) (F 7) (G 1) (G 0) i).1 (t + 1)
      · have l2 : isLn h2 a N fx wh (nI C) us (FS (i + 1)) (GS (i + 1)) := by
          by_cases q2 : 1 ≤ F 8 (t + 1) ∧ F 8 (t + 1) ≤ 12
          · have l3 := c3 q2
            have eF : FS (i + 1) = va_up (va_up (FS i) 9 (tW (F 8) (F 7) (FS i 9) (t + 1) 0)) 1 (va_up (FS i 1) (F 8 (t + 1)) (tH (F 8) (F 7) (FS i 1) (t + 1) 0)) := by
              show va_up (va_up F 9 _) 1 _ = _
              rw [step, if_pos ⟨q, q2⟩]
              funext x
              show va_up (va_up F 9 _) 1 _ x = va_up (va_up (va_up (va_up F 9 _) 1 _) 9 _) 1 _ x
              unfold va_up
              by_cases x1 : x = 1
              · rw [if_pos x1, if_pos x1]; rfl
              · by_cases x9 : x = 9
                · rw [if_neg x1, if_neg x1, if_pos x9, if_pos x9]; rfl
                · simp only [x1, x9, if_false]
            have eG : GS (i + 1) = va_up (GS i) 0 (tP (F 8) (F 7) (GS i 1) (FS i 9) (GS i 0) (t + 1) 0) := by
              show va_up G 0 _ = va_up (va_up G 0 _) 0 _
              rw [step, if_pos ⟨q, q2⟩, bx_uu]
              rfl
            rw [eF, eG]
            exact l3
          · have e9 := c4 q2
            subst e9
            have e8 : trc wh (F 8) (F 7) (G 1) (G 0) (i + 1) = trc wh (F 8) (F 7) (G 1) (G 0) i := by rw [step, if_neg (fun z => q2 z.2)]
            show isLn h2 a N fx wh (nI C) us (va_up (va_up F 9 _) 1 _) (va_up G 0 _)
            rw [e8]
            exact i1
        obtain ⟨h', g1, g2, g3⟩ := ih (by omega) h2 l2 (i2.trans c2)
        refine ⟨h', g1, g2, sn_L_traceBest_41 _ _ _ ?_⟩
        simp only [vc_L_traceBest_41, qi_push, qi_pushl, qi_iload, qi_lload, qi_aload, qi_istore, qi_astore, qi_lstore, qi_iinc, qi_iadd, qi_isub, qi_imul, qi_iand, qi_ior, qi_ixor, qi_ishl, qi_ishr, qi_iushr, qi_idiv, qi_irem, qi_lor, qi_lmul, qi_ladd, qi_lsub, qi_land, qi_lshl, qi_lshr, qi_i2l, qi_l2i, qi_i2c, qi_lcmp, qi_dup, qi_dup2, qi_pop, qi_if_eq, qi_icmp_eq, qi_if_ne, qi_icmp_ne, qi_if_lt, qi_icmp_lt, qi_if_ge, qi_icmp_ge, qi_if_gt, qi_icmp_gt, qi_if_le, qi_icmp_le, qi_sw, qi_get, qi_put, qi_iald, qi_lald, qi_aald, qi_iast, qi_zast, qi_cast, qi_last, qi_aast, qi_alen, qi_new, qi_newa, qi_newq, qi_obj, qi_invS, qi_invV, qi_invI, qi_iret, qi_zret, qi_lret, qi_vret, qi_acopy, qi_max, qi_min, at_o, at_i, at_l, at_q, at_a, lget, lset, lclr, lnon, lnth, spl, shrt, rpush, true_and, and_true, List.set, List.length, Nat.reduceAdd, Nat.reduceLT, Nat.reduceLeDiff, Nat.reduceEqDiff, Nat.reduceSub, o0, o9, hv, ct]
        refine ⟨fun z => absurd z (nI_nle (by omega) (by omega)), fun _ => ⟨fun z => absurd z (nI_nle q (by omega)), fun _ => ⟨_, _, c1, ?_⟩⟩⟩
        simp only [vc_L_traceBest_59, qi_push, qi_pushl, qi_iload, qi_lload, qi_aload, qi_istore, qi_astore, qi_lstore, qi_iinc, qi_iadd, qi_isub, qi_imul, qi_iand, qi_ior, qi_ixor, qi_ishl, qi_ishr, qi_iushr, qi_idiv, qi_irem, qi_lor, qi_lmul, qi_ladd, qi_lsub, qi_land, qi_lshl, qi_lshr, qi_i2l, qi_l2i, qi_i2c, qi_lcmp, qi_dup, qi_dup2, qi_pop, qi_if_eq, qi_icmp_eq, qi_if_ne, qi_icmp_ne, qi_if_lt, qi_icmp_lt, qi_if_ge, qi_icmp_ge, qi_if_gt, qi_icmp_gt, qi_if_le, qi_icmp_le, qi_sw, qi_get, qi_put, qi_iald, qi_lald, qi_aald, qi_iast, qi_zast, qi_cast, qi_last, qi_aast, qi_alen, qi_new, qi_newa, qi_newq, qi_obj, qi_invS, qi_invV, qi_invI, qi_iret, qi_zret, qi_lret, qi_vret, qi_acopy, qi_max, qi_min, at_o, at_i, at_l, at_q, at_a, lget, lset, lclr, lnon, lnth, spl, shrt, rpush, true_and, and_true, List.set, List.length, Nat.reduceAdd, Nat.reduceLT, Nat.reduceLeDiff, Nat.reduceEqDiff, Nat.reduceSub]
        rw [pk_m1]
        exact g3
      · have e8 : trc wh (F 8) (F 7) (G 1) (G 0) (i + 1) = trc wh (F 8) (F 7) (G 1) (G 0) i := by rw [step, if_neg (fun z => q z.1)]
        obtain ⟨h', g1, g2, g3⟩ := ih (by omega) h1 (by show isLn h1 a N fx wh (nI C) us (va_up (va_up F 9 _) 1 _) (va_up G 0 _); rw [e8]; exact i1) i2
        refine ⟨h', g1, g2, sn_L_traceBest_41 _ _ _ ?_⟩
        simp only [vc_L_traceBest_41, vc_L_traceBest_59, qi_push, qi_pushl, qi_iload, qi_lload, qi_aload, qi_istore, qi_astore, qi_lstore, qi_iinc, qi_iadd, qi_isub, qi_imul, qi_iand, qi_ior, qi_ixor, qi_ishl, qi_ishr, qi_iushr, qi_idiv, qi_irem, qi_lor, qi_lmul, qi_ladd, qi_lsub, qi_land, qi_lshl, qi_lshr, qi_i2l, qi_l2i, qi_i2c, qi_lcmp, qi_dup, qi_dup2, qi_pop, qi_if_eq, qi_icmp_eq, qi_if_ne, qi_icmp_ne, qi_if_lt, qi_icmp_lt, qi_if_ge, qi_icmp_ge, qi_if_gt, qi_icmp_gt, qi_if_le, qi_icmp_le, qi_sw, qi_get, qi_put, qi_iald, qi_lald, qi_aald, qi_iast, qi_zast, qi_cast, qi_last, qi_aast, qi_alen, qi_new, qi_newa, qi_newq, qi_obj, qi_invS, qi_invV, qi_invI, qi_iret, qi_zret, qi_lret, qi_vret, qi_acopy, qi_max, qi_min, at_o, at_i, at_l, at_q, at_a, lget, lset, lclr, lnon, lnth, spl, shrt, rpush, true_and, and_true, List.set, List.length, Nat.reduceAdd, Nat.reduceLT, Nat.reduceLeDiff, Nat.reduceEqDiff, Nat.reduceSub, o0, o9, hv, ct]
        rw [pk_m1]
        have q0 : (trc wh (F 8) (F 7) (G 1) (G 0) i).1 (t + 1) = 0 := by omega
        rw [q0]
        exact ⟨fun z => absurd z (nI_nle (by omega) (by omega)), fun _ => ⟨fun _ => g3, fun z => absurd (by decide) z⟩⟩
  -- the start
  obtain ⟨k1, ek1⟩ : ∃ z, hc_set h (a + 9) (.inl (0, N, .inl (fun _ => nI 0))) = z := ⟨_, rfl⟩
  have l1 : isLn k1 a N fx wh (nI C) us (va_up F 9 (fun _ => 0)) G := ek1 ▸ hp.set9
  obtain ⟨k2, ek2⟩ : ∃ z, hc_set k1 (a + 1) (.inl (0, 13, .inl (fun _ => nI 0))) = z := ⟨_, rfl⟩
  have l2 : isLn k2 a N fx wh (nI C) us (va_up (va_up F 9 (fun _ => 0)) 1 (fun _ => 0)) G := ek2 ▸ l1.set1
  obtain ⟨k3, ek3⟩ : ∃ z, hc_set k2 (a + 9) (.inl (0, N, .inl (fun j => nI (va_up (fun _ => 0) wh 1 j)))) = z := ⟨_, rfl⟩
  have l3 : isLn k3 a N fx wh (nI C) us (va_up (va_up (va_up F 9 (fun _ => 0)) 1 (fun _ => 0)) 9 (va_up (fun _ => 0) wh 1)) G := ek3 ▸ l2.set9
  obtain ⟨k4, ek4⟩ : ∃ z, hc_set k3 (a + 11) (.inl (2, N, .inr (.inl (fun j => lN (va_up (G 0) wh 0 j))))) = z := ⟨_, rfl⟩
  have l4 : isLn k4 a N fx wh (nI C) us (va_up (va_up (va_up F 9 (fun _ => 0)) 1 (fun _ => 0)) 9 (va_up (fun _ => 0) wh 1)) (va_up G 0 (va_up (G 0) wh 0)) := ek4 ▸ l3.setP
  have f4 : frm h k4 a 13 := by
    rw [← ek4, ← ek3, ← ek2, ← ek1]
    exact (((frm.rfl'.set (by omega)).set (by omega)).set (by omega)).set (by omega)
  have e4' : va_up (va_up (va_up F 9 (fun _ => 0)) 1 (fun _ => 0)) 9 (va_up (fun _ => 0) wh 1) = FS (wh - wh) := by
    rw [Nat.sub_self]
    funext x
    show va_up (va_up (va_up F 9 _) 1 _) 9 _ x = va_up (va_up F 9 _) 1 _ x
    unfold va_up
    by_cases x1 : x = 1
    · subst x1; rfl
    · by_cases x9 : x = 9
      · subst x9; rfl
      · simp only [x1, x9, if_false]
  have g4' : va_up G 0 (va_up (G 0) wh 0) = GS (wh - wh) := by rw [Nat.sub_self]; rfl
  rw [e4', g4'] at l4
  obtain ⟨h', g1, g2, g3⟩ := loop wh (Nat.le_refl _) k4 l4 f4
  refine ⟨h', MX.of (lv := [some (.ref a), none]) 1 rfl (by decide) (Nat.le_of_ble_eq_true rfl) (sn_L_traceBest_0 _ _ _ ?_), g1, g2⟩
  have hv : vp_in (nI wh) N := vp_in_nI hW (by omega)
  have cw : (nI wh).toNatClampNeg = wh := nI_clamp (by omega)
  have x1 := l1.1
  have x2 := l2.1
  have y1 : k1.1 (a + 1) = ii 13 (F 1) := l1.2.1
  have y2 : k2.1 (a + 9) = ii N (fun _ => 0) := l2.2.2.2.2.2.2.2.2.2.1
  have x3 := l3.1
  have y3 : k3.1 (a + 11) = ll N (G 0) := l3.2.2.2.2.2.2.2.2.2.2.2.1
  have x4 := l4.1
  have u1 : upd (fun _ => nI 0) wh (nI 1) = fun j => nI (va_up (fun _ => 0) wh 1 j) := upd_nI (fun _ => 0) wh 1
  simp only [vc_L_traceBest_0, qi_push, qi_pushl, qi_iload, qi_lload, qi_aload, qi_istore, qi_astore, qi_lstore, qi_iinc, qi_iadd, qi_isub, qi_imul, qi_iand, qi_ior, qi_ixor, qi_ishl, qi_ishr, qi_iushr, qi_idiv, qi_irem, qi_lor, qi_lmul, qi_ladd, qi_lsub, qi_land, qi_lshl, qi_lshr, qi_i2l, qi_l2i, qi_i2c, qi_lcmp, qi_dup, qi_dup2, qi_pop, qi_if_eq, qi_icmp_eq, qi_if_ne, qi_icmp_ne, qi_if_lt, qi_icmp_lt, qi_if_ge, qi_icmp_ge, qi_if_gt, qi_icmp_gt, qi_if_le, qi_icmp_le, qi_sw, qi_get, qi_put, qi_iald, qi_lald, qi_aald, qi_iast, qi_zast, qi_cast, qi_last, qi_aast, qi_alen, qi_new, qi_newa, qi_newq, qi_obj, qi_invS, qi_invV, qi_invI, qi_iret, qi_zret, qi_lret, qi_vret, qi_acopy, qi_max, qi_min, at_o, at_i, at_l, at_q, at_a, lget, lset, lclr, lnon, lnth, spl, shrt, rpush, true_and, and_true, List.set, List.length, Nat.reduceAdd, Nat.reduceLT, Nat.reduceLeDiff, Nat.reduceEqDiff, Nat.reduceSub, e0]
  refine ⟨_, _, c_J_fill (n := N) (f := fun j => nI (F 9 j)) _ e9 (by omega), ?_⟩
  rw [ek1]
  simp only [qi_push, qi_pushl, qi_iload, qi_lload, qi_aload, qi_istore, qi_astore, qi_lstore, qi_iinc, qi_iadd, qi_isub, qi_imul, qi_iand, qi_ior, qi_ixor, qi_ishl, qi_ishr, qi_iushr, qi_idiv, qi_irem, qi_lor, qi_lmul, qi_ladd, qi_lsub, qi_land, qi_lshl, qi_lshr, qi_i2l, qi_l2i, qi_i2c, qi_lcmp, qi_dup, qi_dup2, qi_pop, qi_if_eq, qi_icmp_eq, qi_if_ne, qi_icmp_ne, qi_if_lt, qi_icmp_lt, qi_if_ge, qi_icmp_ge, qi_if_gt, qi_icmp_gt, qi_if_le, qi_icmp_le, qi_sw, qi_get, qi_put, qi_iald, qi_lald, qi_aald, qi_iast, qi_zast, qi_cast, qi_last, qi_aast, qi_alen, qi_new, qi_newa, qi_newq, qi_obj, qi_invS, qi_invV, qi_invI, qi_iret, qi_zret, qi_lret, qi_vret, qi_acopy, qi_max, qi_min, at_o, at_i, at_l, at_q, at_a, lget, lset, lclr, lnon, lnth, spl, shrt, rpush, true_and, and_true, List.set, List.length, Nat.reduceAdd, Nat.reduceLT, Nat.reduceLeDiff, Nat.reduceEqDiff, Nat.reduceSub, x1]
  refine ⟨_, _, c_J_fill (n := 13) (f := fun j => nI (F 1 j)) _ y1 (by omega), ?_⟩
  rw [ek2]
  simp only [qi_push, qi_pushl, qi_iload, qi_lload, qi_aload, qi_istore, qi_astore, qi_lstore, qi_iinc, qi_iadd, qi_isub, qi_imul, qi_iand, qi_ior, qi_ixor, qi_ishl, qi_ishr, qi_iushr, qi_idiv, qi_irem, qi_lor, qi_lmul, qi_ladd, qi_lsub, qi_land, qi_lshl, qi_lshr, qi_i2l, qi_l2i, qi_i2c, qi_lcmp, qi_dup, qi_dup2, qi_pop, qi_if_eq, qi_icmp_eq, qi_if_ne, qi_icmp_ne, qi_if_lt, qi_icmp_lt, qi_if_ge, qi_icmp_ge, qi_if_gt, qi_icmp_gt, qi_if_le, qi_icmp_le, qi_sw, qi_get, qi_put, qi_iald, qi_lald, qi_aald, qi_iast, qi_zast, qi_cast, qi_last, qi_aast, qi_alen, qi_new, qi_newa, qi_newq, qi_obj, qi_invS, qi_invV, qi_invI, qi_iret, qi_zret, qi_lret, qi_vret, qi_acopy, qi_max, qi_min, at_o, at_i, at_l, at_q, at_a, lget, lset, lclr, lnon, lnth, spl, shrt, rpush, true_and, and_true, List.set, List.length, Nat.reduceAdd, Nat.reduceLT, Nat.reduceLeDiff, Nat.reduceEqDiff, Nat.reduceSub, x2, y2, hv, cw, u1, ek3, x3, y3, updL_lN, ek4, x4]
  exact g3
theorem c_L_lineCount (hp : isLn h a N fx wh (nI C) us F G) (hN : N ≤ 4096) (h0 : 0 < N) : MA M_L_lineCount [.ref a] h (some (.int (nI (F 9 0)))) h := by
  obtain ⟨e0, e1, e2, e3, e4, e5, e6, e7, e8, e9, -⟩ := id hp
  refine MX.of (lv := [some (.ref a)]) 0 rfl (by decide) (Nat.le_of_ble_eq_true rfl) (sn_L_lineCount_0 _ _ _ ?_)
  simp only [vc_L_lineCount_0, qi_push, qi_pushl, qi_iload, qi_lload, qi_aload, qi_istore, qi_astore, qi_lstore, qi_iinc, qi_iadd, qi_isub, qi_imul, qi_iand, qi_ior, qi_ixor, qi_ishl, qi_ishr, qi_iushr, qi_idiv, qi_irem, qi_lor, qi_lmul, qi_ladd, qi_lsub, qi_land, qi_lshl, qi_lshr, qi_i2l, qi_l2i, qi_i2c, qi_lcmp, qi_dup, qi_dup2, qi_pop, qi_if_eq, qi_icmp_eq, qi_if_ne, qi_icmp_ne, qi_if_lt, qi_icmp_lt, qi_if_ge, qi_icmp_ge, qi_if_gt, qi_icmp_gt, qi_if_le, qi_icmp_le, qi_sw, qi_get, qi_put, qi_iald, qi_lald, qi_aald, qi_iast, qi_zast, qi_cast, qi_last, qi_aast, qi_alen, qi_new, qi_newa, qi_newq, qi_obj, qi_invS, qi_invV, qi_invI, qi_iret, qi_zret, qi_lret, qi_vret, qi_acopy, qi_max, qi_min, at_o, at_i, at_l, at_q, at_a, lget, lset, lclr, lnon, lnth, spl, shrt, rpush, true_and, and_true, List.set, List.length, Nat.reduceAdd, Nat.reduceLT, Nat.reduceLeDiff, Nat.reduceEqDiff, Nat.reduceSub, e0, e9]
  exact ⟨vp_in_nI h0 (by omega), by rw [show (nI 0).toNatClampNeg = 0 by decide]⟩
theorem c_L_bestPlaces (hp : isLn h a N fx wh (nI C) us F G) (hN : N ≤ 4096) (h0 : 0 < N) : MA M_L_bestPlaces [.ref a] h (some (.long (lN (G 0 0)))) h := by
  obtain ⟨e0, e1, e2, e3, e4, e5, e6, e7, e8, e9, e10, e11, -⟩ := id hp
  refine MX.of (lv := [some (.ref a)]) 0 rfl (by decide) (Nat.le_of_ble_eq_true rfl) (sn_L_bestPlaces_0 _ _ _ ?_)
  simp only [vc_L_bestPlaces_0, qi_push, qi_pushl, qi_iload, qi_lload, qi_aload, qi_istore, qi_astore, qi_lstore, qi_iinc, qi_iadd, qi_isub, qi_imul, qi_iand, qi_ior, qi_ixor, qi_ishl, qi_ishr, qi_iushr, qi_idiv, qi_irem, qi_lor, qi_lmul, qi_ladd, qi_lsub, qi_land, qi_lshl, qi_lshr, qi_i2l, qi_l2i, qi_i2c, qi_lcmp, qi_dup, qi_dup2, qi_pop, qi_if_eq, qi_icmp_eq, qi_if_ne, qi_icmp_ne, qi_if_lt, qi_icmp_lt, qi_if_ge, qi_icmp_ge, qi_if_gt, qi_icmp_gt, qi_if_le, qi_icmp_le, qi_sw, qi_get, qi_put, qi_iald, qi_lald, qi_aald, qi_iast, qi_zast, qi_cast, qi_last, qi_aast, qi_alen, qi_new, qi_newa, qi_newq, qi_obj, qi_invS, qi_invV, qi_invI, qi_iret, qi_zret, qi_lret, qi_vret, qi_acopy, qi_max, qi_min, at_o, at_i, at_l, at_q, at_a, lget, lset, lclr, lnon, lnth, spl, shrt, rpush, true_and, and_true, List.set, List.length, Nat.reduceAdd, Nat.reduceLT, Nat.reduceLeDiff, Nat.reduceEqDiff, Nat.reduceSub, e0, e11]
  exact ⟨vp_in_nI h0 (by omega), by rw [show (nI 0).toNatClampNeg = 0 by decide]⟩
theorem c_L_copyHeldAt (hp : isLn h a N fx wh (nI C) us F G) {q : Nat} {f : Nat → Nat} (hq : h.1 q = ii 13 f) : MA M_L_copyHeldAt [.ref a, .ref q] h none (hc_set h q (.inl (0, 13, .inl (fun j => nI (F 1 j))))) := by
  obtain ⟨e0, e1, -⟩ := id hp
  refine MX.eqv (h' := hc_set h q (.inl (0, 13, .inl (va_cpy (fun j => nI (F 1 j)) (fun j => nI (f j)) 0 0 13)))) (heq.set (fun j hj => by rw [pk_cpy_in (Nat.zero_le _) (by omega)]; simp)) ?_
  refine MX.of (lv := [some (.ref a), some (.ref q)]) 0 rfl (by decide) (Nat.le_of_ble_eq_true rfl) (sn_L_copyHeldAt_0 _ _ _ ?_)
  have z : (¬ nI 0 < 0 ∧ ¬ nI 0 < 0 ∧ ¬ nI 13 < 0 ∧ (nI 0).toNatClampNeg + (nI 13).toNatClampNeg ≤ 13 ∧ (nI 0).toNatClampNeg + (nI 13).toNatClampNeg ≤ 13) := by decide
  have z0 : (nI 0).toNatClampNeg = 0 := by decide
  have z13 : (nI 13).toNatClampNeg = 13 := by decide
  have zm : (if nI 13 < nI 13 then nI 13 else nI 13) = nI 13 := by split <;> rfl
  simp only [vc_L_copyHeldAt_0, qi_push, qi_pushl, qi_iload, qi_lload, qi_aload, qi_istore, qi_astore, qi_lstore, qi_iinc, qi_iadd, qi_isub, qi_imul, qi_iand, qi_ior, qi_ixor, qi_ishl, qi_ishr, qi_iushr, qi_idiv, qi_irem, qi_lor, qi_lmul, qi_ladd, qi_lsub, qi_land, qi_lshl, qi_lshr, qi_i2l, qi_l2i, qi_i2c, qi_lcmp, qi_dup, qi_dup2, qi_pop, qi_if_eq, qi_icmp_eq, qi_if_ne, qi_icmp_ne, qi_if_lt, qi_icmp_lt, qi_if_ge, qi_icmp_ge, qi_if_gt, qi_icmp_gt, qi_if_le, qi_icmp_le, qi_sw, qi_get, qi_put, qi_iald, qi_lald, qi_aald, qi_iast, qi_zast, qi_cast, qi_last, qi_aast, qi_alen, qi_new, qi_newa, qi_newq, qi_obj, qi_invS, qi_invV, qi_invI, qi_iret, qi_zret, qi_lret, qi_vret, qi_acopy, qi_max, qi_min, at_o, at_i, at_l, at_q, at_a, lget, lset, lclr, lnon, lnth, spl, shrt, rpush, true_and, and_true, List.set, List.length, Nat.reduceAdd, Nat.reduceLT, Nat.reduceLeDiff, Nat.reduceEqDiff, Nat.reduceSub, e0, e1, hq, zm]
  simp only [z0, z13]
  refine ⟨?_, trivial⟩
  decide
/-- which sets a greater load holds: given of the greater ones -/
def isCv (ne : Nat → Nat) (n : Nat) (cv : Nat → Nat) (s : Nat) : Prop := (cv s = 1 ∧ ∃ b, b < n ∧ s.testBit b = false ∧ (ne (s ||| 2 ^ b) = 0 ∨ cv (s ||| 2 ^ b) = 1)) ∨ (cv s = 0 ∧ ∀ b, b < n → s.testBit b = false → ¬ (ne (s ||| 2 ^ b) = 0 ∨ cv (s ||| 2 ^ b) = 1))
end LN
