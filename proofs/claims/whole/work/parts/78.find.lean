/-! THE MODEL: all sets that can be a station. -/
theorem up_ne {α : Type} {f : Nat → α} {k j : Nat} {v : α} (h : ¬ j = k) : va_up f k v j = f j := if_neg h
theorem up_eq {α : Type} {f : Nat → α} {k : Nat} {v : α} : va_up f k v k = v := if_pos rfl
theorem pow_12 {n : Nat} (hn : n ≤ 12) : 2 ^ n ≤ 4096 := Nat.pow_le_pow_right (n := 2) (by omega) hn
section MO
variable {h : hc_H} {m len um sp fs n C : Nat} {X : Nat → Nat → Nat} {Q : Nat → Int32} {T B A J S : Nat → Nat}
theorem c_R_findGood (hr : isR h m len um sp fs X Q) (hX : X 2 = rowP n C T B A J S) (hw : pw n T B A J S) {c : Nat} (hc : c < 2000) : ∃ h' X', MA M_R_findGood [.ref m, .int (nI c)] h none h' ∧ isR h' m len um sp fs X' Q ∧ (∀ j, ¬ j = 5 → ¬ j = 6 → X' j = X j) ∧ fgP n c T B A J X' ∧ frm h h' m 12 := by
  have hn := hw.1
  have l12 := pow_12 hn
  have hpn := Nat.two_pow_pos n
  have v0 : vp_in (nI 0) 62 := vp_in_nI (by omega) (by omega)
  let Z : hc_H → (Nat → Nat → Nat) → Prop := fun h' X' => isR h' m len um sp fs X' Q ∧ (∀ j, ¬ j = 5 → ¬ j = 6 → X' j = X j) ∧ fgP n c T B A J X' ∧ frm h h' m 12
  have outer := lp_up (P := fun k => ∀ h1 X1, isR h1 m len um sp fs X1 Q → (∀ j, ¬ j = 5 → ¬ j = 6 → X1 j = X j) → (∀ s, s < k → X1 5 s = bor B s n ∧ X1 6 s = (gdk n c T A J s n).toNat) → frm h h1 m 12 → ∃ h' X', Z h' X' ∧ ∀ o, cx hc_tt M_R_findGood h h' none 2 [some (.ref m), some (.int (nI c)), some (.int (nI k)), o] [] h1) (n := 2 ^ n)
    (by
      intro h1 X1 r1' q1 g1 f1
      have x2 : X1 2 = rowP n C T B A J S := by rw [q1 2 (by omega) (by omega), hX]
      refine ⟨h1, X1, ⟨r1', q1, g1, f1⟩, fun o => sn_R_findGood_2 _ _ _ ?_⟩
      have o0 := r1'.1
      simp only [vc_R_findGood_2, vc_R_findGood_83, qi_push, qi_pushl, qi_iload, qi_lload, qi_aload, qi_istore, qi_astore, qi_lstore, qi_iinc, qi_iadd, qi_isub, qi_imul, qi_iand, qi_ior, qi_ixor, qi_ishl, qi_ishr, qi_iushr, qi_idiv, qi_irem, qi_lor, qi_lmul, qi_ladd, qi_lsub, qi_land, qi_lshl, qi_lshr, qi_i2l, qi_l2i, qi_i2c, qi_lcmp, qi_dup, qi_dup2, qi_pop, qi_if_eq, qi_icmp_eq, qi_if_ne, qi_icmp_ne, qi_if_lt, qi_icmp_lt, qi_if_ge, qi_icmp_ge, qi_if_gt, qi_icmp_gt, qi_if_le, qi_icmp_le, qi_sw, qi_get, qi_put, qi_iald, qi_lald, qi_aald, qi_iast, qi_zast, qi_cast, qi_last, qi_aast, qi_alen, qi_new, qi_newa, qi_newq, qi_obj, qi_invS, qi_invV, qi_invI, qi_iret, qi_zret, qi_lret, qi_vret, qi_acopy, qi_max, qi_min, at_o, at_i, at_l, at_q, at_a, lget, lset, lclr, lnon, lnth, spl, shrt, rpush, true_and, and_true, List.set, List.length, Nat.reduceAdd, Nat.reduceLT, Nat.reduceLeDiff, Nat.reduceEqDiff, Nat.reduceSub, o0]
      refine ⟨_, _, c_R_all r1' (by rw [x2]; rfl) hn, ?_⟩
      simp only [qi_push, qi_pushl, qi_iload, qi_lload, qi_aload, qi_istore, qi_astore, qi_lstore, qi_iinc, qi_iadd, qi_isub, qi_imul, qi_iand, qi_ior, qi_ixor, qi_ishl, qi_ishr, qi_iushr, qi_idiv, qi_irem, qi_lor, qi_lmul, qi_ladd, qi_lsub, qi_land, qi_lshl, qi_lshr, qi_i2l, qi_l2i, qi_i2c, qi_lcmp, qi_dup, qi_dup2, qi_pop, qi_if_eq, qi_icmp_eq, qi_if_ne, qi_icmp_ne, qi_if_lt, qi_icmp_lt, qi_if_ge, qi_icmp_ge, qi_if_gt, qi_icmp_gt, qi_if_le, qi_icmp_le, qi_sw, qi_get, qi_put, qi_iald, qi_lald, qi_aald, qi_iast, qi_zast, qi_cast, qi_last, qi_aast, qi_alen, qi_new, qi_newa, qi_newq, qi_obj, qi_invS, qi_invV, qi_invI, qi_iret, qi_zret, qi_lret, qi_vret, qi_acopy, qi_max, qi_min, at_o, at_i, at_l, at_q, at_a, lget, lset, lclr, lnon, lnth, spl, shrt, rpush, true_and, and_true, List.set, List.length, Nat.reduceAdd, Nat.reduceLT, Nat.reduceLeDiff, Nat.reduceEqDiff, Nat.reduceSub]
      exact ⟨fun _ => (by first | trivial | exact ⟨rfl, rfl⟩), fun c => absurd (nI_lt (by omega) (by omega)) c⟩)
    (fun k hk ih h1 X1 r1' q1 g1 f1 => by
      have x2 : X1 2 = rowP n C T B A J S := by rw [q1 2 (by omega) (by omega), hX]
      have vk : vp_in (nI k) 4096 := vp_in_nI (by omega) (by omega)
      have ck : (nI k).toNatClampNeg = k := nI_clamp (by omega)
      have inner := lp_up (P := fun t => ∀ h2 X2, isR h2 m len um sp fs X2 Q → (∀ j, ¬ j = 5 → ¬ j = 6 → X2 j = X j) → (∀ s, s < k → X2 5 s = bor B s n ∧ X2 6 s = (gdk n c T A J s n).toNat) → X2 5 k = bor B k t → frm h h2 m 12 → ∃ h' X', Z h' X' ∧ cx hc_tt M_R_findGood h h' none 19 [some (.ref m), some (.int (nI c)), some (.int (nI k)), some (.int (nI t))] [] h2) (n := n)
        (by
          intro h2 X2 r2 q2 g2 b2 f2
          have x2 : X2 2 = rowP n C T B A J S := by rw [q2 2 (by omega) (by omega), hX]
          have r3 := r2.set6 (f := va_up (X2 6) k (gdk n c T A J k n).toNat)
          obtain ⟨h', X', z1, z2⟩ := ih _ _ r3 (fun j h5 h6 => by rw [up_ne h6]; exact q2 j h5 h6) (fun s hs => by
            by_cases e : s = k
            · subst e; exact ⟨b2, up_eq⟩
            · obtain ⟨a1, a2⟩ := g2 s (by omega)
              exact ⟨a1, by show va_up (X2 6) k _ s = _; rw [up_ne e]; exact a2⟩) (f2.set (by omega))
          refine ⟨h', X', z1, sn_R_findGood_19 _ _ _ ?_⟩
          have o0 := r2.1
          have o2 := r2.2.2.1
          have o6 := r2.2.2.2.2.2.2.1
          rw [x2] at o2
          simp only [vc_R_findGood_19, vc_R_findGood_65, qi_push, qi_pushl, qi_iload, qi_lload, qi_aload, qi_istore, qi_astore, qi_lstore, qi_iinc, qi_iadd, qi_isub, qi_imul, qi_iand, qi_ior, qi_ixor, qi_ishl, qi_ishr, qi_iushr, qi_idiv, qi_irem, qi_lor, qi_lmul, qi_ladd, qi_lsub, qi_land, qi_lshl, qi_lshr, qi_i2l, qi_l2i, qi_i2c, qi_lcmp, qi_dup, qi_dup2, qi_pop, qi_if_eq, qi_icmp_eq, qi_if_ne, qi_icmp_ne, qi_if_lt, qi_icmp_lt, qi_if_ge, qi_icmp_ge, qi_if_gt, qi_icmp_gt, qi_if_le, qi_icmp_le, qi_sw, qi_get, qi_put, qi_iald, qi_lald, qi_aald, qi_iast, qi_zast, qi_cast, qi_last, qi_aast, qi_alen, qi_new, qi_newa, qi_newq, qi_obj, qi_invS, qi_invV, qi_invI, qi_iret, qi_zret, qi_lret, qi_vret, qi_acopy, qi_max, qi_min, at_o, at_i, at_l, at_q, at_a, lget, lset, lclr, lnon, lnth, spl, shrt, rpush, true_and, and_true, List.set, List.length, Nat.reduceAdd, Nat.reduceLT, Nat.reduceLeDiff, Nat.reduceEqDiff, Nat.reduceSub, o0, o2, r0, rp_0, v0]
          refine ⟨fun _ => ⟨_, _, c_R_isGood r2 x2 hw (s := k) (by omega) hc, ?_⟩, fun c => absurd (nI_le (Nat.le_refl _) (by omega)) c⟩
          simp only [qi_push, qi_pushl, qi_iload, qi_lload, qi_aload, qi_istore, qi_astore, qi_lstore, qi_iinc, qi_iadd, qi_isub, qi_imul, qi_iand, qi_ior, qi_ixor, qi_ishl, qi_ishr, qi_iushr, qi_idiv, qi_irem, qi_lor, qi_lmul, qi_ladd, qi_lsub, qi_land, qi_lshl, qi_lshr, qi_i2l, qi_l2i, qi_i2c, qi_lcmp, qi_dup, qi_dup2, qi_pop, qi_if_eq, qi_icmp_eq, qi_if_ne, qi_icmp_ne, qi_if_lt, qi_icmp_lt, qi_if_ge, qi_icmp_ge, qi_if_gt, qi_icmp_gt, qi_if_le, qi_icmp_le, qi_sw, qi_get, qi_put, qi_iald, qi_lald, qi_aald, qi_iast, qi_zast, qi_cast, qi_last, qi_aast, qi_alen, qi_new, qi_newa, qi_newq, qi_obj, qi_invS, qi_invV, qi_invI, qi_iret, qi_zret, qi_lret, qi_vret, qi_acopy, qi_max, qi_min, at_o, at_i, at_l, at_q, at_a, lget, lset, lclr, lnon, lnth, spl, shrt, rpush, true_and, and_true, List.set, List.length, Nat.reduceAdd, Nat.reduceLT, Nat.reduceLeDiff, Nat.reduceEqDiff, Nat.reduceSub, o6, vk, ck, nI_add]
          rw [updZ]
          exact z2 _)
        (fun t ht ih2 h2 X2 r2 q2 g2 b2 f2 => by
          have x2 : X2 2 = rowP n C T B A J S := by rw [q2 2 (by omega) (by omega), hX]
          have e : bor B k (t + 1) = if k.testBit t then bor B k t ||| B t else bor B k t := rfl
          have r3 := r2.set5 (f := va_up (X2 5) k (bor B k (t + 1)))
          obtain ⟨h', X', z1, z2⟩ := ih2 _ _ r3 (fun j h5 h6 => by rw [up_ne h5]; exact q2 j h5 h6) (fun s hs => by
            obtain ⟨a1, a2⟩ := g2 s hs
            exact ⟨by show va_up (X2 5) k _ s = _; rw [up_ne (by omega)]; exact a1, a2⟩) up_eq (f2.set (by omega))
          refine ⟨h', X', z1, sn_R_findGood_19 _ _ _ ?_⟩
          have o0 := r2.1
          have o2 := r2.2.2.1
          have o5 := r2.2.2.2.2.2.1
          rw [x2] at o2
          have v14 : vp_in (nI (14 + t)) 62 := vp_in_nI (by omega) (by omega)
          have q14 : (nI (14 + t)).toNatClampNeg = 14 + t := nI_clamp (by omega)
          simp only [vc_R_findGood_19, qi_push, qi_pushl, qi_iload, qi_lload, qi_aload, qi_istore, qi_astore, qi_lstore, qi_iinc, qi_iadd, qi_isub, qi_imul, qi_iand, qi_ior, qi_ixor, qi_ishl, qi_ishr, qi_iushr, qi_idiv, qi_irem, qi_lor, qi_lmul, qi_ladd, qi_lsub, qi_land, qi_lshl, qi_lshr, qi_i2l, qi_l2i, qi_i2c, qi_lcmp, qi_dup, qi_dup2, qi_pop, qi_if_eq, qi_icmp_eq, qi_if_ne, qi_icmp_ne, qi_if_lt, qi_icmp_lt, qi_if_ge, qi_icmp_ge, qi_if_gt, qi_icmp_gt, qi_if_le, qi_icmp_le, qi_sw, qi_get, qi_put, qi_iald, qi_lald, qi_aald, qi_iast, qi_zast, qi_cast, qi_last, qi_aast, qi_alen, qi_new, qi_newa, qi_newq, qi_obj, qi_invS, qi_invV, qi_invI, qi_iret, qi_zret, qi_lret, qi_vret, qi_acopy, qi_max, qi_min, at_o, at_i, at_l, at_q, at_a, lget, lset, lclr, lnon, lnth, spl, shrt, rpush, true_and, and_true, List.set, List.length, Nat.reduceAdd, Nat.reduceLT, Nat.reduceLeDiff, Nat.reduceEqDiff, Nat.reduceSub, o0, o2, o5, r0, rp_0, v0, vk, ck, b2]
          refine ⟨fun c => absurd c (nI_ge ht (by omega)), fun _ => ⟨_, _, c_R_has h2 (show k < 2 ^ 31 by omega) (show t < 31 by omega), ?_⟩⟩
          simp only [vc_R_findGood_56, vc_R_findGood_57, qi_push, qi_pushl, qi_iload, qi_lload, qi_aload, qi_istore, qi_astore, qi_lstore, qi_iinc, qi_iadd, qi_isub, qi_imul, qi_iand, qi_ior, qi_ixor, qi_ishl, qi_ishr, qi_iushr, qi_idiv, qi_irem, qi_lor, qi_lmul, qi_ladd, qi_lsub, qi_land, qi_lshl, qi_lshr, qi_i2l, qi_l2i, qi_i2c, qi_lcmp, qi_dup, qi_dup2, qi_pop, qi_if_eq, qi_icmp_eq, qi_if_ne, qi_icmp_ne, qi_if_lt, qi_icmp_lt, qi_if_ge, qi_icmp_ge, qi_if_gt, qi_icmp_gt, qi_if_le, qi_icmp_le, qi_sw, qi_get, qi_put, qi_iald, qi_lald, qi_aald, qi_iast, qi_zast, qi_cast, qi_last, qi_aast, qi_alen, qi_new, qi_newa, qi_newq, qi_obj, qi_invS, qi_invV, qi_invI, qi_iret, qi_zret, qi_lret, qi_vret, qi_acopy, qi_max, qi_min, at_o, at_i, at_l, at_q, at_a, lget, lset, lclr, lnon, lnth, spl, shrt, rpush, true_and, and_true, List.set, List.length, Nat.reduceAdd, Nat.reduceLT, Nat.reduceLeDiff, Nat.reduceEqDiff, Nat.reduceSub, o0, o2, o5, nI_add, v14, q14, rp_B (show t < 12 by omega), vk, ck]
          rw [ni_or, ni_or, Nat.or_zero, nb_eq0, upd_nI, upd_nI]
          refine ⟨fun c => ?_, fun c => ?_⟩
          · rw [if_neg (by rw [c]; decide)] at e
            rw [← e]; exact z2
          · rw [if_pos (by cases w : k.testBit t; exact absurd w c; rfl)] at e
            rw [← e]; exact z2)
      have r3 := r1'.set5 (f := va_up (X1 5) k 0)
      obtain ⟨h', X', z1, z2⟩ := inner 0 (Nat.zero_le _) _ _ r3 (fun j h5 h6 => by rw [up_ne h5]; exact q1 j h5 h6) (fun s hs => by
        obtain ⟨a1, a2⟩ := g1 s hs
        exact ⟨by show va_up (X1 5) k _ s = _; rw [up_ne (by omega)]; exact a1, a2⟩) up_eq (f1.set (by omega))
      refine ⟨h', X', z1, fun o => sn_R_findGood_2 _ _ _ ?_⟩
      have o0 := r1'.1
      have o5 := r1'.2.2.2.2.2.1
      simp only [vc_R_findGood_2, qi_push, qi_pushl, qi_iload, qi_lload, qi_aload, qi_istore, qi_astore, qi_lstore, qi_iinc, qi_iadd, qi_isub, qi_imul, qi_iand, qi_ior, qi_ixor, qi_ishl, qi_ishr, qi_iushr, qi_idiv, qi_irem, qi_lor, qi_lmul, qi_ladd, qi_lsub, qi_land, qi_lshl, qi_lshr, qi_i2l, qi_l2i, qi_i2c, qi_lcmp, qi_dup, qi_dup2, qi_pop, qi_if_eq, qi_icmp_eq, qi_if_ne, qi_icmp_ne, qi_if_lt, qi_icmp_lt, qi_if_ge, qi_icmp_ge, qi_if_gt, qi_icmp_gt, qi_if_le, qi_icmp_le, qi_sw, qi_get, qi_put, qi_iald, qi_lald, qi_aald, qi_iast, qi_zast, qi_cast, qi_last, qi_aast, qi_alen, qi_new, qi_newa, qi_newq, qi_obj, qi_invS, qi_invV, qi_invI, qi_iret, qi_zret, qi_lret, qi_vret, qi_acopy, qi_max, qi_min, at_o, at_i, at_l, at_q, at_a, lget, lset, lclr, lnon, lnth, spl, shrt, rpush, true_and, and_true, List.set, List.length, Nat.reduceAdd, Nat.reduceLT, Nat.reduceLeDiff, Nat.reduceEqDiff, Nat.reduceSub, o0]
      refine ⟨_, _, c_R_all r1' (by rw [x2]; rfl) hn, ?_⟩
      simp only [qi_push, qi_pushl, qi_iload, qi_lload, qi_aload, qi_istore, qi_astore, qi_lstore, qi_iinc, qi_iadd, qi_isub, qi_imul, qi_iand, qi_ior, qi_ixor, qi_ishl, qi_ishr, qi_iushr, qi_idiv, qi_irem, qi_lor, qi_lmul, qi_ladd, qi_lsub, qi_land, qi_lshl, qi_lshr, qi_i2l, qi_l2i, qi_i2c, qi_lcmp, qi_dup, qi_dup2, qi_pop, qi_if_eq, qi_icmp_eq, qi_if_ne, qi_icmp_ne, qi_if_lt, qi_icmp_lt, qi_if_ge, qi_icmp_ge, qi_if_gt, qi_icmp_gt, qi_if_le, qi_icmp_le, qi_sw, qi_get, qi_put, qi_iald, qi_lald, qi_aald, qi_iast, qi_zast, qi_cast, qi_last, qi_aast, qi_alen, qi_new, qi_newa, qi_newq, qi_obj, qi_invS, qi_invV, qi_invI, qi_iret, qi_zret, qi_lret, qi_vret, qi_acopy, qi_max, qi_min, at_o, at_i, at_l, at_q, at_a, lget, lset, lclr, lnon, lnth, spl, shrt, rpush, true_and, and_true, List.set, List.length, Nat.reduceAdd, Nat.reduceLT, Nat.reduceLeDiff, Nat.reduceEqDiff, Nat.reduceSub, o0, o5, vk, ck]
      rw [upd_nI]
      exact ⟨fun c => absurd c (nI_nlt (by omega) (by omega)), fun _ => z2⟩)
  obtain ⟨h', X', z1, z2⟩ := outer 0 (Nat.zero_le _) h X hr (fun _ _ _ => rfl) (fun s hs => by omega) frm.rfl'
  refine ⟨h', X', MX.of (lv := [some (.ref m), some (.int (nI c)), none, none]) 2 rfl (by decide) (Nat.le_of_ble_eq_true rfl) (sn_R_findGood_0 _ _ _ ?_), z1.1, z1.2.1, z1.2.2.1, z1.2.2.2⟩
  simp only [vc_R_findGood_0, qi_push, qi_pushl, qi_iload, qi_lload, qi_aload, qi_istore, qi_astore, qi_lstore, qi_iinc, qi_iadd, qi_isub, qi_imul, qi_iand, qi_ior, qi_ixor, qi_ishl, qi_ishr, qi_iushr, qi_idiv, qi_irem, qi_lor, qi_lmul, qi_ladd, qi_lsub, qi_land, qi_lshl, qi_lshr, qi_i2l, qi_l2i, qi_i2c, qi_lcmp, qi_dup, qi_dup2, qi_pop, qi_if_eq, qi_icmp_eq, qi_if_ne, qi_icmp_ne, qi_if_lt, qi_icmp_lt, qi_if_ge, qi_icmp_ge, qi_if_gt, qi_icmp_gt, qi_if_le, qi_icmp_le, qi_sw, qi_get, qi_put, qi_iald, qi_lald, qi_aald, qi_iast, qi_zast, qi_cast, qi_last, qi_aast, qi_alen, qi_new, qi_newa, qi_newq, qi_obj, qi_invS, qi_invV, qi_invI, qi_iret, qi_zret, qi_lret, qi_vret, qi_acopy, qi_max, qi_min, at_o, at_i, at_l, at_q, at_a, lget, lset, lclr, lnon, lnth, spl, shrt, rpush, true_and, and_true, List.set, List.length, Nat.reduceAdd, Nat.reduceLT, Nat.reduceLeDiff, Nat.reduceEqDiff, Nat.reduceSub]
  exact z2 none
end MO
