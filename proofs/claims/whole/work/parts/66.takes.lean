/-! THE MODEL: taking off. -/
theorem rp_upS {n C t v : Nat} {T B A J S : Nat → Nat} : va_up (rowP n C T B A J S) (50 + t) v = rowP n C T B A J (va_up S t v) := by
  funext j
  show (if j = 50 + t then v else rowP n C T B A J S j) = _
  unfold rowP
  by_cases e : j = 50 + t
  · rw [if_pos e, if_neg (by omega), if_neg (by omega), if_neg (by omega), if_neg (by omega), if_neg (by omega), if_neg (by omega)]
    show v = (if j - 50 = t then v else S (j - 50))
    rw [if_pos (by omega)]
  · rw [if_neg e]
    repeat' split
    all_goals first | rfl | (show S (j - 50) = (if j - 50 = t then v else S (j - 50)); rw [if_neg (by omega)])
theorem isR.setN {h : hc_H} {m len um sp fs : Nat} {X : Nat → Nat → Nat} {Q : Nat → Int32} {f : Nat → Nat} (hr : isR h m len um sp fs X Q) : isR (hc_set h (m + 2) (.inl (0, 62, .inl (fun j => nI (f j))))) m len um sp fs (va_up X 2 f) Q := by
  obtain ⟨e0, e1, e2, e3, e4, e5, e6, e7, e8, e9, e10, e11⟩ := hr
  refine ⟨?_, ?_, hs_eq _ _ _, ?_, ?_, ?_, ?_, ?_, ?_, ?_, ?_, ?_⟩ <;> rw [hs_ne _ _ (by omega)] <;> assumption
section MO
variable {h : hc_H} {m len um sp fs n C : Nat} {X : Nat → Nat → Nat} {Q : Nat → Int32} {T B A J S : Nat → Nat}
theorem c_R_takesOff (hr : isR h m len um sp fs X Q) (hX : X 2 = rowP n C T B A J S) (hw : pw n T B A J S) (hC : C < 1000) (hp : prOk B A J) : ∃ h', MA M_R_takesOff [.ref m] h none h' ∧ isR h' m len um sp fs (va_up X 2 (rowP n C T B A J (tmS n C T B A J S n))) Q ∧ frm h h' (m + 2) 1 := by
  have hn := hw.1
  let U : Nat → Nat → Nat := tmS n C T B A J S
  let hx : Nat → hc_H := fun k => hc_set h (m + 2) (.inl (0, 62, .inl (fun j => nI (rowP n C T B A J (U k) j))))
  have rx : ∀ k, isR (hx k) m len um sp fs (va_up X 2 (rowP n C T B A J (U k))) Q := fun k => hr.setN
  have wx : ∀ k, pw n T B A J (U k) := fun k => ⟨hw.1, hw.2.1, hw.2.2.1, hw.2.2.2.1, hw.2.2.2.2.1, fun i => tmS_le hw.2.2.2.2.2 k i⟩
  refine ⟨hx n, ?_, rx n, frm.rfl'.set (by omega)⟩
  -- a task that bears it is passed by
  have pass : ∀ k t, t < n → (U k t = 0 ∨ mwn n C T B A J (U k) t (U k t) = 0) → (∀ o, cx hc_tt M_R_takesOff h (hx n) none 2 [some (.ref m), some (.int (nI (t + 1))), o] [] (hx k)) → ∀ o, cx hc_tt M_R_takesOff h (hx n) none 2 [some (.ref m), some (.int (nI t)), o] [] (hx k) := by
    intro k t ht hok next o
    have o0 := (rx k).1
    have o2 := (rx k).2.2.1
    have o2 : (hx k).1 (m + 2) = ii 62 (rowP n C T B A J (U k)) := o2
    have bS := (wx k).2.2.2.2.2 t
    have v50 : vp_in (nI (50 + t)) 62 := vp_in_nI (by omega) (by omega)
    have q50 : (nI (50 + t)).toNatClampNeg = 50 + t := nI_clamp (by omega)
    have back : hc_set (hx k) (m + 2) (.inl (0, 62, .inl (fun j => nI (va_up (rowP n C T B A J (U k)) (50 + t) (U k t) j)))) = hx k := by
      rw [hi_c (g := rowP n C T B A J (U k)) (fun j => by
        show (if j = 50 + t then U k t else rowP n C T B A J (U k) j) = _
        by_cases e : j = 50 + t
        · rw [if_pos e, e, rp_S]
        · rw [if_neg e])]
      exact hs_self _ o2
    have k46 : ∀ u, vc_R_takesOff_46 none (hx n) (cx hc_tt M_R_takesOff h (hx n) none) [some (.ref m), some (.int (nI t)), u] [.int (nI 0)] (hx k) := by
      intro u
      simp only [vc_R_takesOff_46, vc_R_takesOff_63, vc_R_takesOff_72, vc_R_takesOff_81, vc_R_takesOff_84, qi_push, qi_pushl, qi_iload, qi_lload, qi_aload, qi_istore, qi_astore, qi_lstore, qi_iinc, qi_iadd, qi_isub, qi_imul, qi_iand, qi_ior, qi_ixor, qi_ishl, qi_ishr, qi_iushr, qi_idiv, qi_irem, qi_lor, qi_lmul, qi_ladd, qi_lsub, qi_land, qi_lshl, qi_lshr, qi_i2l, qi_l2i, qi_i2c, qi_lcmp, qi_dup, qi_dup2, qi_pop, qi_if_eq, qi_icmp_eq, qi_if_ne, qi_icmp_ne, qi_if_lt, qi_icmp_lt, qi_if_ge, qi_icmp_ge, qi_if_gt, qi_icmp_gt, qi_if_le, qi_icmp_le, qi_sw, qi_get, qi_put, qi_iald, qi_lald, qi_aald, qi_iast, qi_zast, qi_cast, qi_last, qi_aast, qi_alen, qi_new, qi_newa, qi_newq, qi_obj, qi_invS, qi_invV, qi_invI, qi_iret, qi_zret, qi_lret, qi_vret, qi_acopy, qi_max, qi_min, at_o, at_i, at_l, at_q, at_a, lget, lset, lclr, lnon, lnth, spl, shrt, rpush, true_and, and_true, List.set, List.length, Nat.reduceAdd, Nat.reduceLT, Nat.reduceLeDiff, Nat.reduceEqDiff, Nat.reduceSub, o0, o2, nI_add, v50, q50, rp_S]
      rw [upd_nI, back]
      exact ⟨fun _ => ⟨fun _ => next _, fun z => absurd rfl z⟩, fun z => absurd rfl z⟩
    refine sn_R_takesOff_2 _ _ _ ?_
    simp only [vc_R_takesOff_2, vc_R_takesOff_45, qi_push, qi_pushl, qi_iload, qi_lload, qi_aload, qi_istore, qi_astore, qi_lstore, qi_iinc, qi_iadd, qi_isub, qi_imul, qi_iand, qi_ior, qi_ixor, qi_ishl, qi_ishr, qi_iushr, qi_idiv, qi_irem, qi_lor, qi_lmul, qi_ladd, qi_lsub, qi_land, qi_lshl, qi_lshr, qi_i2l, qi_l2i, qi_i2c, qi_lcmp, qi_dup, qi_dup2, qi_pop, qi_if_eq, qi_icmp_eq, qi_if_ne, qi_icmp_ne, qi_if_lt, qi_icmp_lt, qi_if_ge, qi_icmp_ge, qi_if_gt, qi_icmp_gt, qi_if_le, qi_icmp_le, qi_sw, qi_get, qi_put, qi_iald, qi_lald, qi_aald, qi_iast, qi_zast, qi_cast, qi_last, qi_aast, qi_alen, qi_new, qi_newa, qi_newq, qi_obj, qi_invS, qi_invV, qi_invI, qi_iret, qi_zret, qi_lret, qi_vret, qi_acopy, qi_max, qi_min, at_o, at_i, at_l, at_q, at_a, lget, lset, lclr, lnon, lnth, spl, shrt, rpush, true_and, and_true, List.set, List.length, Nat.reduceAdd, Nat.reduceLT, Nat.reduceLeDiff, Nat.reduceEqDiff, Nat.reduceSub, o0, o2, r0, rp_0, nI_add, v50, q50, rp_S]
    refine ⟨vp_in_nI (by omega) (by omega), fun c => absurd c (nI_ge ht (by omega)), fun _ => ⟨fun _ => k46 _, fun c => ⟨_, _, c_R_whyNot (rx k) rfl (wx k) hC (by omega) (by omega), ?_⟩⟩⟩
    rcases hok with q | q
    · rw [q] at c; exact absurd (by decide) c
    · rw [q]
      simp only [qi_push, qi_pushl, qi_iload, qi_lload, qi_aload, qi_istore, qi_astore, qi_lstore, qi_iinc, qi_iadd, qi_isub, qi_imul, qi_iand, qi_ior, qi_ixor, qi_ishl, qi_ishr, qi_iushr, qi_idiv, qi_irem, qi_lor, qi_lmul, qi_ladd, qi_lsub, qi_land, qi_lshl, qi_lshr, qi_i2l, qi_l2i, qi_i2c, qi_lcmp, qi_dup, qi_dup2, qi_pop, qi_if_eq, qi_icmp_eq, qi_if_ne, qi_icmp_ne, qi_if_lt, qi_icmp_lt, qi_if_ge, qi_icmp_ge, qi_if_gt, qi_icmp_gt, qi_if_le, qi_icmp_le, qi_sw, qi_get, qi_put, qi_iald, qi_lald, qi_aald, qi_iast, qi_zast, qi_cast, qi_last, qi_aast, qi_alen, qi_new, qi_newa, qi_newq, qi_obj, qi_invS, qi_invV, qi_invI, qi_iret, qi_zret, qi_lret, qi_vret, qi_acopy, qi_max, qi_min, at_o, at_i, at_l, at_q, at_a, lget, lset, lclr, lnon, lnth, spl, shrt, rpush, true_and, and_true, List.set, List.length, Nat.reduceAdd, Nat.reduceLT, Nat.reduceLeDiff, Nat.reduceEqDiff, Nat.reduceSub]
      exact ⟨fun _ => k46 _, fun z => absurd (by decide) z⟩
  have main := lp_up (P := fun k => ∀ t, t ≤ k → ∀ o, cx hc_tt M_R_takesOff h (hx n) none 2 [some (.ref m), some (.int (nI t)), o] [] (hx k)) (n := n)
    (by
      have ok := (tmS_ok (n := n) (C := C) (T := T) (S := S) hp n).2
      refine lp_up (n := n) (P := fun t => ∀ o, cx hc_tt M_R_takesOff h (hx n) none 2 [some (.ref m), some (.int (nI t)), o] [] (hx n)) ?_ (fun t ht ih => pass n t ht (ok t ht) ih)
      intro o
      have o0 := (rx n).1
      have o2 : (hx n).1 (m + 2) = ii 62 (rowP n C T B A J (U n)) := (rx n).2.2.1
      refine sn_R_takesOff_2 _ _ _ ?_
      simp only [vc_R_takesOff_2, vc_R_takesOff_88, qi_push, qi_pushl, qi_iload, qi_lload, qi_aload, qi_istore, qi_astore, qi_lstore, qi_iinc, qi_iadd, qi_isub, qi_imul, qi_iand, qi_ior, qi_ixor, qi_ishl, qi_ishr, qi_iushr, qi_idiv, qi_irem, qi_lor, qi_lmul, qi_ladd, qi_lsub, qi_land, qi_lshl, qi_lshr, qi_i2l, qi_l2i, qi_i2c, qi_lcmp, qi_dup, qi_dup2, qi_pop, qi_if_eq, qi_icmp_eq, qi_if_ne, qi_icmp_ne, qi_if_lt, qi_icmp_lt, qi_if_ge, qi_icmp_ge, qi_if_gt, qi_icmp_gt, qi_if_le, qi_icmp_le, qi_sw, qi_get, qi_put, qi_iald, qi_lald, qi_aald, qi_iast, qi_zast, qi_cast, qi_last, qi_aast, qi_alen, qi_new, qi_newa, qi_newq, qi_obj, qi_invS, qi_invV, qi_invI, qi_iret, qi_zret, qi_lret, qi_vret, qi_acopy, qi_max, qi_min, at_o, at_i, at_l, at_q, at_a, lget, lset, lclr, lnon, lnth, spl, shrt, rpush, true_and, and_true, List.set, List.length, Nat.reduceAdd, Nat.reduceLT, Nat.reduceLeDiff, Nat.reduceEqDiff, Nat.reduceSub, o0, o2, r0, rp_0]
      exact ⟨vp_in_nI (by omega) (by omega), fun _ => trivial, fun c => absurd (nI_le (Nat.le_refl _) (by omega)) c⟩)
    (fun k hk ih => by
      have ok := (tmS_ok (n := n) (C := C) (T := T) (S := S) hp k).2
      refine lp_up (n := k) (P := fun t => ∀ o, cx hc_tt M_R_takesOff h (hx n) none 2 [some (.ref m), some (.int (nI t)), o] [] (hx k)) ?_ (fun t ht ih2 => pass k t (by omega) (ok t ht) ih2)
      have e : U (k + 1) = if U k k ≠ 0 ∧ wn n C T B A J (U k) k (U k k) ≠ 0 then va_up (U k) k 0 else U k := rfl
      by_cases w : U k k ≠ 0 ∧ wn n C T B A J (U k) k (U k k) ≠ 0
      · rw [if_pos w] at e
        intro o
        have o0 := (rx k).1
        have o2 : (hx k).1 (m + 2) = ii 62 (rowP n C T B A J (U k)) := (rx k).2.2.1
        have bS := (wx k).2.2.2.2.2 k
        have v50 : vp_in (nI (50 + k)) 62 := vp_in_nI (by omega) (by omega)
        have q50 : (nI (50 + k)).toNatClampNeg = 50 + k := nI_clamp (by omega)
        have w2 := w.2
        rw [wn_eq (by omega) hp] at w2
        have ml : mwn n C T B A J (U k) k (U k k) ≤ 5 := by rw [← wn_eq (by omega) hp]; exact wn_le ..
        have nx : hc_set (hx k) (m + 2) (.inl (0, 62, .inl (fun j => nI (va_up (rowP n C T B A J (U k)) (50 + k) 0 j)))) = hx (k + 1) := by
          show hc_set (hc_set _ _ _) _ _ = hc_set _ _ _
          rw [hs_hs, rp_upS, e]
        refine sn_R_takesOff_2 _ _ _ ?_
        simp only [vc_R_takesOff_2, vc_R_takesOff_45, qi_push, qi_pushl, qi_iload, qi_lload, qi_aload, qi_istore, qi_astore, qi_lstore, qi_iinc, qi_iadd, qi_isub, qi_imul, qi_iand, qi_ior, qi_ixor, qi_ishl, qi_ishr, qi_iushr, qi_idiv, qi_irem, qi_lor, qi_lmul, qi_ladd, qi_lsub, qi_land, qi_lshl, qi_lshr, qi_i2l, qi_l2i, qi_i2c, qi_lcmp, qi_dup, qi_dup2, qi_pop, qi_if_eq, qi_icmp_eq, qi_if_ne, qi_icmp_ne, qi_if_lt, qi_icmp_lt, qi_if_ge, qi_icmp_ge, qi_if_gt, qi_icmp_gt, qi_if_le, qi_icmp_le, qi_sw, qi_get, qi_put, qi_iald, qi_lald, qi_aald, qi_iast, qi_zast, qi_cast, qi_last, qi_aast, qi_alen, qi_new, qi_newa, qi_newq, qi_obj, qi_invS, qi_invV, qi_invI, qi_iret, qi_zret, qi_lret, qi_vret, qi_acopy, qi_max, qi_min, at_o, at_i, at_l, at_q, at_a, lget, lset, lclr, lnon, lnth, spl, shrt, rpush, true_and, and_true, List.set, List.length, Nat.reduceAdd, Nat.reduceLT, Nat.reduceLeDiff, Nat.reduceEqDiff, Nat.reduceSub, o0, o2, r0, rp_0, nI_add, v50, q50, rp_S]
        refine ⟨vp_in_nI (by omega) (by omega), fun c => absurd c (nI_ge hk (by omega)), fun _ => ⟨fun c => absurd c (nI_nle (by omega) (by omega)), fun c => ⟨_, _, c_R_whyNot (rx k) rfl (wx k) hC (by omega) (by omega), ?_⟩⟩⟩
        simp only [qi_push, qi_pushl, qi_iload, qi_lload, qi_aload, qi_istore, qi_astore, qi_lstore, qi_iinc, qi_iadd, qi_isub, qi_imul, qi_iand, qi_ior, qi_ixor, qi_ishl, qi_ishr, qi_iushr, qi_idiv, qi_irem, qi_lor, qi_lmul, qi_ladd, qi_lsub, qi_land, qi_lshl, qi_lshr, qi_i2l, qi_l2i, qi_i2c, qi_lcmp, qi_dup, qi_dup2, qi_pop, qi_if_eq, qi_icmp_eq, qi_if_ne, qi_icmp_ne, qi_if_lt, qi_icmp_lt, qi_if_ge, qi_icmp_ge, qi_if_gt, qi_icmp_gt, qi_if_le, qi_icmp_le, qi_sw, qi_get, qi_put, qi_iald, qi_lald, qi_aald, qi_iast, qi_zast, qi_cast, qi_last, qi_aast, qi_alen, qi_new, qi_newa, qi_newq, qi_obj, qi_invS, qi_invV, qi_invI, qi_iret, qi_zret, qi_lret, qi_vret, qi_acopy, qi_max, qi_min, at_o, at_i, at_l, at_q, at_a, lget, lset, lclr, lnon, lnth, spl, shrt, rpush, true_and, and_true, List.set, List.length, Nat.reduceAdd, Nat.reduceLT, Nat.reduceLeDiff, Nat.reduceEqDiff, Nat.reduceSub]
        refine ⟨fun c => absurd c (nI_nle (by omega) (by omega)), fun _ => ?_⟩
        simp only [vc_R_takesOff_46, vc_R_takesOff_72, vc_R_takesOff_84, qi_push, qi_pushl, qi_iload, qi_lload, qi_aload, qi_istore, qi_astore, qi_lstore, qi_iinc, qi_iadd, qi_isub, qi_imul, qi_iand, qi_ior, qi_ixor, qi_ishl, qi_ishr, qi_iushr, qi_idiv, qi_irem, qi_lor, qi_lmul, qi_ladd, qi_lsub, qi_land, qi_lshl, qi_lshr, qi_i2l, qi_l2i, qi_i2c, qi_lcmp, qi_dup, qi_dup2, qi_pop, qi_if_eq, qi_icmp_eq, qi_if_ne, qi_icmp_ne, qi_if_lt, qi_icmp_lt, qi_if_ge, qi_icmp_ge, qi_if_gt, qi_icmp_gt, qi_if_le, qi_icmp_le, qi_sw, qi_get, qi_put, qi_iald, qi_lald, qi_aald, qi_iast, qi_zast, qi_cast, qi_last, qi_aast, qi_alen, qi_new, qi_newa, qi_newq, qi_obj, qi_invS, qi_invV, qi_invI, qi_iret, qi_zret, qi_lret, qi_vret, qi_acopy, qi_max, qi_min, at_o, at_i, at_l, at_q, at_a, lget, lset, lclr, lnon, lnth, spl, shrt, rpush, true_and, and_true, List.set, List.length, Nat.reduceAdd, Nat.reduceLT, Nat.reduceLeDiff, Nat.reduceEqDiff, Nat.reduceSub, o0, o2, nI_add, v50, q50]
        rw [upd_nI, nx]
        exact ⟨fun c => absurd c c10, fun _ => ⟨fun c => absurd c c10, fun _ => ih 0 (Nat.zero_le _) _⟩⟩
      · rw [if_neg w] at e
        have eh : hx (k + 1) = hx k := by show hc_set _ _ _ = hc_set _ _ _; rw [e]
        refine pass k k hk ?_ (fun o => ?_)
        · by_cases q0 : U k k = 0
          · exact Or.inl q0
          · right
            rw [← wn_eq (by omega) hp]
            exact Decidable.not_not.mp fun z => w ⟨q0, z⟩
        · rw [← eh]; exact ih (k + 1) (Nat.le_refl _) o)
  refine MX.of (lv := [some (.ref m), none, none]) 2 rfl (by decide) (Nat.le_of_ble_eq_true rfl) (sn_R_takesOff_0 _ _ _ ?_)
  simp only [vc_R_takesOff_0, qi_push, qi_pushl, qi_iload, qi_lload, qi_aload, qi_istore, qi_astore, qi_lstore, qi_iinc, qi_iadd, qi_isub, qi_imul, qi_iand, qi_ior, qi_ixor, qi_ishl, qi_ishr, qi_iushr, qi_idiv, qi_irem, qi_lor, qi_lmul, qi_ladd, qi_lsub, qi_land, qi_lshl, qi_lshr, qi_i2l, qi_l2i, qi_i2c, qi_lcmp, qi_dup, qi_dup2, qi_pop, qi_if_eq, qi_icmp_eq, qi_if_ne, qi_icmp_ne, qi_if_lt, qi_icmp_lt, qi_if_ge, qi_icmp_ge, qi_if_gt, qi_icmp_gt, qi_if_le, qi_icmp_le, qi_sw, qi_get, qi_put, qi_iald, qi_lald, qi_aald, qi_iast, qi_zast, qi_cast, qi_last, qi_aast, qi_alen, qi_new, qi_newa, qi_newq, qi_obj, qi_invS, qi_invV, qi_invI, qi_iret, qi_zret, qi_lret, qi_vret, qi_acopy, qi_max, qi_min, at_o, at_i, at_l, at_q, at_a, lget, lset, lclr, lnon, lnth, spl, shrt, rpush, true_and, and_true, List.set, List.length, Nat.reduceAdd, Nat.reduceLT, Nat.reduceLeDiff, Nat.reduceEqDiff, Nat.reduceSub]
  have l0 := main 0 (Nat.zero_le _) 0 (Nat.le_refl _) none
  have e0 : hx 0 = h := by
    show hc_set _ _ _ = h
    have : h.1 (m + 2) = ii 62 (rowP n C T B A J S) := by rw [← hX]; exact hr.2.2.1
    exact hs_self h this
  rw [e0] at l0
  exact l0
end MO
