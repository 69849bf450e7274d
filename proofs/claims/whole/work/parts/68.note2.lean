/-! THE MODEL: noting. -/
def shf (f : Nat → Nat) (k : Nat) : Nat → Nat := fun j => if j < k then f (62 + j) else f j
theorem shf_up {f : Nat → Nat} {k : Nat} : va_up (shf f k) k (shf f k (62 + k)) = shf f (k + 1) := by
  funext j
  show (if j = k then (if 62 + k < k then f (62 + (62 + k)) else f (62 + k)) else (if j < k then f (62 + j) else f j)) = if j < k + 1 then f (62 + j) else f j
  by_cases e : j = k
  · rw [if_pos e, if_neg (by omega), if_pos (by omega), e]
  · rw [if_neg e]
    by_cases e2 : j < k
    · rw [if_pos e2, if_pos (by omega)]
    · rw [if_neg e2, if_neg (by omega)]
def ntB (um : Nat) (f g : Nat → Nat) : Nat → Nat := if um = 6 then wr (shf f 310) g 310 62 else wr f g (62 * um) 62
section MO
variable {h : hc_H} {m len um sp fs : Nat} {X : Nat → Nat → Nat} {Q : Nat → Int32}
theorem c_R_note (hr : isR h m len um sp fs X Q) (hu : um ≤ 6) : ∃ h', MA M_R_note [.ref m] h none h' ∧ isR h' m len (kz um) sp fs (va_up X 3 (ntB um (X 3) (X 2))) Q ∧ frm h h' m 4 := by
  have o0 := hr.1
  by_cases w : um = 6
  · subst w
    let hx : Nat → hc_H := fun k => hc_set h (m + 3) (.inl (0, 372, .inl (fun j => nI (shf (X 3) k j))))
    have rx : ∀ k, isR (hx k) m len 6 sp fs (va_up X 3 (shf (X 3) k)) Q := fun k => hr.setB
    have r5 : isR (hc_set (hx 310) m (rfO m len 5 sp fs)) m len 5 sp fs (va_up X 3 (shf (X 3) 310)) Q := (rx 310).setO
    have n49 := note49 (h0 := h) r5 (by omega) none
    obtain ⟨hz, ehz⟩ : ∃ z, hc_set (hc_set (hc_set (hx 310) m (rfO m len 5 sp fs)) (m + 3) (.inl (0, 372, .inl (fun j => nI (wr (va_up X 3 (shf (X 3) 310) 3) (va_up X 3 (shf (X 3) 310) 2) (62 * 5) 62 j))))) m (rfO m len (5 + 1) sp fs) = z := ⟨_, rfl⟩
    rw [ehz] at n49
    have loop := lp_up (P := fun k => cx hc_tt M_R_note h hz none 11 [some (.ref m), some (.int (nI k))] [] (hx k)) (n := 310)
      (by refine sn_R_note_11 _ _ _ ?_
          have o1 := (rx 310).1
          simp only [vc_R_note_11, vc_R_note_39, vc_R_note_49, qi_push, qi_pushl, qi_iload, qi_lload, qi_aload, qi_istore, qi_astore, qi_lstore, qi_iinc, qi_iadd, qi_isub, qi_imul, qi_iand, qi_ior, qi_ixor, qi_ishl, qi_ishr, qi_iushr, qi_idiv, qi_irem, qi_lor, qi_lmul, qi_ladd, qi_lsub, qi_land, qi_lshl, qi_lshr, qi_i2l, qi_l2i, qi_i2c, qi_lcmp, qi_dup, qi_dup2, qi_pop, qi_if_eq, qi_icmp_eq, qi_if_ne, qi_icmp_ne, qi_if_lt, qi_icmp_lt, qi_if_ge, qi_icmp_ge, qi_if_gt, qi_icmp_gt, qi_if_le, qi_icmp_le, qi_sw, qi_get, qi_put, qi_iald, qi_lald, qi_aald, qi_iast, qi_zast, qi_cast, qi_last, qi_aast, qi_alen, qi_new, qi_newa, qi_newq, qi_obj, qi_invS, qi_invV, qi_invI, qi_iret, qi_zret, qi_lret, qi_vret, qi_acopy, qi_max, qi_min, at_o, at_i, at_l, at_q, at_a, lget, lset, lclr, lnon, lnth, spl, shrt, rpush, true_and, and_true, List.set, List.length, Nat.reduceAdd, Nat.reduceLT, Nat.reduceLeDiff, Nat.reduceEqDiff, Nat.reduceSub, o1]
          rw [pk_sub (by omega)]
          exact ⟨fun _ => ⟨hc_fit_i, n49⟩, fun c => absurd (by decide) c⟩)
      (fun k hk ih => by
          refine sn_R_note_11 _ _ _ ?_
          have o1 := (rx k).1
          have o3 : (hx k).1 (m + 3) = ii 372 (shf (X 3) k) := (rx k).2.2.2.1
          simp only [vc_R_note_11, qi_push, qi_pushl, qi_iload, qi_lload, qi_aload, qi_istore, qi_astore, qi_lstore, qi_iinc, qi_iadd, qi_isub, qi_imul, qi_iand, qi_ior, qi_ixor, qi_ishl, qi_ishr, qi_iushr, qi_idiv, qi_irem, qi_lor, qi_lmul, qi_ladd, qi_lsub, qi_land, qi_lshl, qi_lshr, qi_i2l, qi_l2i, qi_i2c, qi_lcmp, qi_dup, qi_dup2, qi_pop, qi_if_eq, qi_icmp_eq, qi_if_ne, qi_icmp_ne, qi_if_lt, qi_icmp_lt, qi_if_ge, qi_icmp_ge, qi_if_gt, qi_icmp_gt, qi_if_le, qi_icmp_le, qi_sw, qi_get, qi_put, qi_iald, qi_lald, qi_aald, qi_iast, qi_zast, qi_cast, qi_last, qi_aast, qi_alen, qi_new, qi_newa, qi_newq, qi_obj, qi_invS, qi_invV, qi_invI, qi_iret, qi_zret, qi_lret, qi_vret, qi_acopy, qi_max, qi_min, at_o, at_i, at_l, at_q, at_a, lget, lset, lclr, lnon, lnth, spl, shrt, rpush, true_and, and_true, List.set, List.length, Nat.reduceAdd, Nat.reduceLT, Nat.reduceLeDiff, Nat.reduceEqDiff, Nat.reduceSub, o1, o3, nI_add]
          rw [nI_clamp (by omega), nI_clamp (by omega), upd_nI, shf_up]
          refine ⟨fun c => absurd c (nI_ge hk (by omega)), fun _ => ⟨vp_in_nI (by omega) (by omega), vp_in_nI (by omega) (by omega), ?_⟩⟩
          have e9 : hc_set (hx k) (m + 3) (.inl (0, 372, .inl (fun j => nI (shf (X 3) (k + 1) j)))) = hx (k + 1) := hs_hs _ _ _ _
          rw [e9]
          exact ih)
    have l0 := loop 0 (Nat.zero_le _)
    have e0 : hx 0 = h := by
      show hc_set _ _ _ = h
      rw [show shf (X 3) 0 = X 3 from funext fun j => if_neg (Nat.not_lt_zero _)]
      exact hs_self h hr.2.2.2.1
    rw [e0] at l0
    refine ⟨hz, MX.of (lv := [some (.ref m), none]) 1 rfl (by decide) (Nat.le_of_ble_eq_true rfl) (sn_R_note_0 _ _ _ ?_), ?_, ?_⟩
    · simp only [vc_R_note_0, qi_push, qi_pushl, qi_iload, qi_lload, qi_aload, qi_istore, qi_astore, qi_lstore, qi_iinc, qi_iadd, qi_isub, qi_imul, qi_iand, qi_ior, qi_ixor, qi_ishl, qi_ishr, qi_iushr, qi_idiv, qi_irem, qi_lor, qi_lmul, qi_ladd, qi_lsub, qi_land, qi_lshl, qi_lshr, qi_i2l, qi_l2i, qi_i2c, qi_lcmp, qi_dup, qi_dup2, qi_pop, qi_if_eq, qi_icmp_eq, qi_if_ne, qi_icmp_ne, qi_if_lt, qi_icmp_lt, qi_if_ge, qi_icmp_ge, qi_if_gt, qi_icmp_gt, qi_if_le, qi_icmp_le, qi_sw, qi_get, qi_put, qi_iald, qi_lald, qi_aald, qi_iast, qi_zast, qi_cast, qi_last, qi_aast, qi_alen, qi_new, qi_newa, qi_newq, qi_obj, qi_invS, qi_invV, qi_invI, qi_iret, qi_zret, qi_lret, qi_vret, qi_acopy, qi_max, qi_min, at_o, at_i, at_l, at_q, at_a, lget, lset, lclr, lnon, lnth, spl, shrt, rpush, true_and, and_true, List.set, List.length, Nat.reduceAdd, Nat.reduceLT, Nat.reduceLeDiff, Nat.reduceEqDiff, Nat.reduceSub, o0]
      exact ⟨fun c => absurd trivial c, fun _ => l0⟩
    · have := (r5.setB (f := wr (shf (X 3) 310) (X 2) 310 62)).setO (len' := len) (um' := 6) (sp' := sp) (fs' := fs)
      rw [bx_uu] at this
      rw [← ehz]
      exact this
    · rw [← ehz]
      exact (((frm.rfl'.set (by omega)).set (by omega)).set (by omega)).set (by omega)
  · have n49 := note49 (h0 := h) hr (by omega) none
    refine ⟨hc_set (hc_set h (m + 3) (.inl (0, 372, .inl (fun j => nI (wr (X 3) (X 2) (62 * um) 62 j))))) m (rfO m len (um + 1) sp fs), MX.of (lv := [some (.ref m), none]) 1 rfl (by decide) (Nat.le_of_ble_eq_true rfl) (sn_R_note_0 _ _ _ ?_), ?_, (frm.rfl'.set (by omega)).set (by omega)⟩
    · simp only [vc_R_note_0, vc_R_note_49, qi_push, qi_pushl, qi_iload, qi_lload, qi_aload, qi_istore, qi_astore, qi_lstore, qi_iinc, qi_iadd, qi_isub, qi_imul, qi_iand, qi_ior, qi_ixor, qi_ishl, qi_ishr, qi_iushr, qi_idiv, qi_irem, qi_lor, qi_lmul, qi_ladd, qi_lsub, qi_land, qi_lshl, qi_lshr, qi_i2l, qi_l2i, qi_i2c, qi_lcmp, qi_dup, qi_dup2, qi_pop, qi_if_eq, qi_icmp_eq, qi_if_ne, qi_icmp_ne, qi_if_lt, qi_icmp_lt, qi_if_ge, qi_icmp_ge, qi_if_gt, qi_icmp_gt, qi_if_le, qi_icmp_le, qi_sw, qi_get, qi_put, qi_iald, qi_lald, qi_aald, qi_iast, qi_zast, qi_cast, qi_last, qi_aast, qi_alen, qi_new, qi_newa, qi_newq, qi_obj, qi_invS, qi_invV, qi_invI, qi_iret, qi_zret, qi_lret, qi_vret, qi_acopy, qi_max, qi_min, at_o, at_i, at_l, at_q, at_a, lget, lset, lclr, lnon, lnth, spl, shrt, rpush, true_and, and_true, List.set, List.length, Nat.reduceAdd, Nat.reduceLT, Nat.reduceLeDiff, Nat.reduceEqDiff, Nat.reduceSub, o0]
      exact ⟨fun _ => n49, fun c => absurd ((nI_eq (by omega) (by omega)).mp c) w⟩
    · unfold kz ntB
      rw [if_pos (by omega), if_neg w]
      exact hr.setB.setO
end MO
