/-! THE MODEL: noting, undoing. -/
theorem isR.setO {h : hc_H} {m len um sp fs len' um' sp' fs' : Nat} {X : Nat → Nat → Nat} {Q : Nat → Int32} (hr : isR h m len um sp fs X Q) : isR (hc_set h m (rfO m len' um' sp' fs')) m len' um' sp' fs' X Q := by
  obtain ⟨e0, e1, e2, e3, e4, e5, e6, e7, e8, e9, e10, e11⟩ := hr
  refine ⟨hs_eq _ _ _, ?_, ?_, ?_, ?_, ?_, ?_, ?_, ?_, ?_, ?_, ?_⟩ <;> rw [hs_ne _ _ (by omega)] <;> assumption
theorem isR.setB {h : hc_H} {m len um sp fs : Nat} {X : Nat → Nat → Nat} {Q : Nat → Int32} {f : Nat → Nat} (hr : isR h m len um sp fs X Q) : isR (hc_set h (m + 3) (.inl (0, 372, .inl (fun j => nI (f j))))) m len um sp fs (va_up X 3 f) Q := by
  obtain ⟨e0, e1, e2, e3, e4, e5, e6, e7, e8, e9, e10, e11⟩ := hr
  refine ⟨?_, ?_, ?_, hs_eq _ _ _, ?_, ?_, ?_, ?_, ?_, ?_, ?_, ?_⟩ <;> rw [hs_ne _ _ (by omega)] <;> assumption
section MO
variable {h : hc_H} {m len um sp fs : Nat} {X : Nat → Nat → Nat} {Q : Nat → Int32}
/-- the first k written -/
def wr (f g : Nat → Nat) (a k : Nat) : Nat → Nat := fun j => if a ≤ j ∧ j < a + k then g (j - a) else f j
theorem wr_up {f g : Nat → Nat} {a k : Nat} : va_up (wr f g a k) (a + k) (g k) = wr f g a (k + 1) := by
  funext j
  show (if j = a + k then g k else (if a ≤ j ∧ j < a + k then g (j - a) else f j)) = if a ≤ j ∧ j < a + (k + 1) then g (j - a) else f j
  by_cases e : j = a + k
  · rw [if_pos e, if_pos (by omega), show j - a = k by omega]
  · rw [if_neg e]
    by_cases e2 : a ≤ j ∧ j < a + k
    · rw [if_pos e2, if_pos (by omega)]
    · rw [if_neg e2, if_neg (by omega)]
theorem wr_0 {f g : Nat → Nat} {a : Nat} : wr f g a 0 = f := funext fun j => if_neg (by omega)
/-- writing the row behind those that are noted -/
theorem note49 {h0 : hc_H} {h : hc_H} (hr : isR h m len um sp fs X Q) (hu : um < 6) (o : Option Value) : cx hc_tt M_R_note h0 (hc_set (hc_set h (m + 3) (.inl (0, 372, .inl (fun j => nI (wr (X 3) (X 2) (62 * um) 62 j))))) m (rfO m len (um + 1) sp fs)) none 51 [some (.ref m), some (.int (nI 0))] [] h := by
  let hx : Nat → hc_H := fun k => hc_set h (m + 3) (.inl (0, 372, .inl (fun j => nI (wr (X 3) (X 2) (62 * um) k j))))
  have rx : ∀ k, isR (hx k) m len um sp fs (va_up X 3 (wr (X 3) (X 2) (62 * um) k)) Q := fun k => hr.setB
  have loop := lp_up (P := fun k => cx hc_tt M_R_note h0 (hc_set (hx 62) m (rfO m len (um + 1) sp fs)) none 51 [some (.ref m), some (.int (nI k))] [] (hx k)) (n := 62)
    (by refine sn_R_note_51 _ _ _ ?_
        have o0 := (rx 62).1
        simp only [vc_R_note_51, vc_R_note_83, qi_push, qi_pushl, qi_iload, qi_lload, qi_aload, qi_istore, qi_astore, qi_lstore, qi_iinc, qi_iadd, qi_isub, qi_imul, qi_iand, qi_ior, qi_ixor, qi_ishl, qi_ishr, qi_iushr, qi_idiv, qi_irem, qi_lor, qi_lmul, qi_ladd, qi_lsub, qi_land, qi_lshl, qi_lshr, qi_i2l, qi_l2i, qi_i2c, qi_lcmp, qi_dup, qi_dup2, qi_pop, qi_if_eq, qi_icmp_eq, qi_if_ne, qi_icmp_ne, qi_if_lt, qi_icmp_lt, qi_if_ge, qi_icmp_ge, qi_if_gt, qi_icmp_gt, qi_if_le, qi_icmp_le, qi_sw, qi_get, qi_put, qi_iald, qi_lald, qi_aald, qi_iast, qi_zast, qi_cast, qi_last, qi_aast, qi_alen, qi_new, qi_newa, qi_newq, qi_obj, qi_invS, qi_invV, qi_invI, qi_iret, qi_zret, qi_lret, qi_vret, qi_acopy, qi_max, qi_min, at_o, at_i, at_l, at_q, at_a, lget, lset, lclr, lnon, lnth, spl, shrt, rpush, true_and, and_true, List.set, List.length, Nat.reduceAdd, Nat.reduceLT, Nat.reduceLeDiff, Nat.reduceEqDiff, Nat.reduceSub, o0, nI_add]
        exact ⟨fun _ => hc_fit_i, fun c => absurd (by decide) c⟩)
    (fun k hk ih => by
        refine sn_R_note_51 _ _ _ ?_
        have o0 := (rx k).1
        have o2 : (hx k).1 (m + 2) = ii 62 (X 2) := (rx k).2.2.1
        have o3 : (hx k).1 (m + 3) = ii 372 (wr (X 3) (X 2) (62 * um) k) := (rx k).2.2.2.1
        simp only [vc_R_note_51, qi_push, qi_pushl, qi_iload, qi_lload, qi_aload, qi_istore, qi_astore, qi_lstore, qi_iinc, qi_iadd, qi_isub, qi_imul, qi_iand, qi_ior, qi_ixor, qi_ishl, qi_ishr, qi_iushr, qi_idiv, qi_irem, qi_lor, qi_lmul, qi_ladd, qi_lsub, qi_land, qi_lshl, qi_lshr, qi_i2l, qi_l2i, qi_i2c, qi_lcmp, qi_dup, qi_dup2, qi_pop, qi_if_eq, qi_icmp_eq, qi_if_ne, qi_icmp_ne, qi_if_lt, qi_icmp_lt, qi_if_ge, qi_icmp_ge, qi_if_gt, qi_icmp_gt, qi_if_le, qi_icmp_le, qi_sw, qi_get, qi_put, qi_iald, qi_lald, qi_aald, qi_iast, qi_zast, qi_cast, qi_last, qi_aast, qi_alen, qi_new, qi_newa, qi_newq, qi_obj, qi_invS, qi_invV, qi_invI, qi_iret, qi_zret, qi_lret, qi_vret, qi_acopy, qi_max, qi_min, at_o, at_i, at_l, at_q, at_a, lget, lset, lclr, lnon, lnth, spl, shrt, rpush, true_and, and_true, List.set, List.length, Nat.reduceAdd, Nat.reduceLT, Nat.reduceLeDiff, Nat.reduceEqDiff, Nat.reduceSub, o0, o2, o3, pk_mul, nI_add]
        rw [nI_clamp (by omega), nI_clamp (by omega), upd_nI, wr_up]
        refine ⟨fun c => absurd c (nI_ge hk (by omega)), fun _ => ⟨vp_in_nI (by omega) (by omega), vp_in_nI (by omega) (by omega), ?_⟩⟩
        have e9 : hc_set (hx k) (m + 3) (.inl (0, 372, .inl (fun j => nI (wr (X 3) (X 2) (62 * um) (k + 1) j)))) = hx (k + 1) := hs_hs _ _ _ _
        rw [e9]
        exact ih)
  have l0 := loop 0 (Nat.zero_le _)
  have e0 : hx 0 = h := by
    show hc_set _ _ _ = h
    rw [wr_0]
    exact hs_self h hr.2.2.2.1
  rw [e0] at l0
  exact l0
end MO
