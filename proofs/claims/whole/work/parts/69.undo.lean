/-! THE MODEL: what is noted; undoing. -/
/-- what is kept true of a plan -/
def vOk (n C : Nat) (T B A J S : Nat → Nat) : Prop := 1 ≤ n ∧ pw n T B A J S ∧ (1 ≤ C ∧ C ≤ 120) ∧ prOk B A J ∧ (∀ x, n ≤ x → B x = 0) ∧ (∀ x, B x < 2 ^ n) ∧ ∀ x, x < n → 1 ≤ T x
/-- the rows that are noted -/
def bfR (f : Nat → Nat) (um : Nat) (V : Nat → pv) : Prop := ∀ i, i < um → ∃ n C T B A J S, V i = (n, nI C, T, B, A, J, S) ∧ vOk n C T B A J S ∧ ∀ k, k < 62 → f (62 * i + k) = rowP n C T B A J S k
theorem bfR_note {f : Nat → Nat} {um n C : Nat} {V : Nat → pv} {T B A J S : Nat → Nat} (hu : um ≤ 6) (hC : vOk n C T B A J S) (hb : bfR f um V) : bfR (ntB um f (rowP n C T B A J S)) (kz um) (kV um V (n, nI C, T, B, A, J, S)) := by
  intro i hi
  unfold kz at hi
  by_cases w : um = 6
  · subst w
    rw [if_neg (by omega)] at hi
    by_cases e : i < 5
    · obtain ⟨n', C', T', B', A', J', S', h1, h2, h3⟩ := hb (i + 1) (by omega)
      refine ⟨n', C', T', B', A', J', S', ?_, h2, fun k hk => ?_⟩
      · unfold kV; rw [if_neg (by omega), if_pos e]; exact h1
      · unfold ntB wr shf
        rw [if_pos rfl, if_neg (by omega), if_pos (by omega), ← h3 k hk]
        exact congrArg f (by omega)
    · refine ⟨n, C, T, B, A, J, S, ?_, hC, fun k hk => ?_⟩
      · unfold kV; rw [if_neg (by omega), if_neg e]
      · unfold ntB wr
        rw [if_pos rfl, if_pos (by omega), show 62 * i + k - 310 = k by omega]
  · rw [if_pos (by omega)] at hi
    by_cases e : i = um
    · refine ⟨n, C, T, B, A, J, S, ?_, hC, fun k hk => ?_⟩
      · unfold kV; rw [if_pos (by omega)]; show (if i = um then _ else V i) = _; rw [if_pos e]
      · unfold ntB wr
        rw [if_neg w, if_pos (by omega), show 62 * i + k - 62 * um = k by rw [e]; omega]
    · obtain ⟨n', C', T', B', A', J', S', h1, h2, h3⟩ := hb i (by omega)
      refine ⟨n', C', T', B', A', J', S', ?_, h2, fun k hk => ?_⟩
      · unfold kV; rw [if_pos (by omega)]; show (if i = um then _ else V i) = _; rw [if_neg e]; exact h1
      · unfold ntB wr
        rw [if_neg w, if_neg (by omega)]
        exact h3 k hk

theorem wr0_up {f g : Nat → Nat} {k : Nat} : va_up (wr f g 0 k) k (g k) = wr f g 0 (k + 1) := by
  have := wr_up (f := f) (g := g) (a := 0) (k := k)
  rwa [Nat.zero_add] at this
section MO
variable {h : hc_H} {m len um sp fs : Nat} {X : Nat → Nat → Nat} {Q : Nat → Int32}
theorem c_R_undo_no (hr : isR h m len 0 sp fs X Q) : MA M_R_undo [.ref m] h (some (.int (-2))) h := by
  have o0 := hr.1
  refine MX.of (lv := [some (.ref m), none]) 1 rfl (by decide) (Nat.le_of_ble_eq_true rfl) (sn_R_undo_0 _ _ _ ?_)
  simp only [vc_R_undo_0, qi_push, qi_pushl, qi_iload, qi_lload, qi_aload, qi_istore, qi_astore, qi_lstore, qi_iinc, qi_iadd, qi_isub, qi_imul, qi_iand, qi_ior, qi_ixor, qi_ishl, qi_ishr, qi_iushr, qi_idiv, qi_irem, qi_lor, qi_lmul, qi_ladd, qi_lsub, qi_land, qi_lshl, qi_lshr, qi_i2l, qi_l2i, qi_i2c, qi_lcmp, qi_dup, qi_dup2, qi_pop, qi_if_eq, qi_icmp_eq, qi_if_ne, qi_icmp_ne, qi_if_lt, qi_icmp_lt, qi_if_ge, qi_icmp_ge, qi_if_gt, qi_icmp_gt, qi_if_le, qi_icmp_le, qi_sw, qi_get, qi_put, qi_iald, qi_lald, qi_aald, qi_iast, qi_zast, qi_cast, qi_last, qi_aast, qi_alen, qi_new, qi_newa, qi_newq, qi_obj, qi_invS, qi_invV, qi_invI, qi_iret, qi_zret, qi_lret, qi_vret, qi_acopy, qi_max, qi_min, at_o, at_i, at_l, at_q, at_a, lget, lset, lclr, lnon, lnth, spl, shrt, rpush, true_and, and_true, List.set, List.length, Nat.reduceAdd, Nat.reduceLT, Nat.reduceLeDiff, Nat.reduceEqDiff, Nat.reduceSub, o0]
  exact ⟨fun c => absurd rfl c, fun _ => trivial⟩
theorem c_R_undo (hr : isR h m len (um + 1) sp fs X Q) (hu : um < 6) {g : Nat → Nat} (hg : ∀ k, k < 62 → X 3 (62 * um + k) = g k) : ∃ h', MA M_R_undo [.ref m] h (some (.int (nI um))) h' ∧ isR h' m len um sp fs (va_up X 2 g) Q ∧ frm h h' m 12 := by
  have o0 := hr.1
  obtain ⟨h1, eh1⟩ : ∃ z, hc_set h m (rfO m len um sp fs) = z := ⟨_, rfl⟩
  have r1 : isR h1 m len um sp fs X Q := eh1 ▸ hr.setO
  let gg : Nat → Nat := fun k => X 3 (62 * um + k)
  let hx : Nat → hc_H := fun k => hc_set h1 (m + 2) (.inl (0, 62, .inl (fun j => nI (wr (X 2) gg 0 k j))))
  have rx : ∀ k, isR (hx k) m len um sp fs (va_up X 2 (wr (X 2) gg 0 k)) Q := fun k => r1.setN
  have loop := lp_up (P := fun k => cx hc_tt M_R_undo h (hx 62) (some (.int (nI um))) 22 [some (.ref m), some (.int (nI k))] [] (hx k)) (n := 62)
    (by have o1 := (rx 62).1
        refine sn_R_undo_22 _ _ _ ?_
        simp only [vc_R_undo_22, vc_R_undo_54, qi_push, qi_pushl, qi_iload, qi_lload, qi_aload, qi_istore, qi_astore, qi_lstore, qi_iinc, qi_iadd, qi_isub, qi_imul, qi_iand, qi_ior, qi_ixor, qi_ishl, qi_ishr, qi_iushr, qi_idiv, qi_irem, qi_lor, qi_lmul, qi_ladd, qi_lsub, qi_land, qi_lshl, qi_lshr, qi_i2l, qi_l2i, qi_i2c, qi_lcmp, qi_dup, qi_dup2, qi_pop, qi_if_eq, qi_icmp_eq, qi_if_ne, qi_icmp_ne, qi_if_lt, qi_icmp_lt, qi_if_ge, qi_icmp_ge, qi_if_gt, qi_icmp_gt, qi_if_le, qi_icmp_le, qi_sw, qi_get, qi_put, qi_iald, qi_lald, qi_aald, qi_iast, qi_zast, qi_cast, qi_last, qi_aast, qi_alen, qi_new, qi_newa, qi_newq, qi_obj, qi_invS, qi_invV, qi_invI, qi_iret, qi_zret, qi_lret, qi_vret, qi_acopy, qi_max, qi_min, at_o, at_i, at_l, at_q, at_a, lget, lset, lclr, lnon, lnth, spl, shrt, rpush, true_and, and_true, List.set, List.length, Nat.reduceAdd, Nat.reduceLT, Nat.reduceLeDiff, Nat.reduceEqDiff, Nat.reduceSub, o1]
        exact ⟨fun _ => trivial, fun c => absurd (by decide) c⟩)
    (fun k hk ih => by
        have o1 := (rx k).1
        have o2 : (hx k).1 (m + 2) = ii 62 (wr (X 2) gg 0 k) := (rx k).2.2.1
        have o3 : (hx k).1 (m + 3) = ii 372 (X 3) := (rx k).2.2.2.1
        refine sn_R_undo_22 _ _ _ ?_
        simp only [vc_R_undo_22, qi_push, qi_pushl, qi_iload, qi_lload, qi_aload, qi_istore, qi_astore, qi_lstore, qi_iinc, qi_iadd, qi_isub, qi_imul, qi_iand, qi_ior, qi_ixor, qi_ishl, qi_ishr, qi_iushr, qi_idiv, qi_irem, qi_lor, qi_lmul, qi_ladd, qi_lsub, qi_land, qi_lshl, qi_lshr, qi_i2l, qi_l2i, qi_i2c, qi_lcmp, qi_dup, qi_dup2, qi_pop, qi_if_eq, qi_icmp_eq, qi_if_ne, qi_icmp_ne, qi_if_lt, qi_icmp_lt, qi_if_ge, qi_icmp_ge, qi_if_gt, qi_icmp_gt, qi_if_le, qi_icmp_le, qi_sw, qi_get, qi_put, qi_iald, qi_lald, qi_aald, qi_iast, qi_zast, qi_cast, qi_last, qi_aast, qi_alen, qi_new, qi_newa, qi_newq, qi_obj, qi_invS, qi_invV, qi_invI, qi_iret, qi_zret, qi_lret, qi_vret, qi_acopy, qi_max, qi_min, at_o, at_i, at_l, at_q, at_a, lget, lset, lclr, lnon, lnth, spl, shrt, rpush, true_and, and_true, List.set, List.length, Nat.reduceAdd, Nat.reduceLT, Nat.reduceLeDiff, Nat.reduceEqDiff, Nat.reduceSub, o1, o2, o3, pk_mul, nI_add]
        rw [nI_clamp (by omega), nI_clamp (by omega), upd_nI, show X 3 (62 * um + k) = gg k from rfl, wr0_up]
        refine ⟨fun c => absurd c (nI_ge hk (by omega)), fun _ => ⟨vp_in_nI (by omega) (by omega), vp_in_nI (by omega) (by omega), ?_⟩⟩
        have e9 : hc_set (hx k) (m + 2) (.inl (0, 62, .inl (fun j => nI (wr (X 2) gg 0 (k + 1) j)))) = hx (k + 1) := hs_hs _ _ _ _
        rw [e9]
        exact ih)
  have hq : heq (hx 62) (hc_set h1 (m + 2) (.inl (0, 62, .inl (fun j => nI (g j))))) := heq.set (fun j hj => by
    show nI (wr (X 2) gg 0 62 j) = nI (g j)
    unfold wr
    rw [if_pos (by omega), Nat.sub_zero]
    exact congrArg nI (hg j hj))
  refine ⟨hc_set h1 (m + 2) (.inl (0, 62, .inl (fun j => nI (g j)))), MX.eqv hq (MX.of (lv := [some (.ref m), none]) 1 rfl (by decide) (Nat.le_of_ble_eq_true rfl) (sn_R_undo_0 _ _ _ ?_)), r1.setN, ?_⟩
  · have l0 := loop 0 (Nat.zero_le _)
    have e0 : hx 0 = h1 := by
      show hc_set _ _ _ = h1
      rw [wr_0]
      exact hs_self h1 r1.2.2.1
    rw [e0, ← eh1] at l0
    simp only [vc_R_undo_0, vc_R_undo_10, qi_push, qi_pushl, qi_iload, qi_lload, qi_aload, qi_istore, qi_astore, qi_lstore, qi_iinc, qi_iadd, qi_isub, qi_imul, qi_iand, qi_ior, qi_ixor, qi_ishl, qi_ishr, qi_iushr, qi_idiv, qi_irem, qi_lor, qi_lmul, qi_ladd, qi_lsub, qi_land, qi_lshl, qi_lshr, qi_i2l, qi_l2i, qi_i2c, qi_lcmp, qi_dup, qi_dup2, qi_pop, qi_if_eq, qi_icmp_eq, qi_if_ne, qi_icmp_ne, qi_if_lt, qi_icmp_lt, qi_if_ge, qi_icmp_ge, qi_if_gt, qi_icmp_gt, qi_if_le, qi_icmp_le, qi_sw, qi_get, qi_put, qi_iald, qi_lald, qi_aald, qi_iast, qi_zast, qi_cast, qi_last, qi_aast, qi_alen, qi_new, qi_newa, qi_newq, qi_obj, qi_invS, qi_invV, qi_invI, qi_iret, qi_zret, qi_lret, qi_vret, qi_acopy, qi_max, qi_min, at_o, at_i, at_l, at_q, at_a, lget, lset, lclr, lnon, lnth, spl, shrt, rpush, true_and, and_true, List.set, List.length, Nat.reduceAdd, Nat.reduceLT, Nat.reduceLeDiff, Nat.reduceEqDiff, Nat.reduceSub, o0]
    rw [pk_sub (by omega), Nat.add_sub_cancel]
    exact ⟨fun _ => ⟨hc_fit_i, l0⟩, fun c => absurd c (nI_ne0 (by omega) (by omega))⟩
  · rw [← eh1]
    exact (frm.rfl'.set (by omega)).set (by omega)
end MO
