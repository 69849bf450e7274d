/-! PLAN: the picture of a Plan at p (its five rows stand behind it), and the contracts of its methods. -/
def isPl (h : hc_H) (p n : Nat) (c : Int32) (T B A J S : Nat → Nat) : Prop :=
  h.1 p = some (.inr (2, [.int (nI n), .int c, .ref (p + 1), .ref (p + 2), .ref (p + 3), .ref (p + 4), .ref (p + 5)])) ∧ h.1 (p + 1) = some (.inl (0, 12, .inl (fun j => nI (T j)))) ∧ h.1 (p + 2) = some (.inl (0, 12, .inl (fun j => nI (B j)))) ∧ h.1 (p + 3) = some (.inl (0, 12, .inl (fun j => nI (A j)))) ∧ h.1 (p + 4) = some (.inl (0, 12, .inl (fun j => nI (J j)))) ∧ h.1 (p + 5) = some (.inl (0, 12, .inl (fun j => nI (S j))))
/-- sum of f over the members of a set below n -/
def tsum (f : Nat → Nat) (s : Nat) : Nat → Nat
  | 0 => 0
  | n + 1 => tsum f s n + if s.testBit n then f n else 0
theorem tsum_le {f : Nat → Nat} {s b : Nat} : ∀ n, (∀ x, x < n → f x ≤ b) → tsum f s n ≤ n * b := by
  intro n
  induction n with
  | zero => intro _; simp [tsum]
  | succ n ih =>
    intro h
    have h1 := ih (fun x hx => h x (by omega))
    have h2 := h n (by omega)
    simp only [tsum]
    rw [Nat.succ_mul]
    split <;> omega
section PL
variable {h : hc_H} {p n : Nat} {c : Int32} {T B A J S : Nat → Nat}
theorem c_P_has (hp : isPl h p n c T B A J S) (hn : n ≤ 12) (t : Int32) : MA M_P_has [.ref p, .int t] h (some (.int (nI (decide (0 ≤ t ∧ t < nI n)).toNat))) h := by
  obtain ⟨e0, -⟩ := hp
  refine MX.of (lv := [some (.ref p), some (.int t)]) 0 rfl (by decide) (Nat.le_of_ble_eq_true rfl) (sn_P_has_0 _ _ _ ?_)
  simp only [vc_P_has_0, vc_P_has_16, vc_P_has_17, qi_push, qi_pushl, qi_iload, qi_lload, qi_aload, qi_istore, qi_astore, qi_lstore, qi_iinc, qi_iadd, qi_isub, qi_imul, qi_iand, qi_ior, qi_ixor, qi_ishl, qi_ishr, qi_iushr, qi_idiv, qi_irem, qi_lor, qi_lmul, qi_ladd, qi_lsub, qi_land, qi_lshl, qi_lshr, qi_i2l, qi_l2i, qi_i2c, qi_lcmp, qi_dup, qi_dup2, qi_pop, qi_if_eq, qi_icmp_eq, qi_if_ne, qi_icmp_ne, qi_if_lt, qi_icmp_lt, qi_if_ge, qi_icmp_ge, qi_if_gt, qi_icmp_gt, qi_if_le, qi_icmp_le, qi_sw, qi_get, qi_put, qi_iald, qi_lald, qi_aald, qi_iast, qi_zast, qi_cast, qi_last, qi_aast, qi_alen, qi_new, qi_newa, qi_newq, qi_obj, qi_invS, qi_invV, qi_invI, qi_iret, qi_zret, qi_lret, qi_vret, qi_acopy, qi_max, qi_min, at_o, at_i, at_l, at_q, at_a, lget, lset, lclr, lnon, lnth, spl, shrt, rpush, true_and, and_true, List.set, List.length, Nat.reduceAdd, Nat.reduceLT, Nat.reduceLeDiff, Nat.reduceEqDiff, Nat.reduceSub, e0]
  refine ⟨fun c1 => ⟨Or.inl rfl, ?_⟩, fun c1 => ⟨fun c2 => ⟨Or.inl rfl, ?_⟩, fun c2 => ⟨Or.inr rfl, ?_⟩⟩⟩
  · rw [decide_eq_false (fun q => absurd c1 (Int32.not_lt.mpr q.1))]; rfl
  · rw [decide_eq_false (fun q => absurd q.2 (Int32.not_lt.mpr c2))]; rfl
  · rw [decide_eq_true ⟨Int32.not_lt.mp c1, Int32.not_le.mp c2⟩]; rfl
theorem c_P_timeOf (hp : isPl h p n c T B A J S) (hn : n ≤ 12) {s : Nat} (hs : s < 2 ^ 31) : MA M_P_timeOf [.ref p, .int (nI s)] h (some (.int (nI (tsum T s n)))) h := by
  obtain ⟨e0, e1, -⟩ := hp
  have loop : ∀ (k x : Nat), x + k = n → cx hc_tt M_P_timeOf h h (some (.int (nI (tsum T s n)))) 4 [some (.ref p), some (.int (nI s)), some (.int (nI (tsum T s x))), some (.int (nI x))] [] h := by
    intro k
    induction k with
    | zero =>
      intro x hx
      refine sn_P_timeOf_4 _ _ _ ?_
      simp only [vc_P_timeOf_4, vc_P_timeOf_36, qi_push, qi_pushl, qi_iload, qi_lload, qi_aload, qi_istore, qi_astore, qi_lstore, qi_iinc, qi_iadd, qi_isub, qi_imul, qi_iand, qi_ior, qi_ixor, qi_ishl, qi_ishr, qi_iushr, qi_idiv, qi_irem, qi_lor, qi_lmul, qi_ladd, qi_lsub, qi_land, qi_lshl, qi_lshr, qi_i2l, qi_l2i, qi_i2c, qi_lcmp, qi_dup, qi_dup2, qi_pop, qi_if_eq, qi_icmp_eq, qi_if_ne, qi_icmp_ne, qi_if_lt, qi_icmp_lt, qi_if_ge, qi_icmp_ge, qi_if_gt, qi_icmp_gt, qi_if_le, qi_icmp_le, qi_sw, qi_get, qi_put, qi_iald, qi_lald, qi_aald, qi_iast, qi_zast, qi_cast, qi_last, qi_aast, qi_alen, qi_new, qi_newa, qi_newq, qi_obj, qi_invS, qi_invV, qi_invI, qi_iret, qi_zret, qi_lret, qi_vret, qi_acopy, qi_max, qi_min, at_o, at_i, at_l, at_q, at_a, lget, lset, lclr, lnon, lnth, spl, shrt, rpush, true_and, and_true, List.set, List.length, Nat.reduceAdd, Nat.reduceLT, Nat.reduceLeDiff, Nat.reduceEqDiff, Nat.reduceSub, e0]
      refine ⟨fun _ => by rw [show x = n by omega], fun c => absurd (nI_le (by omega) (by omega)) c⟩
    | succ k ih =>
      intro x hx
      refine sn_P_timeOf_4 _ _ _ ?_
      simp only [vc_P_timeOf_4, vc_P_timeOf_36, vc_P_timeOf_30, qi_push, qi_pushl, qi_iload, qi_lload, qi_aload, qi_istore, qi_astore, qi_lstore, qi_iinc, qi_iadd, qi_isub, qi_imul, qi_iand, qi_ior, qi_ixor, qi_ishl, qi_ishr, qi_iushr, qi_idiv, qi_irem, qi_lor, qi_lmul, qi_ladd, qi_lsub, qi_land, qi_lshl, qi_lshr, qi_i2l, qi_l2i, qi_i2c, qi_lcmp, qi_dup, qi_dup2, qi_pop, qi_if_eq, qi_icmp_eq, qi_if_ne, qi_icmp_ne, qi_if_lt, qi_icmp_lt, qi_if_ge, qi_icmp_ge, qi_if_gt, qi_icmp_gt, qi_if_le, qi_icmp_le, qi_sw, qi_get, qi_put, qi_iald, qi_lald, qi_aald, qi_iast, qi_zast, qi_cast, qi_last, qi_aast, qi_alen, qi_new, qi_newa, qi_newq, qi_obj, qi_invS, qi_invV, qi_invI, qi_iret, qi_zret, qi_lret, qi_vret, qi_acopy, qi_max, qi_min, at_o, at_i, at_l, at_q, at_a, lget, lset, lclr, lnon, lnth, spl, shrt, rpush, true_and, and_true, List.set, List.length, Nat.reduceAdd, Nat.reduceLT, Nat.reduceLeDiff, Nat.reduceEqDiff, Nat.reduceSub, e0, e1]
      refine ⟨fun c => absurd c (nI_ge (by omega) (by omega)), fun _ => ?_⟩
      rw [ni_bit hs (by omega), nb_ne1, nb_eq1, nI_add, nI_clamp (by omega), nI_add]
      have hi := ih (x + 1) (by omega)
      simp only [tsum] at hi
      refine ⟨fun c => ?_, fun c => ⟨vp_in_nI (by omega) (by omega), ?_⟩⟩
      · rw [c] at hi; exact hi
      · rw [c] at hi; exact hi
  refine MX.of (lv := [some (.ref p), some (.int (nI s)), none, none]) 2 rfl (by decide) (Nat.le_of_ble_eq_true rfl) (sn_P_timeOf_0 _ _ _ ?_)
  simp only [vc_P_timeOf_0, qi_push, qi_pushl, qi_iload, qi_lload, qi_aload, qi_istore, qi_astore, qi_lstore, qi_iinc, qi_iadd, qi_isub, qi_imul, qi_iand, qi_ior, qi_ixor, qi_ishl, qi_ishr, qi_iushr, qi_idiv, qi_irem, qi_lor, qi_lmul, qi_ladd, qi_lsub, qi_land, qi_lshl, qi_lshr, qi_i2l, qi_l2i, qi_i2c, qi_lcmp, qi_dup, qi_dup2, qi_pop, qi_if_eq, qi_icmp_eq, qi_if_ne, qi_icmp_ne, qi_if_lt, qi_icmp_lt, qi_if_ge, qi_icmp_ge, qi_if_gt, qi_icmp_gt, qi_if_le, qi_icmp_le, qi_sw, qi_get, qi_put, qi_iald, qi_lald, qi_aald, qi_iast, qi_zast, qi_cast, qi_last, qi_aast, qi_alen, qi_new, qi_newa, qi_newq, qi_obj, qi_invS, qi_invV, qi_invI, qi_iret, qi_zret, qi_lret, qi_vret, qi_acopy, qi_max, qi_min, at_o, at_i, at_l, at_q, at_a, lget, lset, lclr, lnon, lnth, spl, shrt, rpush, true_and, and_true, List.set, List.length, Nat.reduceAdd, Nat.reduceLT, Nat.reduceLeDiff, Nat.reduceEqDiff, Nat.reduceSub]
  exact loop n 0 (by omega)
end PL
