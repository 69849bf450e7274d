/-! SCRIPT: the whole text. -/
/-- reading: the fault's place or none, and what is laid -/
def rdC (L : Nat → Nat) (len : Nat) : Nat → Nat → pv → Option Nat × pv
  | 0, _, v => (none, v)
  | k + 1, x, v => if len ≤ x then (none, v) else if len ≤ eoi L len (len - x) x then (some x, v) else match itC L x (eoi L len (len - x) x) v with
    | none => (some x, v)
    | some w => rdC L len k (eoi L len (len - x) x + 1) w
def pv0 : pv := (0, nI 0, fun _ => 0, fun _ => 0, fun _ => 0, fun _ => 0, fun _ => 0)
theorem pwv0 : pwv pv0 := ⟨Nat.zero_le _, fun _ => Nat.zero_le _, fun _ => by show 0 < 4096; omega, fun _ => by show 0 < 4096; omega, fun _ => by show 0 < 4096; omega, fun _ => Nat.zero_le _⟩
def ftI : Option Nat → Int32
  | some x => nI x
  | none => -4
theorem eoi_ge (L : Nat → Nat) (len : Nat) : ∀ k x, x ≤ eoi L len k x := by
  intro k
  induction k with
  | zero => intro x; exact Nat.le_refl _
  | succ k ih =>
    intro x
    simp only [eoi]
    split
    · exact Nat.le_refl _
    · split
      · exact Nat.le_refl _
      · exact Nat.le_trans (Nat.le_succ _) (ih (x + 1))
theorem eoi_le (L : Nat → Nat) (len : Nat) : ∀ k x, x + k ≤ len → eoi L len k x ≤ len := by
  intro k
  induction k with
  | zero => intro x h; exact h
  | succ k ih =>
    intro x h
    simp only [eoi]
    split
    · omega
    · split
      · omega
      · exact ih (x + 1) (by omega)
section SC
variable {h : hc_H} {a len p : Nat} {L : Nat → Nat} {v : pv}
theorem c_S_readInto (hp : isSc h a len L) (hl : len ≤ 200) (hL : ∀ j, L j < 65536) (hv : isPv h p v) (hd : a + 2 ≤ p ∨ p + 6 ≤ a) : ∃ h' v', MA M_S_readInto [.ref a, .ref p] h (some (.int (ftI (rdC L len 200 0 pv0).1))) h' ∧ isPv h' p v' ∧ pwv v' ∧ frm h h' p 6 ∧ ((rdC L len 200 0 pv0).1 = none → v' = (rdC L len 200 0 pv0).2) := by
  have loop : ∀ (k x : Nat) (h1 : hc_H) (v1 : pv), k ≤ 200 → isSc h1 a len L → isPv h1 p v1 → pwv v1 → x ≤ 200 + 1 → ∃ h' v', (∀ o, cx hc_tt M_S_readInto h h' (some (.int (ftI (rdC L len k x v1).1))) 8 [some (.ref a), some (.ref p), some (.int (nI x)), some (.int (nI (200 - k))), o] [] h1) ∧ isPv h' p v' ∧ pwv v' ∧ frm h1 h' p 6 ∧ ((rdC L len k x v1).1 = none → v' = (rdC L len k x v1).2) := by
    intro k
    induction k with
    | zero =>
      intro x h1 v1 _ s1 p1 w1 _
      refine ⟨h1, v1, fun o => sn_S_readInto_8 _ _ _ ?_, p1, w1, frm.rfl', fun _ => rfl⟩
      simp only [vc_S_readInto_8, vc_S_readInto_63, qi_push, qi_pushl, qi_iload, qi_lload, qi_aload, qi_istore, qi_astore, qi_lstore, qi_iinc, qi_iadd, qi_isub, qi_imul, qi_iand, qi_ior, qi_ixor, qi_ishl, qi_ishr, qi_iushr, qi_idiv, qi_irem, qi_lor, qi_lmul, qi_ladd, qi_lsub, qi_land, qi_lshl, qi_lshr, qi_i2l, qi_l2i, qi_i2c, qi_lcmp, qi_dup, qi_dup2, qi_pop, qi_if_eq, qi_icmp_eq, qi_if_ne, qi_icmp_ne, qi_if_lt, qi_icmp_lt, qi_if_ge, qi_icmp_ge, qi_if_gt, qi_icmp_gt, qi_if_le, qi_icmp_le, qi_sw, qi_get, qi_put, qi_iald, qi_lald, qi_aald, qi_iast, qi_zast, qi_cast, qi_last, qi_aast, qi_alen, qi_new, qi_newa, qi_newq, qi_obj, qi_invS, qi_invV, qi_invI, qi_iret, qi_zret, qi_lret, qi_vret, qi_acopy, qi_max, qi_min, at_o, at_i, at_l, at_q, at_a, lget, lset, lclr, lnon, lnth, spl, shrt, rpush, true_and, and_true, List.set, List.length, Nat.reduceAdd, Nat.reduceLT, Nat.reduceLeDiff, Nat.reduceEqDiff, Nat.reduceSub]
      exact ⟨fun _ => rfl, fun c => absurd (by decide) c⟩
    | succ k ih =>
      intro x h1 v1 hk s1 p1 w1 hx
      obtain ⟨e0, e1⟩ := id s1
      have hlt : 200 - (k + 1) < 200 := by omega
      by_cases q : len ≤ x
      · have hr : rdC L len (k + 1) x v1 = (none, v1) := by simp only [rdC]; rw [if_pos q]
        rw [hr]
        refine ⟨h1, v1, fun o => sn_S_readInto_8 _ _ _ ?_, p1, w1, frm.rfl', fun _ => rfl⟩
        simp only [vc_S_readInto_8, vc_S_readInto_63, qi_push, qi_pushl, qi_iload, qi_lload, qi_aload, qi_istore, qi_astore, qi_lstore, qi_iinc, qi_iadd, qi_isub, qi_imul, qi_iand, qi_ior, qi_ixor, qi_ishl, qi_ishr, qi_iushr, qi_idiv, qi_irem, qi_lor, qi_lmul, qi_ladd, qi_lsub, qi_land, qi_lshl, qi_lshr, qi_i2l, qi_l2i, qi_i2c, qi_lcmp, qi_dup, qi_dup2, qi_pop, qi_if_eq, qi_icmp_eq, qi_if_ne, qi_icmp_ne, qi_if_lt, qi_icmp_lt, qi_if_ge, qi_icmp_ge, qi_if_gt, qi_icmp_gt, qi_if_le, qi_icmp_le, qi_sw, qi_get, qi_put, qi_iald, qi_lald, qi_aald, qi_iast, qi_zast, qi_cast, qi_last, qi_aast, qi_alen, qi_new, qi_newa, qi_newq, qi_obj, qi_invS, qi_invV, qi_invI, qi_iret, qi_zret, qi_lret, qi_vret, qi_acopy, qi_max, qi_min, at_o, at_i, at_l, at_q, at_a, lget, lset, lclr, lnon, lnth, spl, shrt, rpush, true_and, and_true, List.set, List.length, Nat.reduceAdd, Nat.reduceLT, Nat.reduceLeDiff, Nat.reduceEqDiff, Nat.reduceSub, e0]
        exact ⟨fun _ => rfl, fun _ => ⟨fun _ => rfl, fun c => absurd (nI_le q (by omega)) c⟩⟩
      · have ce := c_S_endOfItem s1 hl hL (x := x) (by omega)
        have g1 := eoi_ge L len (len - x) x
        have g2 := eoi_le L len (len - x) x (by omega)
        by_cases q2 : len ≤ eoi L len (len - x) x
        · have hr : rdC L len (k + 1) x v1 = (some x, v1) := by simp only [rdC]; rw [if_neg q, if_pos q2]
          rw [hr]
          refine ⟨h1, v1, fun o => sn_S_readInto_8 _ _ _ ?_, p1, w1, frm.rfl', fun z => by cases z⟩
          simp only [vc_S_readInto_8, qi_push, qi_pushl, qi_iload, qi_lload, qi_aload, qi_istore, qi_astore, qi_lstore, qi_iinc, qi_iadd, qi_isub, qi_imul, qi_iand, qi_ior, qi_ixor, qi_ishl, qi_ishr, qi_iushr, qi_idiv, qi_irem, qi_lor, qi_lmul, qi_ladd, qi_lsub, qi_land, qi_lshl, qi_lshr, qi_i2l, qi_l2i, qi_i2c, qi_lcmp, qi_dup, qi_dup2, qi_pop, qi_if_eq, qi_icmp_eq, qi_if_ne, qi_icmp_ne, qi_if_lt, qi_icmp_lt, qi_if_ge, qi_icmp_ge, qi_if_gt, qi_icmp_gt, qi_if_le, qi_icmp_le, qi_sw, qi_get, qi_put, qi_iald, qi_lald, qi_aald, qi_iast, qi_zast, qi_cast, qi_last, qi_aast, qi_alen, qi_new, qi_newa, qi_newq, qi_obj, qi_invS, qi_invV, qi_invI, qi_iret, qi_zret, qi_lret, qi_vret, qi_acopy, qi_max, qi_min, at_o, at_i, at_l, at_q, at_a, lget, lset, lclr, lnon, lnth, spl, shrt, rpush, true_and, and_true, List.set, List.length, Nat.reduceAdd, Nat.reduceLT, Nat.reduceLeDiff, Nat.reduceEqDiff, Nat.reduceSub, e0]
          refine ⟨fun c => absurd c (nI_ge hlt (by omega)), fun _ => ⟨fun c => absurd c (nI_ge (by omega) (by omega)), fun _ => ⟨_, _, ce, ?_⟩⟩⟩
          simp only [vc_S_readInto_50, qi_push, qi_pushl, qi_iload, qi_lload, qi_aload, qi_istore, qi_astore, qi_lstore, qi_iinc, qi_iadd, qi_isub, qi_imul, qi_iand, qi_ior, qi_ixor, qi_ishl, qi_ishr, qi_iushr, qi_idiv, qi_irem, qi_lor, qi_lmul, qi_ladd, qi_lsub, qi_land, qi_lshl, qi_lshr, qi_i2l, qi_l2i, qi_i2c, qi_lcmp, qi_dup, qi_dup2, qi_pop, qi_if_eq, qi_icmp_eq, qi_if_ne, qi_icmp_ne, qi_if_lt, qi_icmp_lt, qi_if_ge, qi_icmp_ge, qi_if_gt, qi_icmp_gt, qi_if_le, qi_icmp_le, qi_sw, qi_get, qi_put, qi_iald, qi_lald, qi_aald, qi_iast, qi_zast, qi_cast, qi_last, qi_aast, qi_alen, qi_new, qi_newa, qi_newq, qi_obj, qi_invS, qi_invV, qi_invI, qi_iret, qi_zret, qi_lret, qi_vret, qi_acopy, qi_max, qi_min, at_o, at_i, at_l, at_q, at_a, lget, lset, lclr, lnon, lnth, spl, shrt, rpush, true_and, and_true, List.set, List.length, Nat.reduceAdd, Nat.reduceLT, Nat.reduceLeDiff, Nat.reduceEqDiff, Nat.reduceSub, e0]
          exact ⟨fun _ => rfl, fun c => absurd (nI_le q2 (by omega)) c⟩
        · obtain ⟨h2, v2, c1, c2, c3, c4, c5⟩ := c_S_takeItem s1 hl hL p1 w1 hd (x := x) (e := eoi L len (len - x) x) (by omega) g1 (by omega)
          cases hi : itC L x (eoi L len (len - x) x) v1 with
          | none =>
            have hr : rdC L len (k + 1) x v1 = (some x, v1) := by simp only [rdC]; rw [if_neg q, if_neg q2, hi]
            rw [hr]
            rw [hi] at c1
            refine ⟨h2, v2, fun o => sn_S_readInto_8 _ _ _ ?_, c2, c3, c4, fun z => by cases z⟩
            simp only [vc_S_readInto_8, qi_push, qi_pushl, qi_iload, qi_lload, qi_aload, qi_istore, qi_astore, qi_lstore, qi_iinc, qi_iadd, qi_isub, qi_imul, qi_iand, qi_ior, qi_ixor, qi_ishl, qi_ishr, qi_iushr, qi_idiv, qi_irem, qi_lor, qi_lmul, qi_ladd, qi_lsub, qi_land, qi_lshl, qi_lshr, qi_i2l, qi_l2i, qi_i2c, qi_lcmp, qi_dup, qi_dup2, qi_pop, qi_if_eq, qi_icmp_eq, qi_if_ne, qi_icmp_ne, qi_if_lt, qi_icmp_lt, qi_if_ge, qi_icmp_ge, qi_if_gt, qi_icmp_gt, qi_if_le, qi_icmp_le, qi_sw, qi_get, qi_put, qi_iald, qi_lald, qi_aald, qi_iast, qi_zast, qi_cast, qi_last, qi_aast, qi_alen, qi_new, qi_newa, qi_newq, qi_obj, qi_invS, qi_invV, qi_invI, qi_iret, qi_zret, qi_lret, qi_vret, qi_acopy, qi_max, qi_min, at_o, at_i, at_l, at_q, at_a, lget, lset, lclr, lnon, lnth, spl, shrt, rpush, true_and, and_true, List.set, List.length, Nat.reduceAdd, Nat.reduceLT, Nat.reduceLeDiff, Nat.reduceEqDiff, Nat.reduceSub, e0]
            refine ⟨fun c => absurd c (nI_ge hlt (by omega)), fun _ => ⟨fun c => absurd c (nI_ge (by omega) (by omega)), fun _ => ⟨_, _, ce, ?_⟩⟩⟩
            simp only [vc_S_readInto_50, qi_push, qi_pushl, qi_iload, qi_lload, qi_aload, qi_istore, qi_astore, qi_lstore, qi_iinc, qi_iadd, qi_isub, qi_imul, qi_iand, qi_ior, qi_ixor, qi_ishl, qi_ishr, qi_iushr, qi_idiv, qi_irem, qi_lor, qi_lmul, qi_ladd, qi_lsub, qi_land, qi_lshl, qi_lshr, qi_i2l, qi_l2i, qi_i2c, qi_lcmp, qi_dup, qi_dup2, qi_pop, qi_if_eq, qi_icmp_eq, qi_if_ne, qi_icmp_ne, qi_if_lt, qi_icmp_lt, qi_if_ge, qi_icmp_ge, qi_if_gt, qi_icmp_gt, qi_if_le, qi_icmp_le, qi_sw, qi_get, qi_put, qi_iald, qi_lald, qi_aald, qi_iast, qi_zast, qi_cast, qi_last, qi_aast, qi_alen, qi_new, qi_newa, qi_newq, qi_obj, qi_invS, qi_invV, qi_invI, qi_iret, qi_zret, qi_lret, qi_vret, qi_acopy, qi_max, qi_min, at_o, at_i, at_l, at_q, at_a, lget, lset, lclr, lnon, lnth, spl, shrt, rpush, true_and, and_true, List.set, List.length, Nat.reduceAdd, Nat.reduceLT, Nat.reduceLeDiff, Nat.reduceEqDiff, Nat.reduceSub, e0]
            refine ⟨fun c => absurd c (nI_ge (by omega) (by omega)), fun _ => ⟨_, _, c1, ?_⟩⟩
            simp only [vc_S_readInto_50, vc_S_readInto_52, qi_push, qi_pushl, qi_iload, qi_lload, qi_aload, qi_istore, qi_astore, qi_lstore, qi_iinc, qi_iadd, qi_isub, qi_imul, qi_iand, qi_ior, qi_ixor, qi_ishl, qi_ishr, qi_iushr, qi_idiv, qi_irem, qi_lor, qi_lmul, qi_ladd, qi_lsub, qi_land, qi_lshl, qi_lshr, qi_i2l, qi_l2i, qi_i2c, qi_lcmp, qi_dup, qi_dup2, qi_pop, qi_if_eq, qi_icmp_eq, qi_if_ne, qi_icmp_ne, qi_if_lt, qi_icmp_lt, qi_if_ge, qi_icmp_ge, qi_if_gt, qi_icmp_gt, qi_if_le, qi_icmp_le, qi_sw, qi_get, qi_put, qi_iald, qi_lald, qi_aald, qi_iast, qi_zast, qi_cast, qi_last, qi_aast, qi_alen, qi_new, qi_newa, qi_newq, qi_obj, qi_invS, qi_invV, qi_invI, qi_iret, qi_zret, qi_lret, qi_vret, qi_acopy, qi_max, qi_min, at_o, at_i, at_l, at_q, at_a, lget, lset, lclr, lnon, lnth, spl, shrt, rpush, true_and, and_true, List.set, List.length, Nat.reduceAdd, Nat.reduceLT, Nat.reduceLeDiff, Nat.reduceEqDiff, Nat.reduceSub]
            exact ⟨fun c => absurd rfl c, fun _ => rfl⟩
          | some w =>
            have hr : rdC L len (k + 1) x v1 = rdC L len k (eoi L len (len - x) x + 1) w := by simp only [rdC]; rw [if_neg q, if_neg q2, hi]
            have hw := c5 w hi
            subst hw
            rw [hr]
            rw [hi] at c1
            obtain ⟨h', v', d1, d2, d3, d4, d5⟩ := ih (eoi L len (len - x) x + 1) h2 v2 (by omega) (s1.keep c4 hd) c2 c3 (by omega)
            refine ⟨h', v', fun o => sn_S_readInto_8 _ _ _ ?_, d2, d3, c4.trans d4, d5⟩
            simp only [vc_S_readInto_8, qi_push, qi_pushl, qi_iload, qi_lload, qi_aload, qi_istore, qi_astore, qi_lstore, qi_iinc, qi_iadd, qi_isub, qi_imul, qi_iand, qi_ior, qi_ixor, qi_ishl, qi_ishr, qi_iushr, qi_idiv, qi_irem, qi_lor, qi_lmul, qi_ladd, qi_lsub, qi_land, qi_lshl, qi_lshr, qi_i2l, qi_l2i, qi_i2c, qi_lcmp, qi_dup, qi_dup2, qi_pop, qi_if_eq, qi_icmp_eq, qi_if_ne, qi_icmp_ne, qi_if_lt, qi_icmp_lt, qi_if_ge, qi_icmp_ge, qi_if_gt, qi_icmp_gt, qi_if_le, qi_icmp_le, qi_sw, qi_get, qi_put, qi_iald, qi_lald, qi_aald, qi_iast, qi_zast, qi_cast, qi_last, qi_aast, qi_alen, qi_new, qi_newa, qi_newq, qi_obj, qi_invS, qi_invV, qi_invI, qi_iret, qi_zret, qi_lret, qi_vret, qi_acopy, qi_max, qi_min, at_o, at_i, at_l, at_q, at_a, lget, lset, lclr, lnon, lnth, spl, shrt, rpush, true_and, and_true, List.set, List.length, Nat.reduceAdd, Nat.reduceLT, Nat.reduceLeDiff, Nat.reduceEqDiff, Nat.reduceSub, e0]
            refine ⟨fun c => absurd c (nI_ge hlt (by omega)), fun _ => ⟨fun c => absurd c (nI_ge (by omega) (by omega)), fun _ => ⟨_, _, ce, ?_⟩⟩⟩
            simp only [qi_push, qi_pushl, qi_iload, qi_lload, qi_aload, qi_istore, qi_astore, qi_lstore, qi_iinc, qi_iadd, qi_isub, qi_imul, qi_iand, qi_ior, qi_ixor, qi_ishl, qi_ishr, qi_iushr, qi_idiv, qi_irem, qi_lor, qi_lmul, qi_ladd, qi_lsub, qi_land, qi_lshl, qi_lshr, qi_i2l, qi_l2i, qi_i2c, qi_lcmp, qi_dup, qi_dup2, qi_pop, qi_if_eq, qi_icmp_eq, qi_if_ne, qi_icmp_ne, qi_if_lt, qi_icmp_lt, qi_if_ge, qi_icmp_ge, qi_if_gt, qi_icmp_gt, qi_if_le, qi_icmp_le, qi_sw, qi_get, qi_put, qi_iald, qi_lald, qi_aald, qi_iast, qi_zast, qi_cast, qi_last, qi_aast, qi_alen, qi_new, qi_newa, qi_newq, qi_obj, qi_invS, qi_invV, qi_invI, qi_iret, qi_zret, qi_lret, qi_vret, qi_acopy, qi_max, qi_min, at_o, at_i, at_l, at_q, at_a, lget, lset, lclr, lnon, lnth, spl, shrt, rpush, true_and, and_true, List.set, List.length, Nat.reduceAdd, Nat.reduceLT, Nat.reduceLeDiff, Nat.reduceEqDiff, Nat.reduceSub, e0]
            refine ⟨fun c => absurd c (nI_ge (by omega) (by omega)), fun _ => ⟨_, _, c1, ?_⟩⟩
            simp only [vc_S_readInto_50, vc_S_readInto_52, qi_push, qi_pushl, qi_iload, qi_lload, qi_aload, qi_istore, qi_astore, qi_lstore, qi_iinc, qi_iadd, qi_isub, qi_imul, qi_iand, qi_ior, qi_ixor, qi_ishl, qi_ishr, qi_iushr, qi_idiv, qi_irem, qi_lor, qi_lmul, qi_ladd, qi_lsub, qi_land, qi_lshl, qi_lshr, qi_i2l, qi_l2i, qi_i2c, qi_lcmp, qi_dup, qi_dup2, qi_pop, qi_if_eq, qi_icmp_eq, qi_if_ne, qi_icmp_ne, qi_if_lt, qi_icmp_lt, qi_if_ge, qi_icmp_ge, qi_if_gt, qi_icmp_gt, qi_if_le, qi_icmp_le, qi_sw, qi_get, qi_put, qi_iald, qi_lald, qi_aald, qi_iast, qi_zast, qi_cast, qi_last, qi_aast, qi_alen, qi_new, qi_newa, qi_newq, qi_obj, qi_invS, qi_invV, qi_invI, qi_iret, qi_zret, qi_lret, qi_vret, qi_acopy, qi_max, qi_min, at_o, at_i, at_l, at_q, at_a, lget, lset, lclr, lnon, lnth, spl, shrt, rpush, true_and, and_true, List.set, List.length, Nat.reduceAdd, Nat.reduceLT, Nat.reduceLeDiff, Nat.reduceEqDiff, Nat.reduceSub, nI_add]
            refine ⟨fun _ => ?_, fun c => absurd c (show ¬ nI 1 = 0 by decide)⟩
            rw [show 200 - (k + 1) + 1 = 200 - k by omega]
            exact d1 _
  obtain ⟨h1, c1, c2, c3⟩ := c_P_clear (show isPl h p _ _ _ _ _ _ _ from hv)
  obtain ⟨h', v', d1, d2, d3, d4, d5⟩ := loop 200 0 h1 pv0 (by omega) (hp.keep c3 hd) c2 pwv0 (by omega)
  refine ⟨h', v', MX.of (lv := [some (.ref a), some (.ref p), none, none, none]) 3 rfl (by decide) (Nat.le_of_ble_eq_true rfl) (sn_S_readInto_0 _ _ _ ?_), d2, d3, c3.trans d4, d5⟩
  have o1 := hv.1
  simp only [vc_S_readInto_0, qi_push, qi_pushl, qi_iload, qi_lload, qi_aload, qi_istore, qi_astore, qi_lstore, qi_iinc, qi_iadd, qi_isub, qi_imul, qi_iand, qi_ior, qi_ixor, qi_ishl, qi_ishr, qi_iushr, qi_idiv, qi_irem, qi_lor, qi_lmul, qi_ladd, qi_lsub, qi_land, qi_lshl, qi_lshr, qi_i2l, qi_l2i, qi_i2c, qi_lcmp, qi_dup, qi_dup2, qi_pop, qi_if_eq, qi_icmp_eq, qi_if_ne, qi_icmp_ne, qi_if_lt, qi_icmp_lt, qi_if_ge, qi_icmp_ge, qi_if_gt, qi_icmp_gt, qi_if_le, qi_icmp_le, qi_sw, qi_get, qi_put, qi_iald, qi_lald, qi_aald, qi_iast, qi_zast, qi_cast, qi_last, qi_aast, qi_alen, qi_new, qi_newa, qi_newq, qi_obj, qi_invS, qi_invV, qi_invI, qi_iret, qi_zret, qi_lret, qi_vret, qi_acopy, qi_max, qi_min, at_o, at_i, at_l, at_q, at_a, lget, lset, lclr, lnon, lnth, spl, shrt, rpush, true_and, and_true, List.set, List.length, Nat.reduceAdd, Nat.reduceLT, Nat.reduceLeDiff, Nat.reduceEqDiff, Nat.reduceSub, o1]
  refine ⟨_, _, c1, ?_⟩
  simp only [qi_push, qi_pushl, qi_iload, qi_lload, qi_aload, qi_istore, qi_astore, qi_lstore, qi_iinc, qi_iadd, qi_isub, qi_imul, qi_iand, qi_ior, qi_ixor, qi_ishl, qi_ishr, qi_iushr, qi_idiv, qi_irem, qi_lor, qi_lmul, qi_ladd, qi_lsub, qi_land, qi_lshl, qi_lshr, qi_i2l, qi_l2i, qi_i2c, qi_lcmp, qi_dup, qi_dup2, qi_pop, qi_if_eq, qi_icmp_eq, qi_if_ne, qi_icmp_ne, qi_if_lt, qi_icmp_lt, qi_if_ge, qi_icmp_ge, qi_if_gt, qi_icmp_gt, qi_if_le, qi_icmp_le, qi_sw, qi_get, qi_put, qi_iald, qi_lald, qi_aald, qi_iast, qi_zast, qi_cast, qi_last, qi_aast, qi_alen, qi_new, qi_newa, qi_newq, qi_obj, qi_invS, qi_invV, qi_invI, qi_iret, qi_zret, qi_lret, qi_vret, qi_acopy, qi_max, qi_min, at_o, at_i, at_l, at_q, at_a, lget, lset, lclr, lnon, lnth, spl, shrt, rpush, true_and, and_true, List.set, List.length, Nat.reduceAdd, Nat.reduceLT, Nat.reduceLeDiff, Nat.reduceEqDiff, Nat.reduceSub]
  exact d1 none
end SC
theorem c_S_init {h : hc_H} {p : Nat} (hp : h.1 p = some (.inr (3, [.null, .int 0]))) (h2 : h.2.1 = p + 1) : ∃ h', MA M_S_init [.ref p] h none h' ∧ isSc h' p 0 (fun _ => 0) ∧ frA h h' p 2 200 := by
  refine ⟨nst h 3 200 p 3 0 [.null, .int 0], MX.of (lv := [some (.ref p)]) 0 rfl (by decide) (Nat.le_of_ble_eq_true rfl) (sn_S_init_0 _ _ _ ?_), ?_, ?_⟩
  · simp only [vc_S_init_0, qi_aload, qi_obj, qi_push, lget, shrt, true_and]
    refine nst_ok hp (by omega) (by simp) (by omega) ?_
    simp only [qi_vret]
    exact ⟨trivial, trivial⟩
  · refine ⟨?_, ?_⟩ <;> simp [nst_at, nst_21, h2, nI_0]
  · refine ⟨by simp [nst_2, h2], fun q hq => ?_⟩
    simp only [nst_at, h2]
    rw [if_neg (by omega), if_neg (by omega)]
