/-! SCRIPT: items, the whole text. -/
theorem sub_in {l k n : Nat} (hl : l < 65536) (hk : k < 65536) (hn : n ≤ 12) : (0 ≤ nI l - nI k ∧ nI l - nI k < nI n) ↔ (k ≤ l ∧ l - k < n) := by
  rw [Int32.le_iff_toInt_le, Int32.lt_iff_toInt_lt, pk_sub_toInt (by omega) (by omega), nI_toInt (by omega)]
  show (0 : Int) ≤ _ ∧ _ ↔ _
  omega
theorem sub_eq {l m k : Nat} (hl : l < 65536) (hm : m < 65536) (hk : k < 65536) : nI l - nI k = nI m - nI k ↔ l = m := by
  constructor
  · intro e
    have := congrArg Int32.toInt e
    rw [pk_sub_toInt (by omega) (by omega), pk_sub_toInt (by omega) (by omega)] at this
    omega
  · intro e; rw [e]
theorem prs_lt {f : Nat → Nat} {a b : Nat} {w : Bool} (hf : ∀ x, f x < 4096) (ha : a < 12) (hb : b < 12) : ∀ x, prs f a b w x < 4096 := by
  have one : ∀ (g : Nat → Nat) (i j : Nat), j < 12 → (∀ x, g x < 4096) → ∀ x, va_up g i (if w then g i ||| 2 ^ j else sdf (g i) (2 ^ j)) x < 4096 := by
    intro g i j hj hg x
    unfold va_up
    split
    · cases w
      · exact sdf_lt (k := 12) (hg i)
      · exact or_lt (k := 12) (hg i) (pow_lt12 hj)
    · exact hg x
  intro x
  exact one _ b a ha (one f a b hb hf) x
section SC
variable {h : hc_H} {a len p : Nat} {L : Nat → Nat} {v : pv}
theorem c_S_takePair (hp : isSc h a len L) (hl : len ≤ 200) (hL : ∀ j, L j < 65536) (hv : isPv h p v) (hw : pwv v) {x : Nat} (hx : x + 2 < 200) (hk : L x = 112 ∨ L x = 120 ∨ L x = 106) : ∃ h' v', MA M_S_takePair [.ref a, .int (nI x), .ref p] h (some (.int (nI (itP L x v).isSome.toNat))) h' ∧ isPv h' p v' ∧ pwv v' ∧ frm h h' p 6 ∧ ∀ w, itP L x v = some w → v' = w := by
  obtain ⟨n, c, T, B, A, J, S⟩ := v
  obtain ⟨e0, e1⟩ := id hp
  have hv' : isPl h p n c T B A J S := hv
  have hw' : pw n T B A J S := hw
  have hn : n ≤ 12 := hw'.1
  have hL1 := hL (x + 1)
  have hL2 := hL (x + 2)
  have hL0 := hL x
  have start : ∀ (r : Option Value) (hf : hc_H), (((97 ≤ L (x + 1) ∧ L (x + 1) - 97 < n) ∧ (97 ≤ L (x + 2) ∧ L (x + 2) - 97 < n) ∧ ¬ L (x + 1) = L (x + 2)) → vc_S_takePair_37 r hf (cx hc_tt M_S_takePair h hf r) [some (.ref a), some (.int (nI x)), some (.ref p), some (.int (nI (L (x + 1) - 97))), some (.int (nI (L (x + 2) - 97)))] [] h) → (¬ ((97 ≤ L (x + 1) ∧ L (x + 1) - 97 < n) ∧ (97 ≤ L (x + 2) ∧ L (x + 2) - 97 < n) ∧ ¬ L (x + 1) = L (x + 2)) → r = some (.int (nI 0)) ∧ hf = h) → MA M_S_takePair [.ref a, .int (nI x), .ref p] h r hf := by
    intro r hf k1 k2
    refine MX.of (lv := [some (.ref a), some (.int (nI x)), some (.ref p), none, none]) 2 rfl (by decide) (Nat.le_of_ble_eq_true rfl) (sn_S_takePair_0 _ _ _ ?_)
    simp only [vc_S_takePair_0, qi_push, qi_pushl, qi_iload, qi_lload, qi_aload, qi_istore, qi_astore, qi_lstore, qi_iinc, qi_iadd, qi_isub, qi_imul, qi_iand, qi_ior, qi_ixor, qi_ishl, qi_ishr, qi_iushr, qi_idiv, qi_irem, qi_lor, qi_lmul, qi_ladd, qi_lsub, qi_land, qi_lshl, qi_lshr, qi_i2l, qi_l2i, qi_i2c, qi_lcmp, qi_dup, qi_dup2, qi_pop, qi_if_eq, qi_icmp_eq, qi_if_ne, qi_icmp_ne, qi_if_lt, qi_icmp_lt, qi_if_ge, qi_icmp_ge, qi_if_gt, qi_icmp_gt, qi_if_le, qi_icmp_le, qi_sw, qi_get, qi_put, qi_iald, qi_lald, qi_aald, qi_iast, qi_zast, qi_cast, qi_last, qi_aast, qi_alen, qi_new, qi_newa, qi_newq, qi_obj, qi_invS, qi_invV, qi_invI, qi_iret, qi_zret, qi_lret, qi_vret, qi_acopy, qi_max, qi_min, at_o, at_i, at_l, at_q, at_a, lget, lset, lclr, lnon, lnth, spl, shrt, rpush, true_and, and_true, List.set, List.length, Nat.reduceAdd, Nat.reduceLT, Nat.reduceLeDiff, Nat.reduceEqDiff, Nat.reduceSub, e0, e1, nI_add]
    refine ⟨vp_in_nI (by omega) (by omega), vp_in_nI (by omega) (by omega), ?_⟩
    rw [nI_clamp (by omega), nI_clamp (by omega), hv'.1]
    refine ⟨rfl, _, _, c_P_hasPair hv' hn _ _, ?_⟩
    simp only [qi_push, qi_pushl, qi_iload, qi_lload, qi_aload, qi_istore, qi_astore, qi_lstore, qi_iinc, qi_iadd, qi_isub, qi_imul, qi_iand, qi_ior, qi_ixor, qi_ishl, qi_ishr, qi_iushr, qi_idiv, qi_irem, qi_lor, qi_lmul, qi_ladd, qi_lsub, qi_land, qi_lshl, qi_lshr, qi_i2l, qi_l2i, qi_i2c, qi_lcmp, qi_dup, qi_dup2, qi_pop, qi_if_eq, qi_icmp_eq, qi_if_ne, qi_icmp_ne, qi_if_lt, qi_icmp_lt, qi_if_ge, qi_icmp_ge, qi_if_gt, qi_icmp_gt, qi_if_le, qi_icmp_le, qi_sw, qi_get, qi_put, qi_iald, qi_lald, qi_aald, qi_iast, qi_zast, qi_cast, qi_last, qi_aast, qi_alen, qi_new, qi_newa, qi_newq, qi_obj, qi_invS, qi_invV, qi_invI, qi_iret, qi_zret, qi_lret, qi_vret, qi_acopy, qi_max, qi_min, at_o, at_i, at_l, at_q, at_a, lget, lset, lclr, lnon, lnth, spl, shrt, rpush, true_and, and_true, List.set, List.length, Nat.reduceAdd, Nat.reduceLT, Nat.reduceLeDiff, Nat.reduceEqDiff, Nat.reduceSub, nb_eq0, nb_ne0, decide_eq_false_iff_not, decide_eq_true_eq, Classical.not_not, sub_in hL1 (show 97 < 65536 by omega) hn, sub_in hL2 (show 97 < 65536 by omega) hn, sub_eq hL1 hL2 (show 97 < 65536 by omega)]
    refine ⟨fun z => ?_, fun z => ⟨Or.inl rfl, k2 z⟩⟩
    rw [pk_sub z.1.1, pk_sub z.2.1.1]
    exact k1 z
  by_cases q : (97 ≤ L (x + 1) ∧ L (x + 1) - 97 < n) ∧ (97 ≤ L (x + 2) ∧ L (x + 2) - 97 < n) ∧ ¬ L (x + 1) = L (x + 2)
  · have hi : itP L x (n, c, T, B, A, J, S) = if L x = 112 then
        (if (B (L (x + 2) - 97)).testBit (L (x + 1) - 97) ∨ (ab_r B (L (x + 2) - 97) n n).testBit (L (x + 1) - 97) then none else some (pvB (n, c, T, B, A, J, S) (va_up B (L (x + 2) - 97) (B (L (x + 2) - 97) ||| 2 ^ (L (x + 1) - 97)))))
        else if (A (L (x + 1) - 97)).testBit (L (x + 2) - 97) ∨ (J (L (x + 1) - 97)).testBit (L (x + 2) - 97) then none else some (pvAJ (n, c, T, B, A, J, S) (prs A (L (x + 1) - 97) (L (x + 2) - 97) (decide (L x = 120))) (prs J (L (x + 1) - 97) (L (x + 2) - 97) (decide (¬ L x = 120)))) := by
      unfold itP; exact if_pos q
    rw [hi]
    by_cases q0 : L x = 112
    · obtain ⟨h', v', g1, g2, g3, g4, g5⟩ := c_S_takeOrder (a := a) hv hw ⟨_, e0⟩ (x := L (x + 1) - 97) (y := L (x + 2) - 97) (by omega) (by omega)
      rw [if_pos q0]
      refine ⟨h', v', start _ _ (fun _ => ?_) (fun z => absurd q z), g2, g3, g4, fun w z => ?_⟩
      · simp only [vc_S_takePair_37, qi_push, qi_pushl, qi_iload, qi_lload, qi_aload, qi_istore, qi_astore, qi_lstore, qi_iinc, qi_iadd, qi_isub, qi_imul, qi_iand, qi_ior, qi_ixor, qi_ishl, qi_ishr, qi_iushr, qi_idiv, qi_irem, qi_lor, qi_lmul, qi_ladd, qi_lsub, qi_land, qi_lshl, qi_lshr, qi_i2l, qi_l2i, qi_i2c, qi_lcmp, qi_dup, qi_dup2, qi_pop, qi_if_eq, qi_icmp_eq, qi_if_ne, qi_icmp_ne, qi_if_lt, qi_icmp_lt, qi_if_ge, qi_icmp_ge, qi_if_gt, qi_icmp_gt, qi_if_le, qi_icmp_le, qi_sw, qi_get, qi_put, qi_iald, qi_lald, qi_aald, qi_iast, qi_zast, qi_cast, qi_last, qi_aast, qi_alen, qi_new, qi_newa, qi_newq, qi_obj, qi_invS, qi_invV, qi_invI, qi_iret, qi_zret, qi_lret, qi_vret, qi_acopy, qi_max, qi_min, at_o, at_i, at_l, at_q, at_a, lget, lset, lclr, lnon, lnth, spl, shrt, rpush, true_and, and_true, List.set, List.length, Nat.reduceAdd, Nat.reduceLT, Nat.reduceLeDiff, Nat.reduceEqDiff, Nat.reduceSub, e0, e1]
        refine ⟨vp_in_nI (by omega) (by omega), ?_⟩
        rw [nI_clamp (by omega), nI_eq (by omega) (by omega)]
        refine ⟨fun z => absurd q0 z, fun _ => ⟨_, _, g1, ?_⟩⟩
        simp only [qi_push, qi_pushl, qi_iload, qi_lload, qi_aload, qi_istore, qi_astore, qi_lstore, qi_iinc, qi_iadd, qi_isub, qi_imul, qi_iand, qi_ior, qi_ixor, qi_ishl, qi_ishr, qi_iushr, qi_idiv, qi_irem, qi_lor, qi_lmul, qi_ladd, qi_lsub, qi_land, qi_lshl, qi_lshr, qi_i2l, qi_l2i, qi_i2c, qi_lcmp, qi_dup, qi_dup2, qi_pop, qi_if_eq, qi_icmp_eq, qi_if_ne, qi_icmp_ne, qi_if_lt, qi_icmp_lt, qi_if_ge, qi_icmp_ge, qi_if_gt, qi_icmp_gt, qi_if_le, qi_icmp_le, qi_sw, qi_get, qi_put, qi_iald, qi_lald, qi_aald, qi_iast, qi_zast, qi_cast, qi_last, qi_aast, qi_alen, qi_new, qi_newa, qi_newq, qi_obj, qi_invS, qi_invV, qi_invI, qi_iret, qi_zret, qi_lret, qi_vret, qi_acopy, qi_max, qi_min, at_o, at_i, at_l, at_q, at_a, lget, lset, lclr, lnon, lnth, spl, shrt, rpush, true_and, and_true, List.set, List.length, Nat.reduceAdd, Nat.reduceLT, Nat.reduceLeDiff, Nat.reduceEqDiff, Nat.reduceSub]
        refine ⟨nb_01 _, ?_⟩
        by_cases q1 : (B (L (x + 2) - 97)).testBit (L (x + 1) - 97) = true ∨ (ab_r B (L (x + 2) - 97) n n).testBit (L (x + 1) - 97) = true
        · rw [if_pos q1]
          show _ = some (Value.int (nI (decide (¬ ((B (L (x + 2) - 97)).testBit (L (x + 1) - 97) = true ∨ (ab_r B (L (x + 2) - 97) n n).testBit (L (x + 1) - 97) = true))).toNat))
          rw [decide_eq_false (Classical.not_not.mpr q1)]; rfl
        · rw [if_neg q1]
          show _ = some (Value.int (nI (decide (¬ ((B (L (x + 2) - 97)).testBit (L (x + 1) - 97) = true ∨ (ab_r B (L (x + 2) - 97) n n).testBit (L (x + 1) - 97) = true))).toNat))
          rw [decide_eq_true q1]; rfl
      · split at z
        · cases z
        · rename_i q1
          cases z
          exact g5 q1
    · rw [if_neg q0]
      have hz := c_P_zoneOf hv' hw' (a := L (x + 1) - 97) (b := L (x + 2) - 97) (by omega) (by omega)
      have common : ∀ (r : Option Value) (hf : hc_H), (((A (L (x + 1) - 97)).testBit (L (x + 2) - 97) = true ∨ (J (L (x + 1) - 97)).testBit (L (x + 2) - 97) = true) → r = some (.int (nI 0)) ∧ hf = h) → (¬ ((A (L (x + 1) - 97)).testBit (L (x + 2) - 97) = true ∨ (J (L (x + 1) - 97)).testBit (L (x + 2) - 97) = true) → vc_S_takePair_69 r hf (cx hc_tt M_S_takePair h hf r) [some (.ref a), some (.int (nI x)), some (.ref p), some (.int (nI (L (x + 1) - 97))), some (.int (nI (L (x + 2) - 97)))] [] h) → MA M_S_takePair [.ref a, .int (nI x), .ref p] h r hf := by
        intro r hf k1 k2
        refine start r hf (fun _ => ?_) (fun z => absurd q z)
        simp only [vc_S_takePair_37, qi_push, qi_pushl, qi_iload, qi_lload, qi_aload, qi_istore, qi_astore, qi_lstore, qi_iinc, qi_iadd, qi_isub, qi_imul, qi_iand, qi_ior, qi_ixor, qi_ishl, qi_ishr, qi_iushr, qi_idiv, qi_irem, qi_lor, qi_lmul, qi_ladd, qi_lsub, qi_land, qi_lshl, qi_lshr, qi_i2l, qi_l2i, qi_i2c, qi_lcmp, qi_dup, qi_dup2, qi_pop, qi_if_eq, qi_icmp_eq, qi_if_ne, qi_icmp_ne, qi_if_lt, qi_icmp_lt, qi_if_ge, qi_icmp_ge, qi_if_gt, qi_icmp_gt, qi_if_le, qi_icmp_le, qi_sw, qi_get, qi_put, qi_iald, qi_lald, qi_aald, qi_iast, qi_zast, qi_cast, qi_last, qi_aast, qi_alen, qi_new, qi_newa, qi_newq, qi_obj, qi_invS, qi_invV, qi_invI, qi_iret, qi_zret, qi_lret, qi_vret, qi_acopy, qi_max, qi_min, at_o, at_i, at_l, at_q, at_a, lget, lset, lclr, lnon, lnth, spl, shrt, rpush, true_and, and_true, List.set, List.length, Nat.reduceAdd, Nat.reduceLT, Nat.reduceLeDiff, Nat.reduceEqDiff, Nat.reduceSub, e0, e1]
        refine ⟨vp_in_nI (by omega) (by omega), ?_⟩
        rw [nI_clamp (by omega), nI_eq (by omega) (by omega)]
        refine ⟨fun _ => ?_, fun z => absurd z q0⟩
        simp only [vc_S_takePair_57, qi_push, qi_pushl, qi_iload, qi_lload, qi_aload, qi_istore, qi_astore, qi_lstore, qi_iinc, qi_iadd, qi_isub, qi_imul, qi_iand, qi_ior, qi_ixor, qi_ishl, qi_ishr, qi_iushr, qi_idiv, qi_irem, qi_lor, qi_lmul, qi_ladd, qi_lsub, qi_land, qi_lshl, qi_lshr, qi_i2l, qi_l2i, qi_i2c, qi_lcmp, qi_dup, qi_dup2, qi_pop, qi_if_eq, qi_icmp_eq, qi_if_ne, qi_icmp_ne, qi_if_lt, qi_icmp_lt, qi_if_ge, qi_icmp_ge, qi_if_gt, qi_icmp_gt, qi_if_le, qi_icmp_le, qi_sw, qi_get, qi_put, qi_iald, qi_lald, qi_aald, qi_iast, qi_zast, qi_cast, qi_last, qi_aast, qi_alen, qi_new, qi_newa, qi_newq, qi_obj, qi_invS, qi_invV, qi_invI, qi_iret, qi_zret, qi_lret, qi_vret, qi_acopy, qi_max, qi_min, at_o, at_i, at_l, at_q, at_a, lget, lset, lclr, lnon, lnth, spl, shrt, rpush, true_and, and_true, List.set, List.length, Nat.reduceAdd, Nat.reduceLT, Nat.reduceLeDiff, Nat.reduceEqDiff, Nat.reduceSub, hv'.1]
        refine ⟨_, _, hz, ?_⟩
        simp only [qi_push, qi_pushl, qi_iload, qi_lload, qi_aload, qi_istore, qi_astore, qi_lstore, qi_iinc, qi_iadd, qi_isub, qi_imul, qi_iand, qi_ior, qi_ixor, qi_ishl, qi_ishr, qi_iushr, qi_idiv, qi_irem, qi_lor, qi_lmul, qi_ladd, qi_lsub, qi_land, qi_lshl, qi_lshr, qi_i2l, qi_l2i, qi_i2c, qi_lcmp, qi_dup, qi_dup2, qi_pop, qi_if_eq, qi_icmp_eq, qi_if_ne, qi_icmp_ne, qi_if_lt, qi_icmp_lt, qi_if_ge, qi_icmp_ge, qi_if_gt, qi_icmp_gt, qi_if_le, qi_icmp_le, qi_sw, qi_get, qi_put, qi_iald, qi_lald, qi_aald, qi_iast, qi_zast, qi_cast, qi_last, qi_aast, qi_alen, qi_new, qi_newa, qi_newq, qi_obj, qi_invS, qi_invV, qi_invI, qi_iret, qi_zret, qi_lret, qi_vret, qi_acopy, qi_max, qi_min, at_o, at_i, at_l, at_q, at_a, lget, lset, lclr, lnon, lnth, spl, shrt, rpush, true_and, and_true, List.set, List.length, Nat.reduceAdd, Nat.reduceLT, Nat.reduceLeDiff, Nat.reduceEqDiff, Nat.reduceSub]
        rw [← nI_0, nI_eq (by split <;> (try split) <;> omega) (by omega)]
        cases hA : (A (L (x + 1) - 97)).testBit (L (x + 2) - 97) <;> cases hJ : (J (L (x + 1) - 97)).testBit (L (x + 2) - 97)
        · exact ⟨fun _ => k2 (by simp [hA, hJ]), fun z => absurd rfl z⟩
        · exact ⟨fun z => absurd z (by decide), fun _ => ⟨Or.inl rfl, k1 (Or.inr hJ)⟩⟩
        · exact ⟨fun z => absurd z (by decide), fun _ => ⟨Or.inl rfl, k1 (Or.inl hA)⟩⟩
        · exact ⟨fun z => absurd z (by decide), fun _ => ⟨Or.inl rfl, k1 (Or.inl hA)⟩⟩
      by_cases q1 : (A (L (x + 1) - 97)).testBit (L (x + 2) - 97) = true ∨ (J (L (x + 1) - 97)).testBit (L (x + 2) - 97) = true
      · rw [if_pos q1]
        exact ⟨h, _, common _ _ (fun _ => ⟨rfl, rfl⟩) (fun z => absurd q1 z), hv, hw, frm.rfl', fun w z => by cases z⟩
      · rw [if_neg q1]
        by_cases q2 : L x = 120
        · obtain ⟨h', g1, g2, g3⟩ := c_P_setZone hv' (a := L (x + 1) - 97) (b := L (x + 2) - 97) (k := 1) (by omega) (by omega) (by omega)
          refine ⟨h', pvAJ (n, c, T, B, A, J, S) (prs A (L (x + 1) - 97) (L (x + 2) - 97) true) (prs J (L (x + 1) - 97) (L (x + 2) - 97) false), common _ _ (fun z => absurd z q1) (fun _ => ?_), g2, ⟨hw.1, hw.2.1, hw.2.2.1, prs_lt hw'.2.2.2.1 (by omega) (by omega), prs_lt hw'.2.2.2.2.1 (by omega) (by omega), hw.2.2.2.2.2⟩, g3, fun w z => ?_⟩
          · simp only [vc_S_takePair_69, vc_S_takePair_88, vc_S_takePair_89, qi_push, qi_pushl, qi_iload, qi_lload, qi_aload, qi_istore, qi_astore, qi_lstore, qi_iinc, qi_iadd, qi_isub, qi_imul, qi_iand, qi_ior, qi_ixor, qi_ishl, qi_ishr, qi_iushr, qi_idiv, qi_irem, qi_lor, qi_lmul, qi_ladd, qi_lsub, qi_land, qi_lshl, qi_lshr, qi_i2l, qi_l2i, qi_i2c, qi_lcmp, qi_dup, qi_dup2, qi_pop, qi_if_eq, qi_icmp_eq, qi_if_ne, qi_icmp_ne, qi_if_lt, qi_icmp_lt, qi_if_ge, qi_icmp_ge, qi_if_gt, qi_icmp_gt, qi_if_le, qi_icmp_le, qi_sw, qi_get, qi_put, qi_iald, qi_lald, qi_aald, qi_iast, qi_zast, qi_cast, qi_last, qi_aast, qi_alen, qi_new, qi_newa, qi_newq, qi_obj, qi_invS, qi_invV, qi_invI, qi_iret, qi_zret, qi_lret, qi_vret, qi_acopy, qi_max, qi_min, at_o, at_i, at_l, at_q, at_a, lget, lset, lclr, lnon, lnth, spl, shrt, rpush, true_and, and_true, List.set, List.length, Nat.reduceAdd, Nat.reduceLT, Nat.reduceLeDiff, Nat.reduceEqDiff, Nat.reduceSub, e0, e1, hv'.1]
            refine ⟨vp_in_nI (by omega) (by omega), ?_⟩
            rw [nI_clamp (by omega), nI_eq (by omega) (by omega)]
            refine ⟨fun z => absurd q2 z, fun _ => ⟨_, _, g1, ?_⟩⟩
            simp only [qi_push, qi_pushl, qi_iload, qi_lload, qi_aload, qi_istore, qi_astore, qi_lstore, qi_iinc, qi_iadd, qi_isub, qi_imul, qi_iand, qi_ior, qi_ixor, qi_ishl, qi_ishr, qi_iushr, qi_idiv, qi_irem, qi_lor, qi_lmul, qi_ladd, qi_lsub, qi_land, qi_lshl, qi_lshr, qi_i2l, qi_l2i, qi_i2c, qi_lcmp, qi_dup, qi_dup2, qi_pop, qi_if_eq, qi_icmp_eq, qi_if_ne, qi_icmp_ne, qi_if_lt, qi_icmp_lt, qi_if_ge, qi_icmp_ge, qi_if_gt, qi_icmp_gt, qi_if_le, qi_icmp_le, qi_sw, qi_get, qi_put, qi_iald, qi_lald, qi_aald, qi_iast, qi_zast, qi_cast, qi_last, qi_aast, qi_alen, qi_new, qi_newa, qi_newq, qi_obj, qi_invS, qi_invV, qi_invI, qi_iret, qi_zret, qi_lret, qi_vret, qi_acopy, qi_max, qi_min, at_o, at_i, at_l, at_q, at_a, lget, lset, lclr, lnon, lnth, spl, shrt, rpush, true_and, and_true, List.set, List.length, Nat.reduceAdd, Nat.reduceLT, Nat.reduceLeDiff, Nat.reduceEqDiff, Nat.reduceSub]
            exact ⟨Or.inr rfl, rfl⟩
          · cases z
            rw [decide_eq_true q2, decide_eq_false (Classical.not_not.mpr q2)]
        · obtain ⟨h', g1, g2, g3⟩ := c_P_setZone hv' (a := L (x + 1) - 97) (b := L (x + 2) - 97) (k := 2) (by omega) (by omega) (by omega)
          refine ⟨h', pvAJ (n, c, T, B, A, J, S) (prs A (L (x + 1) - 97) (L (x + 2) - 97) false) (prs J (L (x + 1) - 97) (L (x + 2) - 97) true), common _ _ (fun z => absurd z q1) (fun _ => ?_), g2, ⟨hw.1, hw.2.1, hw.2.2.1, prs_lt hw'.2.2.2.1 (by omega) (by omega), prs_lt hw'.2.2.2.2.1 (by omega) (by omega), hw.2.2.2.2.2⟩, g3, fun w z => ?_⟩
          · simp only [vc_S_takePair_69, vc_S_takePair_88, vc_S_takePair_89, qi_push, qi_pushl, qi_iload, qi_lload, qi_aload, qi_istore, qi_astore, qi_lstore, qi_iinc, qi_iadd, qi_isub, qi_imul, qi_iand, qi_ior, qi_ixor, qi_ishl, qi_ishr, qi_iushr, qi_idiv, qi_irem, qi_lor, qi_lmul, qi_ladd, qi_lsub, qi_land, qi_lshl, qi_lshr, qi_i2l, qi_l2i, qi_i2c, qi_lcmp, qi_dup, qi_dup2, qi_pop, qi_if_eq, qi_icmp_eq, qi_if_ne, qi_icmp_ne, qi_if_lt, qi_icmp_lt, qi_if_ge, qi_icmp_ge, qi_if_gt, qi_icmp_gt, qi_if_le, qi_icmp_le, qi_sw, qi_get, qi_put, qi_iald, qi_lald, qi_aald, qi_iast, qi_zast, qi_cast, qi_last, qi_aast, qi_alen, qi_new, qi_newa, qi_newq, qi_obj, qi_invS, qi_invV, qi_invI, qi_iret, qi_zret, qi_lret, qi_vret, qi_acopy, qi_max, qi_min, at_o, at_i, at_l, at_q, at_a, lget, lset, lclr, lnon, lnth, spl, shrt, rpush, true_and, and_true, List.set, List.length, Nat.reduceAdd, Nat.reduceLT, Nat.reduceLeDiff, Nat.reduceEqDiff, Nat.reduceSub, e0, e1, hv'.1]
            refine ⟨vp_in_nI (by omega) (by omega), ?_⟩
            rw [nI_clamp (by omega), nI_eq (by omega) (by omega)]
            refine ⟨fun _ => ⟨_, _, g1, ?_⟩, fun z => absurd z q2⟩
            simp only [qi_push, qi_pushl, qi_iload, qi_lload, qi_aload, qi_istore, qi_astore, qi_lstore, qi_iinc, qi_iadd, qi_isub, qi_imul, qi_iand, qi_ior, qi_ixor, qi_ishl, qi_ishr, qi_iushr, qi_idiv, qi_irem, qi_lor, qi_lmul, qi_ladd, qi_lsub, qi_land, qi_lshl, qi_lshr, qi_i2l, qi_l2i, qi_i2c, qi_lcmp, qi_dup, qi_dup2, qi_pop, qi_if_eq, qi_icmp_eq, qi_if_ne, qi_icmp_ne, qi_if_lt, qi_icmp_lt, qi_if_ge, qi_icmp_ge, qi_if_gt, qi_icmp_gt, qi_if_le, qi_icmp_le, qi_sw, qi_get, qi_put, qi_iald, qi_lald, qi_aald, qi_iast, qi_zast, qi_cast, qi_last, qi_aast, qi_alen, qi_new, qi_newa, qi_newq, qi_obj, qi_invS, qi_invV, qi_invI, qi_iret, qi_zret, qi_lret, qi_vret, qi_acopy, qi_max, qi_min, at_o, at_i, at_l, at_q, at_a, lget, lset, lclr, lnon, lnth, spl, shrt, rpush, true_and, and_true, List.set, List.length, Nat.reduceAdd, Nat.reduceLT, Nat.reduceLeDiff, Nat.reduceEqDiff, Nat.reduceSub]
            exact ⟨Or.inr rfl, rfl⟩
          · cases z
            rw [decide_eq_false q2, decide_eq_true q2]
  · have hi : itP L x (n, c, T, B, A, J, S) = none := by unfold itP; exact if_neg q
    rw [hi]
    exact ⟨h, _, start _ _ (fun z => absurd z q) (fun _ => ⟨rfl, rfl⟩), hv, hw, frm.rfl', fun w z => by cases z⟩
theorem c_S_takeItem (hp : isSc h a len L) (hl : len ≤ 200) (hL : ∀ j, L j < 65536) (hv : isPv h p v) (hw : pwv v) (hd : a + 2 ≤ p ∨ p + 6 ≤ a) {x e : Nat} (hx : x < len) (hxe : x ≤ e) (he : e < len) : ∃ h' v', MA M_S_takeItem [.ref a, .int (nI x), .int (nI e), .ref p] h (some (.int (nI (itC L x e v).isSome.toNat))) h' ∧ isPv h' p v' ∧ pwv v' ∧ frm h h' p 6 ∧ ∀ w, itC L x e v = some w → v' = w := by
  obtain ⟨e0, e1⟩ := id hp
  have hL0 := hL x
  have start : ∀ (r : Option Value) (hf : hc_H), (x = 0 → L x = 99 → ∃ r' h', MA M_S_takeCycle [.ref a, .int (nI e), .ref p] h r' h' ∧ ∃ b : Bool, r' = some (.int (nI b.toNat)) ∧ r = some (.int (nI b.toNat)) ∧ hf = h') → (x = 0 → ¬ L x = 99 → r = some (.int (nI 0)) ∧ hf = h) → (¬ x = 0 → vc_S_takeItem_34 r hf (cx hc_tt M_S_takeItem h hf r) [some (.ref a), some (.int (nI x)), some (.int (nI e)), some (.ref p), some (.int (nI (L x))), none] [] h) → MA M_S_takeItem [.ref a, .int (nI x), .int (nI e), .ref p] h r hf := by
    intro r hf k1 k2 k3
    refine MX.of (lv := [some (.ref a), some (.int (nI x)), some (.int (nI e)), some (.ref p), none, none]) 2 rfl (by decide) (Nat.le_of_ble_eq_true rfl) (sn_S_takeItem_0 _ _ _ ?_)
    simp only [vc_S_takeItem_0, qi_push, qi_pushl, qi_iload, qi_lload, qi_aload, qi_istore, qi_astore, qi_lstore, qi_iinc, qi_iadd, qi_isub, qi_imul, qi_iand, qi_ior, qi_ixor, qi_ishl, qi_ishr, qi_iushr, qi_idiv, qi_irem, qi_lor, qi_lmul, qi_ladd, qi_lsub, qi_land, qi_lshl, qi_lshr, qi_i2l, qi_l2i, qi_i2c, qi_lcmp, qi_dup, qi_dup2, qi_pop, qi_if_eq, qi_icmp_eq, qi_if_ne, qi_icmp_ne, qi_if_lt, qi_icmp_lt, qi_if_ge, qi_icmp_ge, qi_if_gt, qi_icmp_gt, qi_if_le, qi_icmp_le, qi_sw, qi_get, qi_put, qi_iald, qi_lald, qi_aald, qi_iast, qi_zast, qi_cast, qi_last, qi_aast, qi_alen, qi_new, qi_newa, qi_newq, qi_obj, qi_invS, qi_invV, qi_invI, qi_iret, qi_zret, qi_lret, qi_vret, qi_acopy, qi_max, qi_min, at_o, at_i, at_l, at_q, at_a, lget, lset, lclr, lnon, lnth, spl, shrt, rpush, true_and, and_true, List.set, List.length, Nat.reduceAdd, Nat.reduceLT, Nat.reduceLeDiff, Nat.reduceEqDiff, Nat.reduceSub, e0, e1]
    refine ⟨vp_in_nI (by omega) (by omega), ?_⟩
    rw [nI_clamp (by omega), ← nI_0, nI_eq (by omega) (by omega), nI_eq (by omega) (by omega)]
    refine ⟨fun z => k3 z, fun z => ⟨fun z2 => ?_, fun z2 => ?_⟩⟩
    · simp only [vc_S_takeItem_32, vc_S_takeItem_33, qi_push, qi_pushl, qi_iload, qi_lload, qi_aload, qi_istore, qi_astore, qi_lstore, qi_iinc, qi_iadd, qi_isub, qi_imul, qi_iand, qi_ior, qi_ixor, qi_ishl, qi_ishr, qi_iushr, qi_idiv, qi_irem, qi_lor, qi_lmul, qi_ladd, qi_lsub, qi_land, qi_lshl, qi_lshr, qi_i2l, qi_l2i, qi_i2c, qi_lcmp, qi_dup, qi_dup2, qi_pop, qi_if_eq, qi_icmp_eq, qi_if_ne, qi_icmp_ne, qi_if_lt, qi_icmp_lt, qi_if_ge, qi_icmp_ge, qi_if_gt, qi_icmp_gt, qi_if_le, qi_icmp_le, qi_sw, qi_get, qi_put, qi_iald, qi_lald, qi_aald, qi_iast, qi_zast, qi_cast, qi_last, qi_aast, qi_alen, qi_new, qi_newa, qi_newq, qi_obj, qi_invS, qi_invV, qi_invI, qi_iret, qi_zret, qi_lret, qi_vret, qi_acopy, qi_max, qi_min, at_o, at_i, at_l, at_q, at_a, lget, lset, lclr, lnon, lnth, spl, shrt, rpush, true_and, and_true, List.set, List.length, Nat.reduceAdd, Nat.reduceLT, Nat.reduceLeDiff, Nat.reduceEqDiff, Nat.reduceSub]
      exact ⟨Or.inl rfl, k2 z z2⟩
    · obtain ⟨r', h', g1, b, g2, g3, g4⟩ := k1 z z2
      refine ⟨_, _, g1, ?_⟩
      subst g2
      simp only [vc_S_takeItem_32, vc_S_takeItem_33, qi_push, qi_pushl, qi_iload, qi_lload, qi_aload, qi_istore, qi_astore, qi_lstore, qi_iinc, qi_iadd, qi_isub, qi_imul, qi_iand, qi_ior, qi_ixor, qi_ishl, qi_ishr, qi_iushr, qi_idiv, qi_irem, qi_lor, qi_lmul, qi_ladd, qi_lsub, qi_land, qi_lshl, qi_lshr, qi_i2l, qi_l2i, qi_i2c, qi_lcmp, qi_dup, qi_dup2, qi_pop, qi_if_eq, qi_icmp_eq, qi_if_ne, qi_icmp_ne, qi_if_lt, qi_icmp_lt, qi_if_ge, qi_icmp_ge, qi_if_gt, qi_icmp_gt, qi_if_le, qi_icmp_le, qi_sw, qi_get, qi_put, qi_iald, qi_lald, qi_aald, qi_iast, qi_zast, qi_cast, qi_last, qi_aast, qi_alen, qi_new, qi_newa, qi_newq, qi_obj, qi_invS, qi_invV, qi_invI, qi_iret, qi_zret, qi_lret, qi_vret, qi_acopy, qi_max, qi_min, at_o, at_i, at_l, at_q, at_a, lget, lset, lclr, lnon, lnth, spl, shrt, rpush, true_and, and_true, List.set, List.length, Nat.reduceAdd, Nat.reduceLT, Nat.reduceLeDiff, Nat.reduceEqDiff, Nat.reduceSub, nI_0, nb_eq0, nb_ne0]
      refine ⟨fun z3 => ⟨Or.inl trivial, by rw [g3, z3]; rfl, g4⟩, fun z3 => ⟨Or.inr rfl, ?_, g4⟩⟩
      cases b
      · exact absurd rfl z3
      · exact g3
  by_cases q : x = 0
  · subst q
    by_cases q1 : L 0 = 99
    · obtain ⟨h', g1, g2, g3⟩ := c_S_takeCycle hp hl hL hv hd (e := e) (by omega)
      have hi : itC L 0 e v = (match figs L 1 e 3 with
        | some k => if 1 ≤ k ∧ k ≤ 120 then some (pvC v (nI k)) else none
        | none => none) := by unfold itC; rw [if_pos rfl, if_pos q1]; rfl
      refine ⟨h', _, start _ _ (fun _ _ => ⟨_, _, g1, _, rfl, ?_, rfl⟩) (fun _ z => absurd q1 z) (fun z => absurd rfl z), g2, hw, g3, fun w z => ?_⟩
      · rw [hi]
        cases hg : figs L 1 e 3 with
        | none => simp
        | some k => by_cases q2 : 1 ≤ k ∧ k ≤ 120 <;> simp [q2]
      · rw [hi] at z
        cases hg : figs L 1 e 3 with
        | none => rw [hg] at z; cases z
        | some k =>
          rw [hg] at z
          simp only at z
          split at z
          · cases z; rfl
          · cases z
    · have hi : itC L 0 e v = none := by unfold itC; rw [if_pos rfl, if_neg q1]
      rw [hi]
      exact ⟨h, v, start _ _ (fun _ z => absurd z q1) (fun _ _ => ⟨rfl, rfl⟩) (fun z => absurd rfl z), hv, hw, frm.rfl', fun w z => by cases z⟩
  · by_cases q1 : L x = 116
    · obtain ⟨h', v', g1, g2, g3, g4, g5⟩ := c_S_takeTask hp hl hL hv hw hd (x := x) (e := e) (by omega) (by omega)
      have hi : itC L x e v = (match figs L (x + 1) e 2 with
        | some k => if (1 ≤ k ∧ k ≤ 60) ∧ v.1 < 12 then some (pvT v k) else none
        | none => none) := by unfold itC; rw [if_neg q, if_pos q1]; rfl
      refine ⟨h', v', start _ _ (fun z => absurd z q) (fun z => absurd z q) (fun _ => ?_), g2, g3, g4, fun w z => ?_⟩
      · simp only [vc_S_takeItem_34, qi_push, qi_pushl, qi_iload, qi_lload, qi_aload, qi_istore, qi_astore, qi_lstore, qi_iinc, qi_iadd, qi_isub, qi_imul, qi_iand, qi_ior, qi_ixor, qi_ishl, qi_ishr, qi_iushr, qi_idiv, qi_irem, qi_lor, qi_lmul, qi_ladd, qi_lsub, qi_land, qi_lshl, qi_lshr, qi_i2l, qi_l2i, qi_i2c, qi_lcmp, qi_dup, qi_dup2, qi_pop, qi_if_eq, qi_icmp_eq, qi_if_ne, qi_icmp_ne, qi_if_lt, qi_icmp_lt, qi_if_ge, qi_icmp_ge, qi_if_gt, qi_icmp_gt, qi_if_le, qi_icmp_le, qi_sw, qi_get, qi_put, qi_iald, qi_lald, qi_aald, qi_iast, qi_zast, qi_cast, qi_last, qi_aast, qi_alen, qi_new, qi_newa, qi_newq, qi_obj, qi_invS, qi_invV, qi_invI, qi_iret, qi_zret, qi_lret, qi_vret, qi_acopy, qi_max, qi_min, at_o, at_i, at_l, at_q, at_a, lget, lset, lclr, lnon, lnth, spl, shrt, rpush, true_and, and_true, List.set, List.length, Nat.reduceAdd, Nat.reduceLT, Nat.reduceLeDiff, Nat.reduceEqDiff, Nat.reduceSub]
        rw [nI_eq (by omega) (by omega)]
        refine ⟨fun z => absurd q1 z, fun _ => ?_⟩
        rw [e0]
        refine ⟨rfl, _, _, g1, ?_⟩
        simp only [qi_push, qi_pushl, qi_iload, qi_lload, qi_aload, qi_istore, qi_astore, qi_lstore, qi_iinc, qi_iadd, qi_isub, qi_imul, qi_iand, qi_ior, qi_ixor, qi_ishl, qi_ishr, qi_iushr, qi_idiv, qi_irem, qi_lor, qi_lmul, qi_ladd, qi_lsub, qi_land, qi_lshl, qi_lshr, qi_i2l, qi_l2i, qi_i2c, qi_lcmp, qi_dup, qi_dup2, qi_pop, qi_if_eq, qi_icmp_eq, qi_if_ne, qi_icmp_ne, qi_if_lt, qi_icmp_lt, qi_if_ge, qi_icmp_ge, qi_if_gt, qi_icmp_gt, qi_if_le, qi_icmp_le, qi_sw, qi_get, qi_put, qi_iald, qi_lald, qi_aald, qi_iast, qi_zast, qi_cast, qi_last, qi_aast, qi_alen, qi_new, qi_newa, qi_newq, qi_obj, qi_invS, qi_invV, qi_invI, qi_iret, qi_zret, qi_lret, qi_vret, qi_acopy, qi_max, qi_min, at_o, at_i, at_l, at_q, at_a, lget, lset, lclr, lnon, lnth, spl, shrt, rpush, true_and, and_true, List.set, List.length, Nat.reduceAdd, Nat.reduceLT, Nat.reduceLeDiff, Nat.reduceEqDiff, Nat.reduceSub]
        refine ⟨nb_01 _, ?_⟩
        rw [hi]
        cases hg : figs L (x + 1) e 2 with
        | none => simp
        | some k => by_cases q2 : (1 ≤ k ∧ k ≤ 60) ∧ v.1 < 12 <;> simp [q2]
      · rw [hi] at z
        cases hg : figs L (x + 1) e 2 with
        | none => rw [hg] at z; cases z
        | some k =>
          rw [hg] at z
          simp only at z
          split at z
          · rename_i q2
            cases z; exact g5 k hg q2.1 q2.2
          · cases z
    · by_cases q2 : (L x = 112 ∨ L x = 120 ∨ L x = 106) ∧ e = x + 3
      · obtain ⟨h', v', g1, g2, g3, g4, g5⟩ := c_S_takePair hp hl hL hv hw (x := x) (by omega) q2.1
        have hi : itC L x e v = itP L x v := by unfold itC; rw [if_neg q, if_neg q1, if_pos q2]
        rw [hi]
        refine ⟨h', v', start _ _ (fun z => absurd z q) (fun z => absurd z q) (fun _ => ?_), g2, g3, g4, g5⟩
        have k75 : vc_S_takeItem_75 (some (.int (nI (itP L x v).isSome.toNat))) h' (cx hc_tt M_S_takeItem h h' (some (.int (nI (itP L x v).isSome.toNat)))) [some (.ref a), some (.int (nI x)), some (.int (nI e)), some (.ref p), some (.int (nI (L x))), none] [.int (nI 1)] h := by
          simp only [vc_S_takeItem_75, qi_push, qi_pushl, qi_iload, qi_lload, qi_aload, qi_istore, qi_astore, qi_lstore, qi_iinc, qi_iadd, qi_isub, qi_imul, qi_iand, qi_ior, qi_ixor, qi_ishl, qi_ishr, qi_iushr, qi_idiv, qi_irem, qi_lor, qi_lmul, qi_ladd, qi_lsub, qi_land, qi_lshl, qi_lshr, qi_i2l, qi_l2i, qi_i2c, qi_lcmp, qi_dup, qi_dup2, qi_pop, qi_if_eq, qi_icmp_eq, qi_if_ne, qi_icmp_ne, qi_if_lt, qi_icmp_lt, qi_if_ge, qi_icmp_ge, qi_if_gt, qi_icmp_gt, qi_if_le, qi_icmp_le, qi_sw, qi_get, qi_put, qi_iald, qi_lald, qi_aald, qi_iast, qi_zast, qi_cast, qi_last, qi_aast, qi_alen, qi_new, qi_newa, qi_newq, qi_obj, qi_invS, qi_invV, qi_invI, qi_iret, qi_zret, qi_lret, qi_vret, qi_acopy, qi_max, qi_min, at_o, at_i, at_l, at_q, at_a, lget, lset, lclr, lnon, lnth, spl, shrt, rpush, true_and, and_true, List.set, List.length, Nat.reduceAdd, Nat.reduceLT, Nat.reduceLeDiff, Nat.reduceEqDiff, Nat.reduceSub, e0]
          refine ⟨fun z => absurd z (by decide), fun _ => ?_⟩
          rw [pk_sub hxe, nI_eq (by omega) (by omega)]
          refine ⟨fun z => absurd (by omega) z, fun _ => ⟨_, _, g1, ?_⟩⟩
          simp only [vc_S_takeItem_102, vc_S_takeItem_103, qi_push, qi_pushl, qi_iload, qi_lload, qi_aload, qi_istore, qi_astore, qi_lstore, qi_iinc, qi_iadd, qi_isub, qi_imul, qi_iand, qi_ior, qi_ixor, qi_ishl, qi_ishr, qi_iushr, qi_idiv, qi_irem, qi_lor, qi_lmul, qi_ladd, qi_lsub, qi_land, qi_lshl, qi_lshr, qi_i2l, qi_l2i, qi_i2c, qi_lcmp, qi_dup, qi_dup2, qi_pop, qi_if_eq, qi_icmp_eq, qi_if_ne, qi_icmp_ne, qi_if_lt, qi_icmp_lt, qi_if_ge, qi_icmp_ge, qi_if_gt, qi_icmp_gt, qi_if_le, qi_icmp_le, qi_sw, qi_get, qi_put, qi_iald, qi_lald, qi_aald, qi_iast, qi_zast, qi_cast, qi_last, qi_aast, qi_alen, qi_new, qi_newa, qi_newq, qi_obj, qi_invS, qi_invV, qi_invI, qi_iret, qi_zret, qi_lret, qi_vret, qi_acopy, qi_max, qi_min, at_o, at_i, at_l, at_q, at_a, lget, lset, lclr, lnon, lnth, spl, shrt, rpush, true_and, and_true, List.set, List.length, Nat.reduceAdd, Nat.reduceLT, Nat.reduceLeDiff, Nat.reduceEqDiff, Nat.reduceSub, nb_eq0, nb_ne0]
          refine ⟨fun z => ⟨Or.inl rfl, by rw [z]; rfl⟩, fun z => ⟨Or.inr rfl, ?_⟩⟩
          cases hz : itP L x v with
          | none => rw [hz] at z; exact absurd rfl z
          | some w => rfl
        simp only [vc_S_takeItem_34, vc_S_takeItem_49, vc_S_takeItem_70, vc_S_takeItem_74, qi_push, qi_pushl, qi_iload, qi_lload, qi_aload, qi_istore, qi_astore, qi_lstore, qi_iinc, qi_iadd, qi_isub, qi_imul, qi_iand, qi_ior, qi_ixor, qi_ishl, qi_ishr, qi_iushr, qi_idiv, qi_irem, qi_lor, qi_lmul, qi_ladd, qi_lsub, qi_land, qi_lshl, qi_lshr, qi_i2l, qi_l2i, qi_i2c, qi_lcmp, qi_dup, qi_dup2, qi_pop, qi_if_eq, qi_icmp_eq, qi_if_ne, qi_icmp_ne, qi_if_lt, qi_icmp_lt, qi_if_ge, qi_icmp_ge, qi_if_gt, qi_icmp_gt, qi_if_le, qi_icmp_le, qi_sw, qi_get, qi_put, qi_iald, qi_lald, qi_aald, qi_iast, qi_zast, qi_cast, qi_last, qi_aast, qi_alen, qi_new, qi_newa, qi_newq, qi_obj, qi_invS, qi_invV, qi_invI, qi_iret, qi_zret, qi_lret, qi_vret, qi_acopy, qi_max, qi_min, at_o, at_i, at_l, at_q, at_a, lget, lset, lclr, lnon, lnth, spl, shrt, rpush, true_and, and_true, List.set, List.length, Nat.reduceAdd, Nat.reduceLT, Nat.reduceLeDiff, Nat.reduceEqDiff, Nat.reduceSub]
        rw [nI_eq (by omega) (by omega), nI_eq (by omega) (by omega), nI_eq (by omega) (by omega), nI_eq (by omega) (by omega)]
        refine ⟨fun _ => ⟨fun _ => k75, fun z1 => ⟨fun _ => k75, fun z2 => ⟨fun z3 => ?_, fun _ => k75⟩⟩⟩, fun z => absurd z q1⟩
        rcases q2.1 with k | k | k
        · exact absurd k z1
        · exact absurd k z2
        · exact absurd k z3
      · have hi : itC L x e v = none := by unfold itC; rw [if_neg q, if_neg q1, if_neg q2]
        rw [hi]
        refine ⟨h, v, start _ _ (fun z => absurd z q) (fun z => absurd z q) (fun _ => ?_), hv, hw, frm.rfl', fun w z => by cases z⟩
        have k75 : ∀ b : Bool, (b = true → ¬ e = x + 3) → vc_S_takeItem_75 (some (.int (nI (none : Option pv).isSome.toNat))) h (cx hc_tt M_S_takeItem h h (some (.int (nI (none : Option pv).isSome.toNat)))) [some (.ref a), some (.int (nI x)), some (.int (nI e)), some (.ref p), some (.int (nI (L x))), none] [.int (nI b.toNat)] h := by
          intro b hb
          simp only [vc_S_takeItem_75, vc_S_takeItem_102, vc_S_takeItem_103, qi_push, qi_pushl, qi_iload, qi_lload, qi_aload, qi_istore, qi_astore, qi_lstore, qi_iinc, qi_iadd, qi_isub, qi_imul, qi_iand, qi_ior, qi_ixor, qi_ishl, qi_ishr, qi_iushr, qi_idiv, qi_irem, qi_lor, qi_lmul, qi_ladd, qi_lsub, qi_land, qi_lshl, qi_lshr, qi_i2l, qi_l2i, qi_i2c, qi_lcmp, qi_dup, qi_dup2, qi_pop, qi_if_eq, qi_icmp_eq, qi_if_ne, qi_icmp_ne, qi_if_lt, qi_icmp_lt, qi_if_ge, qi_icmp_ge, qi_if_gt, qi_icmp_gt, qi_if_le, qi_icmp_le, qi_sw, qi_get, qi_put, qi_iald, qi_lald, qi_aald, qi_iast, qi_zast, qi_cast, qi_last, qi_aast, qi_alen, qi_new, qi_newa, qi_newq, qi_obj, qi_invS, qi_invV, qi_invI, qi_iret, qi_zret, qi_lret, qi_vret, qi_acopy, qi_max, qi_min, at_o, at_i, at_l, at_q, at_a, lget, lset, lclr, lnon, lnth, spl, shrt, rpush, true_and, and_true, List.set, List.length, Nat.reduceAdd, Nat.reduceLT, Nat.reduceLeDiff, Nat.reduceEqDiff, Nat.reduceSub, e0, nb_eq0, nb_ne0]
          refine ⟨fun z => ⟨Or.inl rfl, rfl⟩, fun z => ?_⟩
          rw [pk_sub hxe, nI_eq (by omega) (by omega)]
          exact ⟨fun _ => ⟨Or.inl rfl, rfl⟩, fun z2 => absurd (by omega) (hb (by simpa using z))⟩
        simp only [vc_S_takeItem_34, vc_S_takeItem_49, vc_S_takeItem_70, vc_S_takeItem_74, qi_push, qi_pushl, qi_iload, qi_lload, qi_aload, qi_istore, qi_astore, qi_lstore, qi_iinc, qi_iadd, qi_isub, qi_imul, qi_iand, qi_ior, qi_ixor, qi_ishl, qi_ishr, qi_iushr, qi_idiv, qi_irem, qi_lor, qi_lmul, qi_ladd, qi_lsub, qi_land, qi_lshl, qi_lshr, qi_i2l, qi_l2i, qi_i2c, qi_lcmp, qi_dup, qi_dup2, qi_pop, qi_if_eq, qi_icmp_eq, qi_if_ne, qi_icmp_ne, qi_if_lt, qi_icmp_lt, qi_if_ge, qi_icmp_ge, qi_if_gt, qi_icmp_gt, qi_if_le, qi_icmp_le, qi_sw, qi_get, qi_put, qi_iald, qi_lald, qi_aald, qi_iast, qi_zast, qi_cast, qi_last, qi_aast, qi_alen, qi_new, qi_newa, qi_newq, qi_obj, qi_invS, qi_invV, qi_invI, qi_iret, qi_zret, qi_lret, qi_vret, qi_acopy, qi_max, qi_min, at_o, at_i, at_l, at_q, at_a, lget, lset, lclr, lnon, lnth, spl, shrt, rpush, true_and, and_true, List.set, List.length, Nat.reduceAdd, Nat.reduceLT, Nat.reduceLeDiff, Nat.reduceEqDiff, Nat.reduceSub]
        rw [nI_eq (by omega) (by omega), nI_eq (by omega) (by omega), nI_eq (by omega) (by omega), nI_eq (by omega) (by omega)]
        exact ⟨fun _ => ⟨fun z => k75 true (fun _ z2 => q2 ⟨Or.inl z, z2⟩), fun _ => ⟨fun z => k75 true (fun _ z2 => q2 ⟨Or.inr (Or.inl z), z2⟩), fun _ => ⟨fun _ => k75 false (fun z => by cases z), fun z => k75 true (fun _ z2 => q2 ⟨Or.inr (Or.inr z), z2⟩)⟩⟩⟩, fun z => absurd z q1⟩
end SC
