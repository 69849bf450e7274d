/-! THE MODEL: its picture, small methods. -/
abbrev rfO (m len um sp fs : Nat) : hc_C := .inr (6, [.int (nI len), .ref (m + 1), .ref (m + 2), .ref (m + 3), .int (nI um), .ref (m + 4), .int (nI sp), .ref (m + 5), .ref (m + 6), .ref (m + 7), .ref (m + 8), .ref (m + 9), .ref (m + 10), .ref (m + 11), .int (nI fs)])
abbrev zz (n : Nat) (f : Nat → Nat) : Option hc_C := some (.inl (1, n, .inl (fun j => nI (f j))))
/-- the row of a plan -/
def rowP (n C : Nat) (T B A J S : Nat → Nat) (j : Nat) : Nat := if j = 0 then n else if j = 1 then C else if j < 14 then T (j - 2) else if j < 26 then B (j - 14) else if j < 38 then A (j - 26) else if j < 50 then J (j - 38) else S (j - 50)
/-- THE MODEL at m: X 1 text, X 2 now, X 3 before, X 5 needs, X 6 good, X 7 rest, X 8 ways, X 9 leads, X 10 comes, X 11 fixed; Q read -/
def isR (h : hc_H) (m len um sp fs : Nat) (X : Nat → Nat → Nat) (Q : Nat → Int32) : Prop :=
  h.1 m = some (rfO m len um sp fs) ∧ h.1 (m + 1) = ii 200 (X 1) ∧ h.1 (m + 2) = ii 62 (X 2) ∧ h.1 (m + 3) = ii 372 (X 3) ∧ h.1 (m + 4) = some (.inl (0, 62, .inl Q)) ∧ h.1 (m + 5) = ii 4096 (X 5) ∧ h.1 (m + 6) = zz 4096 (X 6) ∧ h.1 (m + 7) = ii 4096 (X 7) ∧ h.1 (m + 8) = ii 4096 (X 8) ∧ h.1 (m + 9) = zz 4096 (X 9) ∧ h.1 (m + 10) = zz 4096 (X 10) ∧ h.1 (m + 11) = ii 12 (X 11)
theorem rp_T {n C t : Nat} {T B A J S : Nat → Nat} (h : t < 12) : rowP n C T B A J S (2 + t) = T t := by
  unfold rowP; rw [if_neg (by omega), if_neg (by omega), if_pos (by omega), show 2 + t - 2 = t by omega]
theorem rp_B {n C t : Nat} {T B A J S : Nat → Nat} (h : t < 12) : rowP n C T B A J S (14 + t) = B t := by
  unfold rowP; rw [if_neg (by omega), if_neg (by omega), if_neg (by omega), if_pos (by omega), show 14 + t - 14 = t by omega]
theorem rp_A {n C t : Nat} {T B A J S : Nat → Nat} (h : t < 12) : rowP n C T B A J S (26 + t) = A t := by
  unfold rowP; rw [if_neg (by omega), if_neg (by omega), if_neg (by omega), if_neg (by omega), if_pos (by omega), show 26 + t - 26 = t by omega]
theorem rp_J {n C t : Nat} {T B A J S : Nat → Nat} (h : t < 12) : rowP n C T B A J S (38 + t) = J t := by
  unfold rowP; rw [if_neg (by omega), if_neg (by omega), if_neg (by omega), if_neg (by omega), if_neg (by omega), if_pos (by omega), show 38 + t - 38 = t by omega]
theorem rp_S {n C t : Nat} {T B A J S : Nat → Nat} : rowP n C T B A J S (50 + t) = S t := by
  unfold rowP; rw [if_neg (by omega), if_neg (by omega), if_neg (by omega), if_neg (by omega), if_neg (by omega), if_neg (by omega), show 50 + t - 50 = t by omega]
theorem rp_0 {n C : Nat} {T B A J S : Nat → Nat} : rowP n C T B A J S 0 = n := rfl
theorem rp_1 {n C : Nat} {T B A J S : Nat → Nat} : rowP n C T B A J S 1 = C := rfl
theorem lc_gt {x y : Int64} : 0 < lg_cmp x y ↔ y < x := by
  unfold lg_cmp
  by_cases h1 : x > y
  · rw [if_pos h1]; exact ⟨fun _ => h1, fun _ => by decide⟩
  · rw [if_neg h1]
    by_cases h2 : x = y
    · rw [if_pos h2]; exact ⟨fun q => absurd q (by decide), fun q => absurd q h1⟩
    · rw [if_neg h2]; exact ⟨fun q => absurd q (by decide), fun q => absurd q h1⟩
theorem lc_lt {x y : Int64} : lg_cmp x y < 0 ↔ x < y := by
  unfold lg_cmp
  by_cases h1 : x > y
  · rw [if_pos h1]
    refine ⟨fun q => absurd q (by decide), fun q => ?_⟩
    have a1 := Int64.lt_iff_toInt_lt.mp q
    have a2 := Int64.lt_iff_toInt_lt.mp h1
    omega
  · rw [if_neg h1]
    by_cases h2 : x = y
    · rw [if_pos h2]
      refine ⟨fun q => absurd q (by decide), fun q => ?_⟩
      have a1 := Int64.lt_iff_toInt_lt.mp q
      rw [h2] at a1
      omega
    · rw [if_neg h2]
      refine ⟨fun _ => ?_, fun _ => by decide⟩
      have a1 := Int64.le_iff_toInt_le.mp (Int64.not_lt.mp h1)
      have a2 : ¬ x.toInt = y.toInt := fun q => h2 (Int64.toInt_inj.mp q)
      exact Int64.lt_iff_toInt_lt.mpr (by omega)
theorem in_l {x : Int32} {lo hi : Nat} (h1 : lo < 2 ^ 31) (h2 : hi < 2 ^ 31) : (lN lo ≤ x.toInt64 ∧ x.toInt64 ≤ lN hi) ↔ (nI lo ≤ x ∧ x ≤ nI hi) := by
  rw [Int64.le_iff_toInt_le, Int64.le_iff_toInt_le, Int32.le_iff_toInt_le, Int32.le_iff_toInt_le, Int32.toInt_toInt64, pk_lT (by omega), pk_lT (by omega), nI_toInt h1, nI_toInt h2]
theorem task_l {x : Int32} {n : Nat} (hn : 1 ≤ n ∧ n ≤ 12) : (lN 0 ≤ x.toInt64 ∧ x.toInt64 ≤ lN (n - 1)) ↔ (0 ≤ x ∧ x < nI n) := by
  rw [in_l (by omega) (by omega), Int32.le_iff_toInt_le, Int32.le_iff_toInt_le, Int32.le_iff_toInt_le, Int32.lt_iff_toInt_lt, nI_toInt (by omega), nI_toInt (by omega), nI_toInt (by omega), show (0 : Int32).toInt = 0 by decide]
  omega
theorem c_R_in (h : hc_H) (x lo hi : Int64) : MA M_R_in [.long x, .long lo, .long hi] h (some (.int (nI (decide (lo ≤ x ∧ x ≤ hi)).toNat))) h := by
  refine MX.of (lv := [some (.long x), none, some (.long lo), none, some (.long hi), none]) 0 rfl (by decide) (Nat.le_of_ble_eq_true rfl) (sn_R_in_0 _ _ _ ?_)
  simp only [vc_R_in_0, vc_R_in_17, vc_R_in_18, qi_push, qi_pushl, qi_iload, qi_lload, qi_aload, qi_istore, qi_astore, qi_lstore, qi_iinc, qi_iadd, qi_isub, qi_imul, qi_iand, qi_ior, qi_ixor, qi_ishl, qi_ishr, qi_iushr, qi_idiv, qi_irem, qi_lor, qi_lmul, qi_ladd, qi_lsub, qi_land, qi_lshl, qi_lshr, qi_i2l, qi_l2i, qi_i2c, qi_lcmp, qi_dup, qi_dup2, qi_pop, qi_if_eq, qi_icmp_eq, qi_if_ne, qi_icmp_ne, qi_if_lt, qi_icmp_lt, qi_if_ge, qi_icmp_ge, qi_if_gt, qi_icmp_gt, qi_if_le, qi_icmp_le, qi_sw, qi_get, qi_put, qi_iald, qi_lald, qi_aald, qi_iast, qi_zast, qi_cast, qi_last, qi_aast, qi_alen, qi_new, qi_newa, qi_newq, qi_obj, qi_invS, qi_invV, qi_invI, qi_iret, qi_zret, qi_lret, qi_vret, qi_acopy, qi_max, qi_min, at_o, at_i, at_l, at_q, at_a, lget, lset, lclr, lnon, lnth, spl, shrt, rpush, true_and, and_true, List.set, List.length, Nat.reduceAdd, Nat.reduceLT, Nat.reduceLeDiff, Nat.reduceEqDiff, Nat.reduceSub]
  rw [lc_lt, lc_gt]
  refine ⟨fun q => ⟨Or.inl rfl, ?_⟩, fun q => ⟨fun q2 => ⟨Or.inl rfl, ?_⟩, fun q2 => ⟨Or.inr rfl, ?_⟩⟩⟩
  · rw [decide_eq_false (fun z => absurd q (Int64.not_lt.mpr z.1))]; rfl
  · rw [decide_eq_false (fun z => absurd q2 (Int64.not_lt.mpr z.2))]; rfl
  · rw [decide_eq_true ⟨Int64.not_lt.mp q, Int64.not_lt.mp q2⟩]; rfl
theorem c_R_has (h : hc_H) {s i : Nat} (hs : s < 2 ^ 31) (hi : i < 31) : MA M_R_has [.int (nI s), .int (nI i)] h (some (.int (nI (s.testBit i).toNat))) h := by
  refine MX.of (lv := [some (.int (nI s)), some (.int (nI i))]) 0 rfl (by decide) (Nat.le_of_ble_eq_true rfl) (sn_R_has_0 _ _ _ ?_)
  simp only [vc_R_has_0, vc_R_has_13, vc_R_has_14, qi_push, qi_pushl, qi_iload, qi_lload, qi_aload, qi_istore, qi_astore, qi_lstore, qi_iinc, qi_iadd, qi_isub, qi_imul, qi_iand, qi_ior, qi_ixor, qi_ishl, qi_ishr, qi_iushr, qi_idiv, qi_irem, qi_lor, qi_lmul, qi_ladd, qi_lsub, qi_land, qi_lshl, qi_lshr, qi_i2l, qi_l2i, qi_i2c, qi_lcmp, qi_dup, qi_dup2, qi_pop, qi_if_eq, qi_icmp_eq, qi_if_ne, qi_icmp_ne, qi_if_lt, qi_icmp_lt, qi_if_ge, qi_icmp_ge, qi_if_gt, qi_icmp_gt, qi_if_le, qi_icmp_le, qi_sw, qi_get, qi_put, qi_iald, qi_lald, qi_aald, qi_iast, qi_zast, qi_cast, qi_last, qi_aast, qi_alen, qi_new, qi_newa, qi_newq, qi_obj, qi_invS, qi_invV, qi_invI, qi_iret, qi_zret, qi_lret, qi_vret, qi_acopy, qi_max, qi_min, at_o, at_i, at_l, at_q, at_a, lget, lset, lclr, lnon, lnth, spl, shrt, rpush, true_and, and_true, List.set, List.length, Nat.reduceAdd, Nat.reduceLT, Nat.reduceLeDiff, Nat.reduceEqDiff, Nat.reduceSub]
  rw [ni_bit hs hi]
  refine ⟨fun q => ⟨Or.inl rfl, ?_⟩, fun q => ⟨Or.inr rfl, ?_⟩⟩
  · rw [(nb_ne1 _).mp q]; rfl
  · rw [(nb_eq1 _).mp q]; rfl
theorem c_R_ones (h : hc_H) {s : Nat} (hs : s < 2 ^ 31) : MA M_R_ones [.int (nI s)] h (some (.int (nI (popc s 12)))) h := by
  have loop := lp_up (P := fun k => cx hc_tt M_R_ones h h (some (.int (nI (popc s 12)))) 4 [some (.int (nI s)), some (.int (nI (popc s k))), some (.int (nI k))] [] h) (n := 12)
    (by refine sn_R_ones_4 _ _ _ ?_
        simp only [vc_R_ones_4, vc_R_ones_24, qi_push, qi_pushl, qi_iload, qi_lload, qi_aload, qi_istore, qi_astore, qi_lstore, qi_iinc, qi_iadd, qi_isub, qi_imul, qi_iand, qi_ior, qi_ixor, qi_ishl, qi_ishr, qi_iushr, qi_idiv, qi_irem, qi_lor, qi_lmul, qi_ladd, qi_lsub, qi_land, qi_lshl, qi_lshr, qi_i2l, qi_l2i, qi_i2c, qi_lcmp, qi_dup, qi_dup2, qi_pop, qi_if_eq, qi_icmp_eq, qi_if_ne, qi_icmp_ne, qi_if_lt, qi_icmp_lt, qi_if_ge, qi_icmp_ge, qi_if_gt, qi_icmp_gt, qi_if_le, qi_icmp_le, qi_sw, qi_get, qi_put, qi_iald, qi_lald, qi_aald, qi_iast, qi_zast, qi_cast, qi_last, qi_aast, qi_alen, qi_new, qi_newa, qi_newq, qi_obj, qi_invS, qi_invV, qi_invI, qi_iret, qi_zret, qi_lret, qi_vret, qi_acopy, qi_max, qi_min, at_o, at_i, at_l, at_q, at_a, lget, lset, lclr, lnon, lnth, spl, shrt, rpush, true_and, and_true, List.set, List.length, Nat.reduceAdd, Nat.reduceLT, Nat.reduceLeDiff, Nat.reduceEqDiff, Nat.reduceSub]
        exact ⟨fun _ => trivial, fun q => absurd (by decide) q⟩)
    (fun k hk ih => by
        refine sn_R_ones_4 _ _ _ ?_
        simp only [vc_R_ones_4, vc_R_ones_24, qi_push, qi_pushl, qi_iload, qi_lload, qi_aload, qi_istore, qi_astore, qi_lstore, qi_iinc, qi_iadd, qi_isub, qi_imul, qi_iand, qi_ior, qi_ixor, qi_ishl, qi_ishr, qi_iushr, qi_idiv, qi_irem, qi_lor, qi_lmul, qi_ladd, qi_lsub, qi_land, qi_lshl, qi_lshr, qi_i2l, qi_l2i, qi_i2c, qi_lcmp, qi_dup, qi_dup2, qi_pop, qi_if_eq, qi_icmp_eq, qi_if_ne, qi_icmp_ne, qi_if_lt, qi_icmp_lt, qi_if_ge, qi_icmp_ge, qi_if_gt, qi_icmp_gt, qi_if_le, qi_icmp_le, qi_sw, qi_get, qi_put, qi_iald, qi_lald, qi_aald, qi_iast, qi_zast, qi_cast, qi_last, qi_aast, qi_alen, qi_new, qi_newa, qi_newq, qi_obj, qi_invS, qi_invV, qi_invI, qi_iret, qi_zret, qi_lret, qi_vret, qi_acopy, qi_max, qi_min, at_o, at_i, at_l, at_q, at_a, lget, lset, lclr, lnon, lnth, spl, shrt, rpush, true_and, and_true, List.set, List.length, Nat.reduceAdd, Nat.reduceLT, Nat.reduceLeDiff, Nat.reduceEqDiff, Nat.reduceSub]
        rw [ni_bit hs (by omega), nI_add, nI_add]
        exact ⟨fun q => absurd q (nI_ge hk (by omega)), fun _ => ih⟩)
  refine MX.of (lv := [some (.int (nI s)), none, none]) 2 rfl (by decide) (Nat.le_of_ble_eq_true rfl) (sn_R_ones_0 _ _ _ ?_)
  simp only [vc_R_ones_0, qi_push, qi_pushl, qi_iload, qi_lload, qi_aload, qi_istore, qi_astore, qi_lstore, qi_iinc, qi_iadd, qi_isub, qi_imul, qi_iand, qi_ior, qi_ixor, qi_ishl, qi_ishr, qi_iushr, qi_idiv, qi_irem, qi_lor, qi_lmul, qi_ladd, qi_lsub, qi_land, qi_lshl, qi_lshr, qi_i2l, qi_l2i, qi_i2c, qi_lcmp, qi_dup, qi_dup2, qi_pop, qi_if_eq, qi_icmp_eq, qi_if_ne, qi_icmp_ne, qi_if_lt, qi_icmp_lt, qi_if_ge, qi_icmp_ge, qi_if_gt, qi_icmp_gt, qi_if_le, qi_icmp_le, qi_sw, qi_get, qi_put, qi_iald, qi_lald, qi_aald, qi_iast, qi_zast, qi_cast, qi_last, qi_aast, qi_alen, qi_new, qi_newa, qi_newq, qi_obj, qi_invS, qi_invV, qi_invI, qi_iret, qi_zret, qi_lret, qi_vret, qi_acopy, qi_max, qi_min, at_o, at_i, at_l, at_q, at_a, lget, lset, lclr, lnon, lnth, spl, shrt, rpush, true_and, and_true, List.set, List.length, Nat.reduceAdd, Nat.reduceLT, Nat.reduceLeDiff, Nat.reduceEqDiff, Nat.reduceSub]
  exact loop 0 (Nat.zero_le _)
section MO
variable {h : hc_H} {m len um sp fs n C : Nat} {X : Nat → Nat → Nat} {Q : Nat → Int32} {T B A J S : Nat → Nat}
theorem c_R_isTask (hr : isR h m len um sp fs X Q) (h0 : X 2 0 = n) (hn : 1 ≤ n ∧ n ≤ 12) (t : Int32) : MA M_R_isTask [.ref m, .int t] h (some (.int (nI (decide (0 ≤ t ∧ t < nI n)).toNat))) h := by
  have o0 := hr.1
  have o2 := hr.2.2.1
  refine MX.of (lv := [some (.ref m), some (.int t)]) 0 rfl (by decide) (Nat.le_of_ble_eq_true rfl) (sn_R_isTask_0 _ _ _ ?_)
  simp only [vc_R_isTask_0, qi_push, qi_pushl, qi_iload, qi_lload, qi_aload, qi_istore, qi_astore, qi_lstore, qi_iinc, qi_iadd, qi_isub, qi_imul, qi_iand, qi_ior, qi_ixor, qi_ishl, qi_ishr, qi_iushr, qi_idiv, qi_irem, qi_lor, qi_lmul, qi_ladd, qi_lsub, qi_land, qi_lshl, qi_lshr, qi_i2l, qi_l2i, qi_i2c, qi_lcmp, qi_dup, qi_dup2, qi_pop, qi_if_eq, qi_icmp_eq, qi_if_ne, qi_icmp_ne, qi_if_lt, qi_icmp_lt, qi_if_ge, qi_icmp_ge, qi_if_gt, qi_icmp_gt, qi_if_le, qi_icmp_le, qi_sw, qi_get, qi_put, qi_iald, qi_lald, qi_aald, qi_iast, qi_zast, qi_cast, qi_last, qi_aast, qi_alen, qi_new, qi_newa, qi_newq, qi_obj, qi_invS, qi_invV, qi_invI, qi_iret, qi_zret, qi_lret, qi_vret, qi_acopy, qi_max, qi_min, at_o, at_i, at_l, at_q, at_a, lget, lset, lclr, lnon, lnth, spl, shrt, rpush, true_and, and_true, List.set, List.length, Nat.reduceAdd, Nat.reduceLT, Nat.reduceLeDiff, Nat.reduceEqDiff, Nat.reduceSub, o0, o2]
  refine ⟨vp_in_nI (by omega) (by omega), _, _, c_R_in h _ _ _, ?_⟩
  simp only [qi_push, qi_pushl, qi_iload, qi_lload, qi_aload, qi_istore, qi_astore, qi_lstore, qi_iinc, qi_iadd, qi_isub, qi_imul, qi_iand, qi_ior, qi_ixor, qi_ishl, qi_ishr, qi_iushr, qi_idiv, qi_irem, qi_lor, qi_lmul, qi_ladd, qi_lsub, qi_land, qi_lshl, qi_lshr, qi_i2l, qi_l2i, qi_i2c, qi_lcmp, qi_dup, qi_dup2, qi_pop, qi_if_eq, qi_icmp_eq, qi_if_ne, qi_icmp_ne, qi_if_lt, qi_icmp_lt, qi_if_ge, qi_icmp_ge, qi_if_gt, qi_icmp_gt, qi_if_le, qi_icmp_le, qi_sw, qi_get, qi_put, qi_iald, qi_lald, qi_aald, qi_iast, qi_zast, qi_cast, qi_last, qi_aast, qi_alen, qi_new, qi_newa, qi_newq, qi_obj, qi_invS, qi_invV, qi_invI, qi_iret, qi_zret, qi_lret, qi_vret, qi_acopy, qi_max, qi_min, at_o, at_i, at_l, at_q, at_a, lget, lset, lclr, lnon, lnth, spl, shrt, rpush, true_and, and_true, List.set, List.length, Nat.reduceAdd, Nat.reduceLT, Nat.reduceLeDiff, Nat.reduceEqDiff, Nat.reduceSub]
  rw [show (nI 0).toNatClampNeg = 0 by decide, h0, pk_sub hn.1, nI_l (by omega)]
  refine ⟨nb_01 _, ?_⟩
  simp only [task_l hn]
theorem c_R_isPair (hr : isR h m len um sp fs X Q) (h0 : X 2 0 = n) (hn : 1 ≤ n ∧ n ≤ 12) (a b : Int32) : MA M_R_isPair [.ref m, .int a, .int b] h (some (.int (nI (decide ((0 ≤ a ∧ a < nI n) ∧ (0 ≤ b ∧ b < nI n) ∧ ¬ a = b)).toNat))) h := by
  have o0 := hr.1
  refine MX.of (lv := [some (.ref m), some (.int a), some (.int b)]) 0 rfl (by decide) (Nat.le_of_ble_eq_true rfl) (sn_R_isPair_0 _ _ _ ?_)
  simp only [vc_R_isPair_0, vc_R_isPair_25, vc_R_isPair_26, qi_push, qi_pushl, qi_iload, qi_lload, qi_aload, qi_istore, qi_astore, qi_lstore, qi_iinc, qi_iadd, qi_isub, qi_imul, qi_iand, qi_ior, qi_ixor, qi_ishl, qi_ishr, qi_iushr, qi_idiv, qi_irem, qi_lor, qi_lmul, qi_ladd, qi_lsub, qi_land, qi_lshl, qi_lshr, qi_i2l, qi_l2i, qi_i2c, qi_lcmp, qi_dup, qi_dup2, qi_pop, qi_if_eq, qi_icmp_eq, qi_if_ne, qi_icmp_ne, qi_if_lt, qi_icmp_lt, qi_if_ge, qi_icmp_ge, qi_if_gt, qi_icmp_gt, qi_if_le, qi_icmp_le, qi_sw, qi_get, qi_put, qi_iald, qi_lald, qi_aald, qi_iast, qi_zast, qi_cast, qi_last, qi_aast, qi_alen, qi_new, qi_newa, qi_newq, qi_obj, qi_invS, qi_invV, qi_invI, qi_iret, qi_zret, qi_lret, qi_vret, qi_acopy, qi_max, qi_min, at_o, at_i, at_l, at_q, at_a, lget, lset, lclr, lnon, lnth, spl, shrt, rpush, true_and, and_true, List.set, List.length, Nat.reduceAdd, Nat.reduceLT, Nat.reduceLeDiff, Nat.reduceEqDiff, Nat.reduceSub, o0]
  refine ⟨_, _, c_R_isTask hr h0 hn a, ?_⟩
  simp only [qi_push, qi_pushl, qi_iload, qi_lload, qi_aload, qi_istore, qi_astore, qi_lstore, qi_iinc, qi_iadd, qi_isub, qi_imul, qi_iand, qi_ior, qi_ixor, qi_ishl, qi_ishr, qi_iushr, qi_idiv, qi_irem, qi_lor, qi_lmul, qi_ladd, qi_lsub, qi_land, qi_lshl, qi_lshr, qi_i2l, qi_l2i, qi_i2c, qi_lcmp, qi_dup, qi_dup2, qi_pop, qi_if_eq, qi_icmp_eq, qi_if_ne, qi_icmp_ne, qi_if_lt, qi_icmp_lt, qi_if_ge, qi_icmp_ge, qi_if_gt, qi_icmp_gt, qi_if_le, qi_icmp_le, qi_sw, qi_get, qi_put, qi_iald, qi_lald, qi_aald, qi_iast, qi_zast, qi_cast, qi_last, qi_aast, qi_alen, qi_new, qi_newa, qi_newq, qi_obj, qi_invS, qi_invV, qi_invI, qi_iret, qi_zret, qi_lret, qi_vret, qi_acopy, qi_max, qi_min, at_o, at_i, at_l, at_q, at_a, lget, lset, lclr, lnon, lnth, spl, shrt, rpush, true_and, and_true, List.set, List.length, Nat.reduceAdd, Nat.reduceLT, Nat.reduceLeDiff, Nat.reduceEqDiff, Nat.reduceSub, o0]
  refine ⟨fun q => ⟨Or.inl rfl, ?_⟩, fun q => ⟨_, _, c_R_isTask hr h0 hn b, ?_⟩⟩
  · rw [decide_eq_false (fun z => absurd z.1 (of_decide_eq_false ((nb_eq0 _).mp q)))]; rfl
  · simp only [qi_push, qi_pushl, qi_iload, qi_lload, qi_aload, qi_istore, qi_astore, qi_lstore, qi_iinc, qi_iadd, qi_isub, qi_imul, qi_iand, qi_ior, qi_ixor, qi_ishl, qi_ishr, qi_iushr, qi_idiv, qi_irem, qi_lor, qi_lmul, qi_ladd, qi_lsub, qi_land, qi_lshl, qi_lshr, qi_i2l, qi_l2i, qi_i2c, qi_lcmp, qi_dup, qi_dup2, qi_pop, qi_if_eq, qi_icmp_eq, qi_if_ne, qi_icmp_ne, qi_if_lt, qi_icmp_lt, qi_if_ge, qi_icmp_ge, qi_if_gt, qi_icmp_gt, qi_if_le, qi_icmp_le, qi_sw, qi_get, qi_put, qi_iald, qi_lald, qi_aald, qi_iast, qi_zast, qi_cast, qi_last, qi_aast, qi_alen, qi_new, qi_newa, qi_newq, qi_obj, qi_invS, qi_invV, qi_invI, qi_iret, qi_zret, qi_lret, qi_vret, qi_acopy, qi_max, qi_min, at_o, at_i, at_l, at_q, at_a, lget, lset, lclr, lnon, lnth, spl, shrt, rpush, true_and, and_true, List.set, List.length, Nat.reduceAdd, Nat.reduceLT, Nat.reduceLeDiff, Nat.reduceEqDiff, Nat.reduceSub]
    have q := of_decide_eq_true ((nb_ne0 _).mp q)
    refine ⟨fun q2 => ⟨Or.inl rfl, ?_⟩, fun q2 => ⟨fun q3 => ⟨Or.inl rfl, ?_⟩, fun q3 => ⟨Or.inr rfl, ?_⟩⟩⟩
    · rw [decide_eq_false (fun z => absurd z.2.1 (of_decide_eq_false ((nb_eq0 _).mp q2)))]; rfl
    · rw [decide_eq_false (fun z => z.2.2 q3)]; rfl
    · rw [decide_eq_true ⟨q, of_decide_eq_true ((nb_ne0 _).mp q2), q3⟩]; rfl
end MO
