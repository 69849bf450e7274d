/-! THE MODEL: floors, counts. -/
theorem usd_bit {S : Nat → Nat} {k : Nat} : ∀ n, (usd S n).testBit k = true ↔ ∃ x, x < n ∧ S x ≠ 0 ∧ S x = k := by
  intro n
  induction n with
  | zero =>
    constructor
    · intro q; simp [usd] at q
    · rintro ⟨x, h, -⟩; omega
  | succ n ih =>
    simp only [usd]
    by_cases w : S n = 0
    · rw [if_pos w, ih]
      constructor
      · rintro ⟨x, h1, h2⟩; exact ⟨x, by omega, h2⟩
      · rintro ⟨x, h1, h2, h3⟩
        by_cases e : x = n
        · rw [e] at h2; exact absurd w h2
        · exact ⟨x, by omega, h2, h3⟩
    · rw [if_neg w, bit_or, ih, Nat.testBit_two_pow, decide_eq_true_eq]
      constructor
      · rintro (⟨x, h1, h2⟩ | q)
        · exact ⟨x, by omega, h2⟩
        · exact ⟨n, by omega, w, q⟩
      · rintro ⟨x, h1, h2, h3⟩
        by_cases e : x = n
        · rw [e] at h3; exact Or.inr h3
        · exact Or.inl ⟨x, by omega, h2, h3⟩
theorem bset_ne0 {P : Nat → Bool} {n : Nat} : bset P n ≠ 0 ↔ ∃ x, x < n ∧ P x = true := by
  constructor
  · intro h
    apply Classical.byContradiction
    intro q
    exact h (eq0_bit.mpr fun i hi => by
      rw [bset_bit, Bool.and_eq_true, decide_eq_true_eq] at hi
      exact q ⟨i, hi⟩)
  · rintro ⟨x, h1, h2⟩ q
    exact eq0_bit.mp q x (by rw [bset_bit, h2, decide_eq_true h1]; rfl)
theorem usd_put {S : Nat → Nat} {n k : Nat} (hk : 1 ≤ k) : (usd S n).testBit k = decide (bset (fun x => S x == k) n ≠ 0) := by
  cases w : (usd S n).testBit k
  · symm
    apply decide_eq_false
    intro q
    obtain ⟨x, h1, h2⟩ := bset_ne0.mp q
    have h2 : S x = k := beq_iff_eq.mp h2
    have := (usd_bit (S := S) (k := k) n).mpr ⟨x, h1, by omega, h2⟩
    rw [w] at this; cases this
  · symm
    apply decide_eq_true
    obtain ⟨x, h1, h2, h3⟩ := (usd_bit n).mp w
    exact bset_ne0.mpr ⟨x, h1, beq_iff_eq.mpr h3⟩
/-- put in a station below k -/
def ptb (S : Nat → Nat) (n k : Nat) : Nat := bset (fun x => decide (S x ≠ 0 ∧ S x < k)) n
theorem ptb_bit {S : Nat → Nat} {n k i : Nat} : (ptb S n k).testBit i = true ↔ i < n ∧ S i ≠ 0 ∧ S i < k := by
  unfold ptb
  rw [bset_bit, Bool.and_eq_true, decide_eq_true_eq, decide_eq_true_eq]
theorem ptb_up {T S : Nat → Nat} {n k : Nat} (hk : 1 ≤ k) : tsum T (ptb S n (k + 1)) n = tsum T (ptb S n k) n + tsum T (bset (fun x => S x == k) n) n := by
  rw [← tsum_or (and_0.mpr fun i h1 h2 => ?_)]
  · apply tsum_c
    intro x _
    have : ptb S n (k + 1) = ptb S n k ||| bset (fun x => S x == k) n := by
      apply tb_ext
      intro i
      rw [bit_or, ptb_bit, ptb_bit, bset_bit, Bool.and_eq_true, decide_eq_true_eq, beq_iff_eq]
      omega
    rw [this]
  · rw [ptb_bit] at h1
    rw [bset_bit, Bool.and_eq_true, beq_iff_eq] at h2
    omega
theorem ptb_1 {S : Nat → Nat} {n : Nat} : ptb S n 1 = 0 := eq0_bit.mpr fun i hi => by rw [ptb_bit] at hi; omega
theorem ptb_13 {S : Nat → Nat} {n : Nat} (hS : ∀ x, S x ≤ 12) : ptb S n 13 = fxS S n := by
  apply tb_ext
  intro i
  rw [ptb_bit, bit_sdf, all_bit, bset_bit, Bool.and_eq_true, decide_eq_true_eq, beq_iff_eq]
  have := hS i
  omega
theorem pby_01 {S : Nat → Nat} {n : Nat} : bset (pby S 0 (nI 1)) n = fxS S n := by
  apply tb_ext
  intro i
  rw [bset_bit, bit_sdf, all_bit, bset_bit, Bool.and_eq_true, Bool.and_eq_true, decide_eq_true_eq, beq_iff_eq]
  unfold pby
  rw [if_neg (by decide), if_pos (by decide), Bool.and_eq_true, decide_eq_true_eq, decide_eq_true_eq]
  omega
theorem fxS_lt {S : Nat → Nat} {n : Nat} (hn : n ≤ 12) : fxS S n < 4096 := by
  have := every_lt hn
  exact Nat.lt_of_le_of_lt (sub_le (sdf_sub (2 ^ n - 1) (bset (fun x => S x == 0) n))) this
theorem hand_i (a c t s : Int32) : a * c - t + (c - s) = (a + nI 1) * c - (t + s) := by
  rw [show nI 1 = (1 : Int32) by decide, Int32.add_mul, Int32.one_mul]
  rw [Int32.sub_eq_add_neg, Int32.sub_eq_add_neg, Int32.sub_eq_add_neg, Int32.neg_add, Int32.sub_eq_add_neg]
  rw [Int32.add_assoc, Int32.add_assoc, ← Int32.add_assoc (-t) c, Int32.add_comm (-t) c, Int32.add_assoc c]
section MO
variable {h : hc_H} {m len um sp fs n C : Nat} {X : Nat → Nat → Nat} {Q : Nat → Int32} {T B A J S : Nat → Nat}
theorem c_R_up (h : hc_H) {s d : Nat} (hs : s < 2 ^ 29) (hd : d < 2 ^ 29) (h0 : 0 < d) : MA M_R_up [.int (nI s), .int (nI d)] h (some (.int (nI (ru s d)))) h := by
  refine MX.of (lv := [some (.int (nI s)), some (.int (nI d))]) 0 rfl (by decide) (Nat.le_of_ble_eq_true rfl) (sn_R_up_0 _ _ _ ?_)
  simp only [vc_R_up_0, qi_push, qi_pushl, qi_iload, qi_lload, qi_aload, qi_istore, qi_astore, qi_lstore, qi_iinc, qi_iadd, qi_isub, qi_imul, qi_iand, qi_ior, qi_ixor, qi_ishl, qi_ishr, qi_iushr, qi_idiv, qi_irem, qi_lor, qi_lmul, qi_ladd, qi_lsub, qi_land, qi_lshl, qi_lshr, qi_i2l, qi_l2i, qi_i2c, qi_lcmp, qi_dup, qi_dup2, qi_pop, qi_if_eq, qi_icmp_eq, qi_if_ne, qi_icmp_ne, qi_if_lt, qi_icmp_lt, qi_if_ge, qi_icmp_ge, qi_if_gt, qi_icmp_gt, qi_if_le, qi_icmp_le, qi_sw, qi_get, qi_put, qi_iald, qi_lald, qi_aald, qi_iast, qi_zast, qi_cast, qi_last, qi_aast, qi_alen, qi_new, qi_newa, qi_newq, qi_obj, qi_invS, qi_invV, qi_invI, qi_iret, qi_zret, qi_lret, qi_vret, qi_acopy, qi_max, qi_min, at_o, at_i, at_l, at_q, at_a, lget, lset, lclr, lnon, lnth, spl, shrt, rpush, true_and, and_true, List.set, List.length, Nat.reduceAdd, Nat.reduceLT, Nat.reduceLeDiff, Nat.reduceEqDiff, Nat.reduceSub]
  refine ⟨nI_ne0 h0 (by omega), ?_⟩
  rw [nI_add, pk_sub (by omega), pk_div (by omega) h0 (by omega)]
  rfl
theorem c_R_pairsOf (hr : isR h m len um sp fs X Q) (h0 : X 2 0 = n) (hn : n ≤ 12) {t : Nat} {f : Nat → Nat} (ht : t ≤ 50) (hf : ∀ x, x < 12 → X 2 (t + x) = f x) (hb : ∀ x, f x < 4096) : MA M_R_pairsOf [.ref m, .int (nI t)] h (some (.int (nI (osum f n / 2)))) h := by
  have o0 := hr.1
  have o2 := hr.2.2.1
  have loop := lp_up (P := fun k => cx hc_tt M_R_pairsOf h h (some (.int (nI (osum f n / 2)))) 4 [some (.ref m), some (.int (nI t)), some (.int (nI (osum f k))), some (.int (nI k))] [] h) (n := n)
    (by have l1 := osum_le (B := f) n
        refine sn_R_pairsOf_4 _ _ _ ?_
        simp only [vc_R_pairsOf_4, vc_R_pairsOf_34, qi_push, qi_pushl, qi_iload, qi_lload, qi_aload, qi_istore, qi_astore, qi_lstore, qi_iinc, qi_iadd, qi_isub, qi_imul, qi_iand, qi_ior, qi_ixor, qi_ishl, qi_ishr, qi_iushr, qi_idiv, qi_irem, qi_lor, qi_lmul, qi_ladd, qi_lsub, qi_land, qi_lshl, qi_lshr, qi_i2l, qi_l2i, qi_i2c, qi_lcmp, qi_dup, qi_dup2, qi_pop, qi_if_eq, qi_icmp_eq, qi_if_ne, qi_icmp_ne, qi_if_lt, qi_icmp_lt, qi_if_ge, qi_icmp_ge, qi_if_gt, qi_icmp_gt, qi_if_le, qi_icmp_le, qi_sw, qi_get, qi_put, qi_iald, qi_lald, qi_aald, qi_iast, qi_zast, qi_cast, qi_last, qi_aast, qi_alen, qi_new, qi_newa, qi_newq, qi_obj, qi_invS, qi_invV, qi_invI, qi_iret, qi_zret, qi_lret, qi_vret, qi_acopy, qi_max, qi_min, at_o, at_i, at_l, at_q, at_a, lget, lset, lclr, lnon, lnth, spl, shrt, rpush, true_and, and_true, List.set, List.length, Nat.reduceAdd, Nat.reduceLT, Nat.reduceLeDiff, Nat.reduceEqDiff, Nat.reduceSub, o0, o2, r0, h0]
        rw [pk_div (by omega) (by omega) (by omega)]
        exact ⟨vp_in_nI (by omega) (by omega), fun _ => ⟨by decide, (by first | trivial | exact ⟨rfl, rfl⟩)⟩, fun c => absurd (nI_le (Nat.le_refl _) (by omega)) c⟩)
    (fun k hk ih => by
        have lB := hb k
        refine sn_R_pairsOf_4 _ _ _ ?_
        simp only [vc_R_pairsOf_4, qi_push, qi_pushl, qi_iload, qi_lload, qi_aload, qi_istore, qi_astore, qi_lstore, qi_iinc, qi_iadd, qi_isub, qi_imul, qi_iand, qi_ior, qi_ixor, qi_ishl, qi_ishr, qi_iushr, qi_idiv, qi_irem, qi_lor, qi_lmul, qi_ladd, qi_lsub, qi_land, qi_lshl, qi_lshr, qi_i2l, qi_l2i, qi_i2c, qi_lcmp, qi_dup, qi_dup2, qi_pop, qi_if_eq, qi_icmp_eq, qi_if_ne, qi_icmp_ne, qi_if_lt, qi_icmp_lt, qi_if_ge, qi_icmp_ge, qi_if_gt, qi_icmp_gt, qi_if_le, qi_icmp_le, qi_sw, qi_get, qi_put, qi_iald, qi_lald, qi_aald, qi_iast, qi_zast, qi_cast, qi_last, qi_aast, qi_alen, qi_new, qi_newa, qi_newq, qi_obj, qi_invS, qi_invV, qi_invI, qi_iret, qi_zret, qi_lret, qi_vret, qi_acopy, qi_max, qi_min, at_o, at_i, at_l, at_q, at_a, lget, lset, lclr, lnon, lnth, spl, shrt, rpush, true_and, and_true, List.set, List.length, Nat.reduceAdd, Nat.reduceLT, Nat.reduceLeDiff, Nat.reduceEqDiff, Nat.reduceSub, o0, o2, r0, h0, nI_add]
        rw [nI_clamp (by omega), hf k (by omega)]
        refine ⟨vp_in_nI (by omega) (by omega), fun c => absurd c (nI_ge hk (by omega)), fun _ => ⟨vp_in_nI (by omega) (by omega), _, _, c_R_ones h (show f k < 2 ^ 31 by omega), ?_⟩⟩
        simp only [qi_push, qi_pushl, qi_iload, qi_lload, qi_aload, qi_istore, qi_astore, qi_lstore, qi_iinc, qi_iadd, qi_isub, qi_imul, qi_iand, qi_ior, qi_ixor, qi_ishl, qi_ishr, qi_iushr, qi_idiv, qi_irem, qi_lor, qi_lmul, qi_ladd, qi_lsub, qi_land, qi_lshl, qi_lshr, qi_i2l, qi_l2i, qi_i2c, qi_lcmp, qi_dup, qi_dup2, qi_pop, qi_if_eq, qi_icmp_eq, qi_if_ne, qi_icmp_ne, qi_if_lt, qi_icmp_lt, qi_if_ge, qi_icmp_ge, qi_if_gt, qi_icmp_gt, qi_if_le, qi_icmp_le, qi_sw, qi_get, qi_put, qi_iald, qi_lald, qi_aald, qi_iast, qi_zast, qi_cast, qi_last, qi_aast, qi_alen, qi_new, qi_newa, qi_newq, qi_obj, qi_invS, qi_invV, qi_invI, qi_iret, qi_zret, qi_lret, qi_vret, qi_acopy, qi_max, qi_min, at_o, at_i, at_l, at_q, at_a, lget, lset, lclr, lnon, lnth, spl, shrt, rpush, true_and, and_true, List.set, List.length, Nat.reduceAdd, Nat.reduceLT, Nat.reduceLeDiff, Nat.reduceEqDiff, Nat.reduceSub]
        rw [nI_add, nI_add, ← popc_12 lB]
        exact ih)
  refine MX.of (lv := [some (.ref m), some (.int (nI t)), none, none]) 2 rfl (by decide) (Nat.le_of_ble_eq_true rfl) (sn_R_pairsOf_0 _ _ _ ?_)
  simp only [vc_R_pairsOf_0, qi_push, qi_pushl, qi_iload, qi_lload, qi_aload, qi_istore, qi_astore, qi_lstore, qi_iinc, qi_iadd, qi_isub, qi_imul, qi_iand, qi_ior, qi_ixor, qi_ishl, qi_ishr, qi_iushr, qi_idiv, qi_irem, qi_lor, qi_lmul, qi_ladd, qi_lsub, qi_land, qi_lshl, qi_lshr, qi_i2l, qi_l2i, qi_i2c, qi_lcmp, qi_dup, qi_dup2, qi_pop, qi_if_eq, qi_icmp_eq, qi_if_ne, qi_icmp_ne, qi_if_lt, qi_icmp_lt, qi_if_ge, qi_icmp_ge, qi_if_gt, qi_icmp_gt, qi_if_le, qi_icmp_le, qi_sw, qi_get, qi_put, qi_iald, qi_lald, qi_aald, qi_iast, qi_zast, qi_cast, qi_last, qi_aast, qi_alen, qi_new, qi_newa, qi_newq, qi_obj, qi_invS, qi_invV, qi_invI, qi_iret, qi_zret, qi_lret, qi_vret, qi_acopy, qi_max, qi_min, at_o, at_i, at_l, at_q, at_a, lget, lset, lclr, lnon, lnth, spl, shrt, rpush, true_and, and_true, List.set, List.length, Nat.reduceAdd, Nat.reduceLT, Nat.reduceLeDiff, Nat.reduceEqDiff, Nat.reduceSub]
  exact loop 0 (Nat.zero_le _)
theorem c_R_hand (hr : isR h m len um sp fs X Q) (hX : X 2 = rowP n C T B A J S) (hw : pw n T B A J S) (x : Int32) : MA M_R_hand [.ref m, .int x] h (some (.int (if x = nI 6 then nI (popc (usd S n) 13) else nI (popc (usd S n) 13) * nI C - nI (tsum T (fxS S n) n)))) h := by
  have o0 := hr.1
  have o2 := hr.2.2.1
  rw [hX] at o2
  have hn := hw.1
  have v1 : vp_in (nI 1) 62 := vp_in_nI (by omega) (by omega)
  obtain ⟨rr, er⟩ : ∃ z, (if x = nI 6 then nI (popc (usd S n) 13) else nI (popc (usd S n) 13) * nI C - nI (tsum T (fxS S n) n)) = z := ⟨_, rfl⟩
  rw [er]
  have loop := lp_up (P := fun k => 1 ≤ k → ∀ o, cx hc_tt M_R_hand h h (some (.int rr)) 7 [some (.ref m), some (.int x), some (.int (nI (popc (usd S n) k))), some (.int (nI (popc (usd S n) k) * nI C - nI (tsum T (ptb S n k) n))), some (.int (nI k)), o] [] h) (n := 13)
    (by intro _ o
        refine sn_R_hand_7 _ _ _ ?_
        simp only [vc_R_hand_7, vc_R_hand_66, vc_R_hand_76, vc_R_hand_77, qi_push, qi_pushl, qi_iload, qi_lload, qi_aload, qi_istore, qi_astore, qi_lstore, qi_iinc, qi_iadd, qi_isub, qi_imul, qi_iand, qi_ior, qi_ixor, qi_ishl, qi_ishr, qi_iushr, qi_idiv, qi_irem, qi_lor, qi_lmul, qi_ladd, qi_lsub, qi_land, qi_lshl, qi_lshr, qi_i2l, qi_l2i, qi_i2c, qi_lcmp, qi_dup, qi_dup2, qi_pop, qi_if_eq, qi_icmp_eq, qi_if_ne, qi_icmp_ne, qi_if_lt, qi_icmp_lt, qi_if_ge, qi_icmp_ge, qi_if_gt, qi_icmp_gt, qi_if_le, qi_icmp_le, qi_sw, qi_get, qi_put, qi_iald, qi_lald, qi_aald, qi_iast, qi_zast, qi_cast, qi_last, qi_aast, qi_alen, qi_new, qi_newa, qi_newq, qi_obj, qi_invS, qi_invV, qi_invI, qi_iret, qi_zret, qi_lret, qi_vret, qi_acopy, qi_max, qi_min, at_o, at_i, at_l, at_q, at_a, lget, lset, lclr, lnon, lnth, spl, shrt, rpush, true_and, and_true, List.set, List.length, Nat.reduceAdd, Nat.reduceLT, Nat.reduceLeDiff, Nat.reduceEqDiff, Nat.reduceSub, o0]
        rw [ptb_13 hw.2.2.2.2.2, ← er]
        refine ⟨fun _ => ⟨fun c => ?_, fun c => ?_⟩, fun c => absurd (by decide) c⟩
        · rw [if_neg c]
        · rw [if_pos c])
    (fun k hk ih h1 o => by
        have ih := ih (by omega)
        have b1 : bset (fun x => S x == k) n < 2 ^ 31 := bset_31 _ hn
        have e : popc (usd S n) (k + 1) = popc (usd S n) k + ((usd S n).testBit k).toNat := rfl
        rw [usd_put h1] at e
        rw [ptb_up h1] at ih
        refine sn_R_hand_7 _ _ _ ?_
        simp only [vc_R_hand_7, vc_R_hand_32, qi_push, qi_pushl, qi_iload, qi_lload, qi_aload, qi_istore, qi_astore, qi_lstore, qi_iinc, qi_iadd, qi_isub, qi_imul, qi_iand, qi_ior, qi_ixor, qi_ishl, qi_ishr, qi_iushr, qi_idiv, qi_irem, qi_lor, qi_lmul, qi_ladd, qi_lsub, qi_land, qi_lshl, qi_lshr, qi_i2l, qi_l2i, qi_i2c, qi_lcmp, qi_dup, qi_dup2, qi_pop, qi_if_eq, qi_icmp_eq, qi_if_ne, qi_icmp_ne, qi_if_lt, qi_icmp_lt, qi_if_ge, qi_icmp_ge, qi_if_gt, qi_icmp_gt, qi_if_le, qi_icmp_le, qi_sw, qi_get, qi_put, qi_iald, qi_lald, qi_aald, qi_iast, qi_zast, qi_cast, qi_last, qi_aast, qi_alen, qi_new, qi_newa, qi_newq, qi_obj, qi_invS, qi_invV, qi_invI, qi_iret, qi_zret, qi_lret, qi_vret, qi_acopy, qi_max, qi_min, at_o, at_i, at_l, at_q, at_a, lget, lset, lclr, lnon, lnth, spl, shrt, rpush, true_and, and_true, List.set, List.length, Nat.reduceAdd, Nat.reduceLT, Nat.reduceLeDiff, Nat.reduceEqDiff, Nat.reduceSub, o0]
        refine ⟨fun c => absurd c (Int32.not_lt.mpr (nI_le (by omega) (by omega))), fun _ => ⟨_, _, c_R_putIn hr hX hw (by omega), ?_⟩⟩
        simp only [vc_R_hand_33, vc_R_hand_57, vc_R_hand_58, qi_push, qi_pushl, qi_iload, qi_lload, qi_aload, qi_istore, qi_astore, qi_lstore, qi_iinc, qi_iadd, qi_isub, qi_imul, qi_iand, qi_ior, qi_ixor, qi_ishl, qi_ishr, qi_iushr, qi_idiv, qi_irem, qi_lor, qi_lmul, qi_ladd, qi_lsub, qi_land, qi_lshl, qi_lshr, qi_i2l, qi_l2i, qi_i2c, qi_lcmp, qi_dup, qi_dup2, qi_pop, qi_if_eq, qi_icmp_eq, qi_if_ne, qi_icmp_ne, qi_if_lt, qi_icmp_lt, qi_if_ge, qi_icmp_ge, qi_if_gt, qi_icmp_gt, qi_if_le, qi_icmp_le, qi_sw, qi_get, qi_put, qi_iald, qi_lald, qi_aald, qi_iast, qi_zast, qi_cast, qi_last, qi_aast, qi_alen, qi_new, qi_newa, qi_newq, qi_obj, qi_invS, qi_invV, qi_invI, qi_iret, qi_zret, qi_lret, qi_vret, qi_acopy, qi_max, qi_min, at_o, at_i, at_l, at_q, at_a, lget, lset, lclr, lnon, lnth, spl, shrt, rpush, true_and, and_true, List.set, List.length, Nat.reduceAdd, Nat.reduceLT, Nat.reduceLeDiff, Nat.reduceEqDiff, Nat.reduceSub, o0, o2, v1, r1, rp_1, nI_add]
        rw [← nI_0, nI_eq b1 (by omega)]
        refine ⟨fun c => ?_, fun c => ?_⟩
        · rw [decide_eq_false (fun q => q c)] at e
          have e : popc (usd S n) (k + 1) = popc (usd S n) k := e
          rw [e, c, tsum_0, Nat.add_zero] at ih
          refine ⟨fun _ => ?_, fun q => absurd c q⟩
          rw [nI_0, Int32.add_zero]
          exact ih _
        · rw [decide_eq_true c] at e
          have e : popc (usd S n) (k + 1) = popc (usd S n) k + 1 := e
          rw [e] at ih
          refine ⟨fun q => absurd q c, fun _ => ⟨_, _, c_R_timesOf hr hX hw b1, ?_⟩⟩
          simp only [qi_push, qi_pushl, qi_iload, qi_lload, qi_aload, qi_istore, qi_astore, qi_lstore, qi_iinc, qi_iadd, qi_isub, qi_imul, qi_iand, qi_ior, qi_ixor, qi_ishl, qi_ishr, qi_iushr, qi_idiv, qi_irem, qi_lor, qi_lmul, qi_ladd, qi_lsub, qi_land, qi_lshl, qi_lshr, qi_i2l, qi_l2i, qi_i2c, qi_lcmp, qi_dup, qi_dup2, qi_pop, qi_if_eq, qi_icmp_eq, qi_if_ne, qi_icmp_ne, qi_if_lt, qi_icmp_lt, qi_if_ge, qi_icmp_ge, qi_if_gt, qi_icmp_gt, qi_if_le, qi_icmp_le, qi_sw, qi_get, qi_put, qi_iald, qi_lald, qi_aald, qi_iast, qi_zast, qi_cast, qi_last, qi_aast, qi_alen, qi_new, qi_newa, qi_newq, qi_obj, qi_invS, qi_invV, qi_invI, qi_iret, qi_zret, qi_lret, qi_vret, qi_acopy, qi_max, qi_min, at_o, at_i, at_l, at_q, at_a, lget, lset, lclr, lnon, lnth, spl, shrt, rpush, true_and, and_true, List.set, List.length, Nat.reduceAdd, Nat.reduceLT, Nat.reduceLeDiff, Nat.reduceEqDiff, Nat.reduceSub]
          rw [hand_i, nI_add, nI_add, nI_add]
          exact ih _)
  refine MX.of (lv := [some (.ref m), some (.int x), none, none, none, none]) 4 rfl (by decide) (Nat.le_of_ble_eq_true rfl) (sn_R_hand_0 _ _ _ ?_)
  simp only [vc_R_hand_0, qi_push, qi_pushl, qi_iload, qi_lload, qi_aload, qi_istore, qi_astore, qi_lstore, qi_iinc, qi_iadd, qi_isub, qi_imul, qi_iand, qi_ior, qi_ixor, qi_ishl, qi_ishr, qi_iushr, qi_idiv, qi_irem, qi_lor, qi_lmul, qi_ladd, qi_lsub, qi_land, qi_lshl, qi_lshr, qi_i2l, qi_l2i, qi_i2c, qi_lcmp, qi_dup, qi_dup2, qi_pop, qi_if_eq, qi_icmp_eq, qi_if_ne, qi_icmp_ne, qi_if_lt, qi_icmp_lt, qi_if_ge, qi_icmp_ge, qi_if_gt, qi_icmp_gt, qi_if_le, qi_icmp_le, qi_sw, qi_get, qi_put, qi_iald, qi_lald, qi_aald, qi_iast, qi_zast, qi_cast, qi_last, qi_aast, qi_alen, qi_new, qi_newa, qi_newq, qi_obj, qi_invS, qi_invV, qi_invI, qi_iret, qi_zret, qi_lret, qi_vret, qi_acopy, qi_max, qi_min, at_o, at_i, at_l, at_q, at_a, lget, lset, lclr, lnon, lnth, spl, shrt, rpush, true_and, and_true, List.set, List.length, Nat.reduceAdd, Nat.reduceLT, Nat.reduceLeDiff, Nat.reduceEqDiff, Nat.reduceSub]
  have := loop 1 (by omega) (Nat.le_refl _) none
  have e0 : popc (usd S n) 1 = 0 := by
    show 0 + ((usd S n).testBit 0).toNat = 0
    cases q : (usd S n).testBit 0
    · rfl
    · obtain ⟨x, -, h2, h3⟩ := (usd_bit n).mp q
      exact absurd h3 h2
  rw [e0, ptb_1, tsum_0] at this
  have e1 : nI 0 * nI C - nI 0 = nI 0 := by rw [nI_0, Int32.zero_mul, Int32.sub_zero]
  rw [e1] at this
  exact this
end MO
