/-! THE MODEL: stations of a task in the best lines, some being fixed. -/
def fxk (F s a b : Nat) (f : Nat → Nat) : Nat → Bool
  | 0 => true
  | t + 1 => fxk F s a b f t && (!F.testBit t || (s.testBit t == decide (f t + a = b + 1)))
theorem fxk_iff {F s a b : Nat} {f : Nat → Nat} : ∀ k, fxk F s a b f k = true ↔ ∀ x, x < k → F.testBit x = true → (s.testBit x = true ↔ f x + a = b + 1) := by
  intro k
  induction k with
  | zero => exact ⟨fun _ x hx => by omega, fun _ => rfl⟩
  | succ k ih =>
    simp only [fxk]
    rw [Bool.and_eq_true, ih, Bool.or_eq_true, Bool.not_eq_true', beq_iff_eq]
    have key : (F.testBit k = false ∨ s.testBit k = decide (f k + a = b + 1)) ↔ (F.testBit k = true → (s.testBit k = true ↔ f k + a = b + 1)) := by
      cases F.testBit k
      · simp
      · by_cases w : f k + a = b + 1
        · rw [decide_eq_true w]; simp [w]
        · rw [decide_eq_false w]; simp [w]
    rw [key]
    constructor
    · rintro ⟨h1, h2⟩ x hx
      by_cases e : x = k
      · rw [e]; exact h2
      · exact h1 x (by omega)
    · intro h
      exact ⟨fun x hx => h x (by omega), h k (by omega)⟩
def ebb (n c : Nat) (T B A J R f : Nat → Nat) (F d s : Nat) : Bool := decide (R (d ||| s) + 1 = R d) && nxb n c T B A J d s && fxk F s (R d) (R 0) f n
theorem ebb_iff {n c F d s : Nat} {T B A J R f : Nat → Nat} (hn : n ≤ 12) (hd : d < 2 ^ n) (hs : s < 2 ^ n) (hds : d &&& s = 0) (hR : R d < 100) : ebb n c T B A J R f F d s = true ↔ EB n (nd n c T B A J) R f F d s := by
  unfold ebb EB
  rw [Bool.and_eq_true, Bool.and_eq_true, decide_eq_true_eq, fxk_iff, nx_ed hn hd hs hds]
  exact ⟨fun q => ⟨q.1.2, q.1.1, hR, q.2⟩, fun q => ⟨⟨q.2.1, q.1⟩, q.2.2.2⟩⟩
theorem st_iff {a b c : Nat} (ha : a < 1000) (hb : b < 1000) (hc : c < 1000) : nI a = nI b - nI c + nI 1 ↔ a + c = b + 1 := by
  have e : nI b - nI c + nI 1 + nI c = nI b + nI 1 := by
    rw [Int32.add_assoc, Int32.add_comm (nI 1), ← Int32.add_assoc, Int32.sub_add_cancel]
  constructor
  · intro h
    have : nI a + nI c = nI b + nI 1 := by rw [h]; exact e
    rw [nI_add, nI_add, nI_eq (by omega) (by omega)] at this
    exact this
  · intro h
    have h2 : nI a + nI c = nI b - nI c + nI 1 + nI c := by rw [e, nI_add, nI_add, h]
    have : nI a + nI c - nI c = nI b - nI c + nI 1 + nI c - nI c := by rw [h2]
    rwa [Int32.add_sub_cancel, Int32.add_sub_cancel] at this
section MO
variable {h : hc_H} {m len um sp fs n C : Nat} {X : Nat → Nat → Nat} {Q : Nat → Int32} {T B A J S : Nat → Nat}
theorem c_R_isBest (hr : isR h m len um sp fs X Q) (h0 : X 2 0 = n) (hn : n ≤ 12) (hB : ∀ x, B x < 4096) (hg : fgP n C T B A J X) (hR : ∀ d, d ≤ 2 ^ n - 1 → X 7 d = 100 ∨ X 7 d ≤ 12) (hf : ∀ x, x < 12 → X 11 x ≤ 12) (hfs : fs < 4096) {d s : Nat} (hd : d < 2 ^ n) (hs : s < 2 ^ n) : MA M_R_isBest [.ref m, .int (nI d), .int (nI s)] h (some (.int (nI (ebb n C T B A J (X 7) (X 11) fs d s).toNat))) h := by
  have o0 := hr.1
  have o2 := hr.2.2.1
  have o7 := hr.2.2.2.2.2.2.2.1
  have o11 := hr.2.2.2.2.2.2.2.2.2.2.2
  have l12 := pow_12 hn
  have hpn := Nat.two_pow_pos n
  have dsl : d ||| s < 2 ^ n := or_lt hd hs
  have R1 := hR (d ||| s) (by omega)
  have R2 := hR d (by omega)
  have R0 := hR 0 (by omega)
  have vd : vp_in (nI d) 4096 := vp_in_nI (by omega) (by omega)
  have cd : (nI d).toNatClampNeg = d := nI_clamp (by omega)
  have vo : vp_in (nI (d ||| s)) 4096 := vp_in_nI (by omega) (by omega)
  have co : (nI (d ||| s)).toNatClampNeg = d ||| s := nI_clamp (by omega)
  have v0 : vp_in (nI 0) 4096 := vp_in_nI (by omega) (by omega)
  have w0 : vp_in (nI 0) 62 := vp_in_nI (by omega) (by omega)
  obtain ⟨rr, er⟩ : ∃ z, ebb n C T B A J (X 7) (X 11) fs d s = z := ⟨_, rfl⟩
  rw [er]
  have lqT : (rr = fxk fs s (X 7 d) (X 7 0) (X 11) n) → ∀ k, k ≤ n → cx hc_tt M_R_isBest h h (some (.int (nI rr.toNat))) 52 [some (.ref m), some (.int (nI d)), some (.int (nI s)), some (.int (nI (X 7 0) - nI (X 7 d) + nI 1)), some (.int (nI (fxk fs s (X 7 d) (X 7 0) (X 11) k).toNat)), some (.int (nI k))] [] h := by
    intro hrr
    refine lp_up (n := n) (P := fun k => cx hc_tt M_R_isBest h h (some (.int (nI rr.toNat))) 52 [some (.ref m), some (.int (nI d)), some (.int (nI s)), some (.int (nI (X 7 0) - nI (X 7 d) + nI 1)), some (.int (nI (fxk fs s (X 7 d) (X 7 0) (X 11) k).toNat)), some (.int (nI k))] [] h) ?_ (fun k hk ih => ?_)
    · refine sn_R_isBest_52 _ _ _ ?_
      simp only [vc_R_isBest_52, vc_R_isBest_118, qi_push, qi_pushl, qi_iload, qi_lload, qi_aload, qi_istore, qi_astore, qi_lstore, qi_iinc, qi_iadd, qi_isub, qi_imul, qi_iand, qi_ior, qi_ixor, qi_ishl, qi_ishr, qi_iushr, qi_idiv, qi_irem, qi_lor, qi_lmul, qi_ladd, qi_lsub, qi_land, qi_lshl, qi_lshr, qi_i2l, qi_l2i, qi_i2c, qi_lcmp, qi_dup, qi_dup2, qi_pop, qi_if_eq, qi_icmp_eq, qi_if_ne, qi_icmp_ne, qi_if_lt, qi_icmp_lt, qi_if_ge, qi_icmp_ge, qi_if_gt, qi_icmp_gt, qi_if_le, qi_icmp_le, qi_sw, qi_get, qi_put, qi_iald, qi_lald, qi_aald, qi_iast, qi_zast, qi_cast, qi_last, qi_aast, qi_alen, qi_new, qi_newa, qi_newq, qi_obj, qi_invS, qi_invV, qi_invI, qi_iret, qi_zret, qi_lret, qi_vret, qi_acopy, qi_max, qi_min, at_o, at_i, at_l, at_q, at_a, lget, lset, lclr, lnon, lnth, spl, shrt, rpush, true_and, and_true, List.set, List.length, Nat.reduceAdd, Nat.reduceLT, Nat.reduceLeDiff, Nat.reduceEqDiff, Nat.reduceSub, o0, o2, r0, h0, w0]
      rw [hrr]
      exact ⟨fun _ => ⟨nb_01 _, rfl⟩, fun c => absurd (nI_le (Nat.le_refl _) (by omega)) c⟩
    · have fk := hf k (by omega)
      have vk : vp_in (nI k) 12 := vp_in_nI (by omega) (by omega)
      have ck : (nI k).toNatClampNeg = k := nI_clamp (by omega)
      have e : fxk fs s (X 7 d) (X 7 0) (X 11) (k + 1) = (fxk fs s (X 7 d) (X 7 0) (X 11) k && (!fs.testBit k || (s.testBit k == decide (X 11 k + X 7 d = X 7 0 + 1)))) := rfl
      have k109 : fxk fs s (X 7 d) (X 7 0) (X 11) (k + 1) = false → ∀ o4, vc_R_isBest_109 (some (.int (nI rr.toNat))) h (cx hc_tt M_R_isBest h h (some (.int (nI rr.toNat)))) [some (.ref m), some (.int (nI d)), some (.int (nI s)), some (.int (nI (X 7 0) - nI (X 7 d) + nI 1)), o4, some (.int (nI k))] [] h := by
        intro q o4
        rw [q] at ih
        simp only [vc_R_isBest_109, vc_R_isBest_110, qi_push, qi_pushl, qi_iload, qi_lload, qi_aload, qi_istore, qi_astore, qi_lstore, qi_iinc, qi_iadd, qi_isub, qi_imul, qi_iand, qi_ior, qi_ixor, qi_ishl, qi_ishr, qi_iushr, qi_idiv, qi_irem, qi_lor, qi_lmul, qi_ladd, qi_lsub, qi_land, qi_lshl, qi_lshr, qi_i2l, qi_l2i, qi_i2c, qi_lcmp, qi_dup, qi_dup2, qi_pop, qi_if_eq, qi_icmp_eq, qi_if_ne, qi_icmp_ne, qi_if_lt, qi_icmp_lt, qi_if_ge, qi_icmp_ge, qi_if_gt, qi_icmp_gt, qi_if_le, qi_icmp_le, qi_sw, qi_get, qi_put, qi_iald, qi_lald, qi_aald, qi_iast, qi_zast, qi_cast, qi_last, qi_aast, qi_alen, qi_new, qi_newa, qi_newq, qi_obj, qi_invS, qi_invV, qi_invI, qi_iret, qi_zret, qi_lret, qi_vret, qi_acopy, qi_max, qi_min, at_o, at_i, at_l, at_q, at_a, lget, lset, lclr, lnon, lnth, spl, shrt, rpush, true_and, and_true, List.set, List.length, Nat.reduceAdd, Nat.reduceLT, Nat.reduceLeDiff, Nat.reduceEqDiff, Nat.reduceSub, nI_add]
        exact ih
      have k105 : fxk fs s (X 7 d) (X 7 0) (X 11) (k + 1) = true → ∀ o4, vc_R_isBest_105 (some (.int (nI rr.toNat))) h (cx hc_tt M_R_isBest h h (some (.int (nI rr.toNat)))) [some (.ref m), some (.int (nI d)), some (.int (nI s)), some (.int (nI (X 7 0) - nI (X 7 d) + nI 1)), o4, some (.int (nI k))] [] h := by
        intro q o4
        rw [q] at ih
        simp only [vc_R_isBest_105, vc_R_isBest_110, qi_push, qi_pushl, qi_iload, qi_lload, qi_aload, qi_istore, qi_astore, qi_lstore, qi_iinc, qi_iadd, qi_isub, qi_imul, qi_iand, qi_ior, qi_ixor, qi_ishl, qi_ishr, qi_iushr, qi_idiv, qi_irem, qi_lor, qi_lmul, qi_ladd, qi_lsub, qi_land, qi_lshl, qi_lshr, qi_i2l, qi_l2i, qi_i2c, qi_lcmp, qi_dup, qi_dup2, qi_pop, qi_if_eq, qi_icmp_eq, qi_if_ne, qi_icmp_ne, qi_if_lt, qi_icmp_lt, qi_if_ge, qi_icmp_ge, qi_if_gt, qi_icmp_gt, qi_if_le, qi_icmp_le, qi_sw, qi_get, qi_put, qi_iald, qi_lald, qi_aald, qi_iast, qi_zast, qi_cast, qi_last, qi_aast, qi_alen, qi_new, qi_newa, qi_newq, qi_obj, qi_invS, qi_invV, qi_invI, qi_iret, qi_zret, qi_lret, qi_vret, qi_acopy, qi_max, qi_min, at_o, at_i, at_l, at_q, at_a, lget, lset, lclr, lnon, lnth, spl, shrt, rpush, true_and, and_true, List.set, List.length, Nat.reduceAdd, Nat.reduceLT, Nat.reduceLeDiff, Nat.reduceEqDiff, Nat.reduceSub, nI_add]
        exact ih
      refine sn_R_isBest_52 _ _ _ ?_
      simp only [vc_R_isBest_52, qi_push, qi_pushl, qi_iload, qi_lload, qi_aload, qi_istore, qi_astore, qi_lstore, qi_iinc, qi_iadd, qi_isub, qi_imul, qi_iand, qi_ior, qi_ixor, qi_ishl, qi_ishr, qi_iushr, qi_idiv, qi_irem, qi_lor, qi_lmul, qi_ladd, qi_lsub, qi_land, qi_lshl, qi_lshr, qi_i2l, qi_l2i, qi_i2c, qi_lcmp, qi_dup, qi_dup2, qi_pop, qi_if_eq, qi_icmp_eq, qi_if_ne, qi_icmp_ne, qi_if_lt, qi_icmp_lt, qi_if_ge, qi_icmp_ge, qi_if_gt, qi_icmp_gt, qi_if_le, qi_icmp_le, qi_sw, qi_get, qi_put, qi_iald, qi_lald, qi_aald, qi_iast, qi_zast, qi_cast, qi_last, qi_aast, qi_alen, qi_new, qi_newa, qi_newq, qi_obj, qi_invS, qi_invV, qi_invI, qi_iret, qi_zret, qi_lret, qi_vret, qi_acopy, qi_max, qi_min, at_o, at_i, at_l, at_q, at_a, lget, lset, lclr, lnon, lnth, spl, shrt, rpush, true_and, and_true, List.set, List.length, Nat.reduceAdd, Nat.reduceLT, Nat.reduceLeDiff, Nat.reduceEqDiff, Nat.reduceSub, o0, o2, r0, h0, w0]
      refine ⟨fun c => absurd c (nI_ge hk (by omega)), fun _ => ⟨fun c => k109 ?_ _, fun c => ⟨_, _, c_R_has h (show fs < 2 ^ 31 by omega) (show k < 31 by omega), ?_⟩⟩⟩
      · rw [e, (nb_eq0 _).mp c]; rfl
      · rw [(nb_ne0 _).mp c, Bool.true_and] at e
        simp only [qi_push, qi_pushl, qi_iload, qi_lload, qi_aload, qi_istore, qi_astore, qi_lstore, qi_iinc, qi_iadd, qi_isub, qi_imul, qi_iand, qi_ior, qi_ixor, qi_ishl, qi_ishr, qi_iushr, qi_idiv, qi_irem, qi_lor, qi_lmul, qi_ladd, qi_lsub, qi_land, qi_lshl, qi_lshr, qi_i2l, qi_l2i, qi_i2c, qi_lcmp, qi_dup, qi_dup2, qi_pop, qi_if_eq, qi_icmp_eq, qi_if_ne, qi_icmp_ne, qi_if_lt, qi_icmp_lt, qi_if_ge, qi_icmp_ge, qi_if_gt, qi_icmp_gt, qi_if_le, qi_icmp_le, qi_sw, qi_get, qi_put, qi_iald, qi_lald, qi_aald, qi_iast, qi_zast, qi_cast, qi_last, qi_aast, qi_alen, qi_new, qi_newa, qi_newq, qi_obj, qi_invS, qi_invV, qi_invI, qi_iret, qi_zret, qi_lret, qi_vret, qi_acopy, qi_max, qi_min, at_o, at_i, at_l, at_q, at_a, lget, lset, lclr, lnon, lnth, spl, shrt, rpush, true_and, and_true, List.set, List.length, Nat.reduceAdd, Nat.reduceLT, Nat.reduceLeDiff, Nat.reduceEqDiff, Nat.reduceSub]
        refine ⟨fun c2 => k105 ?_ _, fun c2 => ⟨_, _, c_R_has h (show s < 2 ^ 31 by omega) (show k < 31 by omega), ?_⟩⟩
        · rw [e, (nb_eq0 _).mp c2]; rfl
        · rw [(nb_ne0 _).mp c2] at e
          have e : fxk fs s (X 7 d) (X 7 0) (X 11) (k + 1) = (s.testBit k == decide (X 11 k + X 7 d = X 7 0 + 1)) := e
          simp only [vc_R_isBest_101, qi_push, qi_pushl, qi_iload, qi_lload, qi_aload, qi_istore, qi_astore, qi_lstore, qi_iinc, qi_iadd, qi_isub, qi_imul, qi_iand, qi_ior, qi_ixor, qi_ishl, qi_ishr, qi_iushr, qi_idiv, qi_irem, qi_lor, qi_lmul, qi_ladd, qi_lsub, qi_land, qi_lshl, qi_lshr, qi_i2l, qi_l2i, qi_i2c, qi_lcmp, qi_dup, qi_dup2, qi_pop, qi_if_eq, qi_icmp_eq, qi_if_ne, qi_icmp_ne, qi_if_lt, qi_icmp_lt, qi_if_ge, qi_icmp_ge, qi_if_gt, qi_icmp_gt, qi_if_le, qi_icmp_le, qi_sw, qi_get, qi_put, qi_iald, qi_lald, qi_aald, qi_iast, qi_zast, qi_cast, qi_last, qi_aast, qi_alen, qi_new, qi_newa, qi_newq, qi_obj, qi_invS, qi_invV, qi_invI, qi_iret, qi_zret, qi_lret, qi_vret, qi_acopy, qi_max, qi_min, at_o, at_i, at_l, at_q, at_a, lget, lset, lclr, lnon, lnth, spl, shrt, rpush, true_and, and_true, List.set, List.length, Nat.reduceAdd, Nat.reduceLT, Nat.reduceLeDiff, Nat.reduceEqDiff, Nat.reduceSub, o0, o11, vk, ck]
          rw [st_iff (by omega) (by omega) (by omega)]
          have k102 : ∀ b : Bool, b = decide (X 11 k + X 7 d = X 7 0 + 1) → ∀ o4, vc_R_isBest_102 (some (.int (nI rr.toNat))) h (cx hc_tt M_R_isBest h h (some (.int (nI rr.toNat)))) [some (.ref m), some (.int (nI d)), some (.int (nI s)), some (.int (nI (X 7 0) - nI (X 7 d) + nI 1)), o4, some (.int (nI k))] [.int (nI b.toNat), .int (nI (s.testBit k).toNat)] h := by
            intro b hb o4
            rw [← hb] at e
            simp only [vc_R_isBest_102, qi_push, qi_pushl, qi_iload, qi_lload, qi_aload, qi_istore, qi_astore, qi_lstore, qi_iinc, qi_iadd, qi_isub, qi_imul, qi_iand, qi_ior, qi_ixor, qi_ishl, qi_ishr, qi_iushr, qi_idiv, qi_irem, qi_lor, qi_lmul, qi_ladd, qi_lsub, qi_land, qi_lshl, qi_lshr, qi_i2l, qi_l2i, qi_i2c, qi_lcmp, qi_dup, qi_dup2, qi_pop, qi_if_eq, qi_icmp_eq, qi_if_ne, qi_icmp_ne, qi_if_lt, qi_icmp_lt, qi_if_ge, qi_icmp_ge, qi_if_gt, qi_icmp_gt, qi_if_le, qi_icmp_le, qi_sw, qi_get, qi_put, qi_iald, qi_lald, qi_aald, qi_iast, qi_zast, qi_cast, qi_last, qi_aast, qi_alen, qi_new, qi_newa, qi_newq, qi_obj, qi_invS, qi_invV, qi_invI, qi_iret, qi_zret, qi_lret, qi_vret, qi_acopy, qi_max, qi_min, at_o, at_i, at_l, at_q, at_a, lget, lset, lclr, lnon, lnth, spl, shrt, rpush, true_and, and_true, List.set, List.length, Nat.reduceAdd, Nat.reduceLT, Nat.reduceLeDiff, Nat.reduceEqDiff, Nat.reduceSub]
            refine ⟨fun z => k109 ?_ _, fun z => k105 ?_ _⟩
            · rw [e]
              revert z
              cases s.testBit k <;> cases b <;> decide
            · rw [e]
              revert z
              cases s.testBit k <;> cases b <;> decide
          exact ⟨fun z => k102 false (decide_eq_false z).symm _, fun z => k102 true (decide_eq_true z).symm _⟩
  refine MX.of (lv := [some (.ref m), some (.int (nI d)), some (.int (nI s)), none, none, none]) 3 rfl (by decide) (Nat.le_of_ble_eq_true rfl) (sn_R_isBest_0 _ _ _ ?_)
  simp only [vc_R_isBest_0, vc_R_isBest_28, qi_push, qi_pushl, qi_iload, qi_lload, qi_aload, qi_istore, qi_astore, qi_lstore, qi_iinc, qi_iadd, qi_isub, qi_imul, qi_iand, qi_ior, qi_ixor, qi_ishl, qi_ishr, qi_iushr, qi_idiv, qi_irem, qi_lor, qi_lmul, qi_ladd, qi_lsub, qi_land, qi_lshl, qi_lshr, qi_i2l, qi_l2i, qi_i2c, qi_lcmp, qi_dup, qi_dup2, qi_pop, qi_if_eq, qi_icmp_eq, qi_if_ne, qi_icmp_ne, qi_if_lt, qi_icmp_lt, qi_if_ge, qi_icmp_ge, qi_if_gt, qi_icmp_gt, qi_if_le, qi_icmp_le, qi_sw, qi_get, qi_put, qi_iald, qi_lald, qi_aald, qi_iast, qi_zast, qi_cast, qi_last, qi_aast, qi_alen, qi_new, qi_newa, qi_newq, qi_obj, qi_invS, qi_invV, qi_invI, qi_iret, qi_zret, qi_lret, qi_vret, qi_acopy, qi_max, qi_min, at_o, at_i, at_l, at_q, at_a, lget, lset, lclr, lnon, lnth, spl, shrt, rpush, true_and, and_true, List.set, List.length, Nat.reduceAdd, Nat.reduceLT, Nat.reduceLeDiff, Nat.reduceEqDiff, Nat.reduceSub, o0, o7, vd, cd, vo, co, ni_or, nI_add]
  rw [nI_eq (by omega) (by omega)]
  refine ⟨fun c => ⟨Or.inl rfl, ?_⟩, fun c => ⟨_, _, c_R_isNext hr hg hn hB hd hs, ?_⟩⟩
  · rw [← er]; unfold ebb; rw [decide_eq_false c]; rfl
  · simp only [vc_R_isBest_30, qi_push, qi_pushl, qi_iload, qi_lload, qi_aload, qi_istore, qi_astore, qi_lstore, qi_iinc, qi_iadd, qi_isub, qi_imul, qi_iand, qi_ior, qi_ixor, qi_ishl, qi_ishr, qi_iushr, qi_idiv, qi_irem, qi_lor, qi_lmul, qi_ladd, qi_lsub, qi_land, qi_lshl, qi_lshr, qi_i2l, qi_l2i, qi_i2c, qi_lcmp, qi_dup, qi_dup2, qi_pop, qi_if_eq, qi_icmp_eq, qi_if_ne, qi_icmp_ne, qi_if_lt, qi_icmp_lt, qi_if_ge, qi_icmp_ge, qi_if_gt, qi_icmp_gt, qi_if_le, qi_icmp_le, qi_sw, qi_get, qi_put, qi_iald, qi_lald, qi_aald, qi_iast, qi_zast, qi_cast, qi_last, qi_aast, qi_alen, qi_new, qi_newa, qi_newq, qi_obj, qi_invS, qi_invV, qi_invI, qi_iret, qi_zret, qi_lret, qi_vret, qi_acopy, qi_max, qi_min, at_o, at_i, at_l, at_q, at_a, lget, lset, lclr, lnon, lnth, spl, shrt, rpush, true_and, and_true, List.set, List.length, Nat.reduceAdd, Nat.reduceLT, Nat.reduceLeDiff, Nat.reduceEqDiff, Nat.reduceSub, o0, o7, vd, cd, v0, r0]
    refine ⟨fun c2 => lqT ?_ 0 (Nat.zero_le _), fun c2 => ⟨Or.inl rfl, ?_⟩⟩
    · rw [← er]; unfold ebb; rw [decide_eq_true c, (nb_ne0 _).mp c2]; rfl
    · rw [← er]; unfold ebb; rw [decide_eq_true c, (nb_eq0 _).mp c2]; rfl
set_option maxRecDepth 8000 in
theorem c_R_stationsOf (hr : isR h m len um sp fs X Q) (h0 : X 2 0 = n) (hn1 : 1 ≤ n) (hn : n ≤ 12) (hB : ∀ x, B x < 4096) (hg : frP n C T B A J X) {K : Nat} (hiK : isK (2 ^ n - 1) (nd n C T B A J) K) (hK12 : K ≤ 12) (hK : X 7 0 = K) (hf : ∀ x, x < 12 → X 11 x ≤ 12) (hfs : fs < 4096) {t : Nat} (ht : t < 12) : ∃ h' X' b, MA M_R_stationsOf [.ref m, .int (nI t)] h (some (.int (nI b))) h' ∧ isR h' m len um sp fs X' Q ∧ (∀ j, ¬ j = 9 → ¬ j = 10 → X' j = X j) ∧ frm h h' m 12 ∧ b < 2 ^ 14 ∧ ∀ k, b.testBit k = true ↔ ∃ D i, bln (2 ^ n - 1) (nd n C T B A J) K D ∧ csn n K fs (X 11) D ∧ i < K ∧ k = i + 1 ∧ (sdf (D (i + 1)) (D i)).testBit t = true := by
  have l12 := pow_12 hn
  have hp2 : 2 ≤ 2 ^ n := by
    have : 2 ^ 1 ≤ 2 ^ n := Nat.pow_le_pow_right (by omega) hn1
    omega
  obtain ⟨ne, ene⟩ : ∃ z, nd n C T B A J = z := ⟨_, rfl⟩
  obtain ⟨R, eR⟩ : ∃ z, X 7 = z := ⟨_, rfl⟩
  obtain ⟨f, ef⟩ : ∃ z, X 11 = z := ⟨_, rfl⟩
  have hR : ∀ d, d ≤ 2 ^ n - 1 → rOk n (2 ^ n - 1) ne d (R d) := fun d hd => by rw [← ene, ← eR]; exact hg.2 d hd
  rw [ene] at hiK
  rw [eR] at hK
  have R12 : ∀ d, d ≤ 2 ^ n - 1 → R d = 100 ∨ R d ≤ 12 := fun d hd => rOk_le hn (hR d hd)
  have v0 : vp_in (nI 0) 4096 := vp_in_nI (by omega) (by omega)
  let L : Nat → Prop := Ld n ne R f fs
  let CE : Nat → Nat → Prop := fun d s => Cm n ne R f fs d ∧ Ld n ne R f fs d ∧ EB n ne R f fs d s ∧ Ld n ne R f fs (d ||| s)
  let QO : Nat → Nat → Prop := fun j e => e = 0 ∨ ∃ d u, d < j ∧ CE d u ∧ e = d ||| u
  let QI : Nat → Nat → Nat → Prop := fun j s e => QO j e ∨ ∃ u, s < u ∧ CE j u ∧ e = j ||| u
  let BO : Nat → Nat → Prop := fun j k => ∃ d u, d < j ∧ CE d u ∧ u.testBit t = true ∧ k = R 0 - R d + 1
  let BI : Nat → Nat → Nat → Prop := fun j s k => BO j k ∨ ∃ u, s < u ∧ CE j u ∧ u.testBit t = true ∧ k = R 0 - R j + 1
  have qz : ∀ X2 : Nat → Nat → Nat, (∀ j, ¬ j = 9 → ¬ j = 10 → X2 j = X j) → X2 2 0 = n ∧ fgP n C T B A J X2 ∧ X2 7 = R ∧ X2 11 = f := fun X2 q => ⟨by rw [q 2 (by omega) (by omega)]; exact h0, fun x hx => by rw [q 5 (by omega) (by omega), q 6 (by omega) (by omega)]; exact hg.1 x hx, by rw [q 7 (by omega) (by omega)]; exact eR, by rw [q 11 (by omega) (by omega)]; exact ef⟩
  have best : ∀ h2 X2, isR h2 m len um sp fs X2 Q → (∀ j, ¬ j = 9 → ¬ j = 10 → X2 j = X j) → ∀ d s, d < 2 ^ n → s < 2 ^ n → d &&& s = 0 → R d < 100 → ∃ b : Bool, (b = true ↔ EB n ne R f fs d s) ∧ MA M_R_isBest [.ref m, .int (nI d), .int (nI s)] h2 (some (.int (nI b.toNat))) h2 := by
    intro h2 X2 r2 q2 d s hd hs hds hRd
    obtain ⟨z1, z2, z3, z4⟩ := qz X2 q2
    refine ⟨ebb n C T B A J (X2 7) (X2 11) fs d s, ?_, c_R_isBest r2 z1 hn hB z2 (fun e he => by rw [z3]; exact R12 e he) (fun x hx => by rw [z4, ← ef]; exact hf x hx) hfs hd hs⟩
    rw [z3, z4, ← ene]
    exact ebb_iff hn hd hs hds hRd
  let Z : hc_H → (Nat → Nat → Nat) → Nat → Prop := fun h' X' b => isR h' m len um sp fs X' Q ∧ (∀ j, ¬ j = 9 → ¬ j = 10 → X' j = X j) ∧ frm h h' m 12 ∧ b < 2 ^ 14 ∧ ∀ k, b.testBit k = true ↔ BO (2 ^ n - 1) k
  -- the second half: from the start on
  have lqG := lp_up (P := fun j => ∀ h2 X2 b, isR h2 m len um sp fs X2 Q → (∀ j, ¬ j = 9 → ¬ j = 10 → X2 j = X j) → frm h h2 m 12 → (∀ d, d ≤ 2 ^ n - 1 → isb L (X2 9) d) → (∀ e, e < 2 ^ n - 1 → isb (QO j) (X2 10) e) → b < 2 ^ 14 → (∀ k, b.testBit k = true ↔ BO j k) → ∃ h' X' b', Z h' X' b' ∧ ∀ o4 o5, cx hc_tt M_R_stationsOf h h' (some (.int (nI b'))) 134 [some (.ref m), some (.int (nI t)), some (.int (nI b)), some (.int (nI j)), o4, o5] [] h2) (n := 2 ^ n - 1)
    (by
      intro h2 X2 b r2 q2 f2 g2 c2 b2 b3
      refine ⟨h2, X2, b, ⟨r2, q2, f2, b2, b3⟩, fun o4 o5 => sn_R_stationsOf_134 _ _ _ ?_⟩
      have p0 := r2.1
      simp only [vc_R_stationsOf_134, vc_R_stationsOf_262, qi_push, qi_pushl, qi_iload, qi_lload, qi_aload, qi_istore, qi_astore, qi_lstore, qi_iinc, qi_iadd, qi_isub, qi_imul, qi_iand, qi_ior, qi_ixor, qi_ishl, qi_ishr, qi_iushr, qi_idiv, qi_irem, qi_lor, qi_lmul, qi_ladd, qi_lsub, qi_land, qi_lshl, qi_lshr, qi_i2l, qi_l2i, qi_i2c, qi_lcmp, qi_dup, qi_dup2, qi_pop, qi_if_eq, qi_icmp_eq, qi_if_ne, qi_icmp_ne, qi_if_lt, qi_icmp_lt, qi_if_ge, qi_icmp_ge, qi_if_gt, qi_icmp_gt, qi_if_le, qi_icmp_le, qi_sw, qi_get, qi_put, qi_iald, qi_lald, qi_aald, qi_iast, qi_zast, qi_cast, qi_last, qi_aast, qi_alen, qi_new, qi_newa, qi_newq, qi_obj, qi_invS, qi_invV, qi_invI, qi_iret, qi_zret, qi_lret, qi_vret, qi_acopy, qi_max, qi_min, at_o, at_i, at_l, at_q, at_a, lget, lset, lclr, lnon, lnth, spl, shrt, rpush, true_and, and_true, List.set, List.length, Nat.reduceAdd, Nat.reduceLT, Nat.reduceLeDiff, Nat.reduceEqDiff, Nat.reduceSub, p0]
      refine ⟨_, _, c_R_all r2 (qz X2 q2).1 hn, ?_⟩
      simp only [qi_push, qi_pushl, qi_iload, qi_lload, qi_aload, qi_istore, qi_astore, qi_lstore, qi_iinc, qi_iadd, qi_isub, qi_imul, qi_iand, qi_ior, qi_ixor, qi_ishl, qi_ishr, qi_iushr, qi_idiv, qi_irem, qi_lor, qi_lmul, qi_ladd, qi_lsub, qi_land, qi_lshl, qi_lshr, qi_i2l, qi_l2i, qi_i2c, qi_lcmp, qi_dup, qi_dup2, qi_pop, qi_if_eq, qi_icmp_eq, qi_if_ne, qi_icmp_ne, qi_if_lt, qi_icmp_lt, qi_if_ge, qi_icmp_ge, qi_if_gt, qi_icmp_gt, qi_if_le, qi_icmp_le, qi_sw, qi_get, qi_put, qi_iald, qi_lald, qi_aald, qi_iast, qi_zast, qi_cast, qi_last, qi_aast, qi_alen, qi_new, qi_newa, qi_newq, qi_obj, qi_invS, qi_invV, qi_invI, qi_iret, qi_zret, qi_lret, qi_vret, qi_acopy, qi_max, qi_min, at_o, at_i, at_l, at_q, at_a, lget, lset, lclr, lnon, lnth, spl, shrt, rpush, true_and, and_true, List.set, List.length, Nat.reduceAdd, Nat.reduceLT, Nat.reduceLeDiff, Nat.reduceEqDiff, Nat.reduceSub]
      exact ⟨fun _ => (by first | trivial | exact ⟨rfl, rfl⟩), fun c => absurd (nI_le (Nat.le_refl _) (by omega)) c⟩)
    (fun j hj ih h2 X2 b r2 q2 f2 g2 c2 b2 b3 => by
      have vj : vp_in (nI j) 4096 := vp_in_nI (by omega) (by omega)
      have cj : (nI j).toNatClampNeg = j := nI_clamp (by omega)
      obtain ⟨op, eop⟩ : ∃ z, sdf (2 ^ n - 1) j = z := ⟨_, rfl⟩
      have opW : sub op (2 ^ n - 1) := by rw [← eop]; exact sdf_sub _ _
      have opl := sub_le opW
      have dis : ∀ s, sub s op → j &&& s = 0 := fun s hs => and_0.mpr fun i h1 h2 => by
        have := sub_iff.mp hs i h2
        rw [← eop, bit_sdf] at this
        exact this.2 h1
      have inO : ∀ u, CE j u → sub u op := fun u hu => by
        rw [← eop, sub_iff]
        intro i hi
        rw [bit_sdf]
        exact ⟨sub_iff.mp hu.2.2.1.1.1 i hi, fun q => and_0.mp hu.2.2.1.1.2.1 i q hi⟩
      have cmj : QO j j ↔ Cm n ne R f fs j := by
        rw [Cm_iff]
        constructor
        · rintro (q | ⟨d, u, -, u2, u3⟩)
          · exact Or.inl q
          · exact Or.inr ⟨d, u, u2.1, u2.2.1, u2.2.2.1, u2.2.2.2, u3⟩
        · rintro (q | ⟨d, u, u1, u2, u3, u4, u5⟩)
          · exact Or.inl q
          · refine Or.inr ⟨d, u, ?_, ⟨u1, u2, u3, u4⟩, u5⟩
            rw [u5]; exact or_gt u3.1.2.1 u3.1.2.2.1
      have lqH := subm_loop (o := op) (P := fun s => ∀ h3 X3 b, isR h3 m len um sp fs X3 Q → (∀ j, ¬ j = 9 → ¬ j = 10 → X3 j = X j) → frm h h3 m 12 → (∀ d, d ≤ 2 ^ n - 1 → isb L (X3 9) d) → (∀ e, e < 2 ^ n - 1 → isb (QI j s) (X3 10) e) → b < 2 ^ 14 → (∀ k, b.testBit k = true ↔ BI j s k) → ∃ h' X' b', Z h' X' b' ∧ cx hc_tt M_R_stationsOf h h' (some (.int (nI b'))) 156 [some (.ref m), some (.int (nI t)), some (.int (nI b)), some (.int (nI j)), some (.int (nI op)), some (.int (nI s))] [] h3)
        (by
          intro h3 X3 b r3 q3 f3 g3 c3 b2 b3
          obtain ⟨h', X', b', z1, z2⟩ := ih h3 X3 b r3 q3 f3 g3 (fun e he => (c3 e he).c ⟨fun q => by
            rcases q with (q | ⟨d, u, u1, u2⟩) | ⟨u, u1, u2⟩
            · exact Or.inl q
            · exact Or.inr ⟨d, u, by omega, u2⟩
            · exact Or.inr ⟨j, u, by omega, u2⟩, fun q => by
            rcases q with q | ⟨d, u, u1, u2, u3⟩
            · exact Or.inl (Or.inl q)
            · by_cases w : d = j
              · subst w; exact Or.inr ⟨u, u2.2.2.1.1.2.2.1, u2, u3⟩
              · exact Or.inl (Or.inr ⟨d, u, by omega, u2, u3⟩)⟩ rfl) b2 (fun k => by
            rw [b3 k]
            constructor
            · rintro (⟨d, u, u1, u2⟩ | ⟨u, u1, u2⟩)
              · exact ⟨d, u, by omega, u2⟩
              · exact ⟨j, u, by omega, u2⟩
            · rintro ⟨d, u, u1, u2, u3⟩
              by_cases w : d = j
              · subst w; exact Or.inr ⟨u, u2.2.2.1.1.2.2.1, u2, u3⟩
              · exact Or.inl ⟨d, u, by omega, u2, u3⟩)
          refine ⟨h', X', b', z1, sn_R_stationsOf_156 _ _ _ ?_⟩
          simp only [vc_R_stationsOf_156, vc_R_stationsOf_256, qi_push, qi_pushl, qi_iload, qi_lload, qi_aload, qi_istore, qi_astore, qi_lstore, qi_iinc, qi_iadd, qi_isub, qi_imul, qi_iand, qi_ior, qi_ixor, qi_ishl, qi_ishr, qi_iushr, qi_idiv, qi_irem, qi_lor, qi_lmul, qi_ladd, qi_lsub, qi_land, qi_lshl, qi_lshr, qi_i2l, qi_l2i, qi_i2c, qi_lcmp, qi_dup, qi_dup2, qi_pop, qi_if_eq, qi_icmp_eq, qi_if_ne, qi_icmp_ne, qi_if_lt, qi_icmp_lt, qi_if_ge, qi_icmp_ge, qi_if_gt, qi_icmp_gt, qi_if_le, qi_icmp_le, qi_sw, qi_get, qi_put, qi_iald, qi_lald, qi_aald, qi_iast, qi_zast, qi_cast, qi_last, qi_aast, qi_alen, qi_new, qi_newa, qi_newq, qi_obj, qi_invS, qi_invV, qi_invI, qi_iret, qi_zret, qi_lret, qi_vret, qi_acopy, qi_max, qi_min, at_o, at_i, at_l, at_q, at_a, lget, lset, lclr, lnon, lnth, spl, shrt, rpush, true_and, and_true, List.set, List.length, Nat.reduceAdd, Nat.reduceLT, Nat.reduceLeDiff, Nat.reduceEqDiff, Nat.reduceSub, nI_add]
          exact ⟨fun _ => z2 _ _, fun q => absurd (by decide) q⟩)
        (fun s hs s0 ihs h3 X3 b r3 q3 f3 g3 c3 b2 b3 => by
          have sl : s ≤ 2 ^ n - 1 := Nat.le_trans (sub_le hs) opl
          have dl : j ||| s ≤ 2 ^ n - 1 := sub_le (or_sub (sub_all.mpr (by omega)) (sub_trans hs opW))
          have dgt : j < j ||| s := or_gt (dis s hs) s0
          have vo : vp_in (nI (j ||| s)) 4096 := vp_in_nI (by omega) (by omega)
          have co : (nI (j ||| s)).toNatClampNeg = j ||| s := nI_clamp (by omega)
          have p0 := r3.1
          have p7 : h3.1 (m + 7) = ii 4096 R := by rw [r3.2.2.2.2.2.2.2.1, (qz X3 q3).2.2.1]
          have p9 := r3.2.2.2.2.2.2.2.2.2.1
          have p10 := r3.2.2.2.2.2.2.2.2.2.2.1
          have lj := g3 j (by omega)
          have lo := g3 (j ||| s) dl
          have cjj : isb (Cm n ne R f fs) (X3 10) j := (c3 j hj).c ⟨fun q => by
            rcases q with q | ⟨u, -, u2, u3⟩
            · exact cmj.mp q
            · exact absurd u3 (by have := or_gt u2.2.2.1.1.2.1 u2.2.2.1.1.2.2.1; omega), fun q => Or.inl (cmj.mpr q)⟩ rfl
          by_cases w : Cm n ne R f fs j ∧ L j
          · have Rj : R j < 100 := by
              obtain ⟨u, u1, -⟩ := (Ld_iff (by omega)).mp w.2
              exact u1.2.2.1
            have Rj0 : R j ≤ R 0 := by
              obtain ⟨k, hk⟩ := w.1
              have := uq_R _ _ hk
              omega
            have sh : nI 1 <<< (nI (R 0) - nI (R j) + nI 1 &&& 31) = nI (2 ^ (R 0 - R j + 1)) := by
              rw [pk_sub Rj0, nI_add, ni_1shl (by omega)]
            obtain ⟨bb, hbb, mbb⟩ := best h3 X3 r3 q3 j s (by omega) (by omega) (dis s hs) Rj
            by_cases w2 : L (j ||| s) ∧ EB n ne R f fs j s
            · -- a step
              have ce : CE j s := ⟨w.1, w.2, w2.2, w2.1⟩
              obtain ⟨b', eb'⟩ : ∃ z, (if s.testBit t then b ||| 2 ^ (R 0 - R j + 1) else b) = z := ⟨_, rfl⟩
              have r4 := r3.set10 (f := va_up (X3 10) (j ||| s) (true.toNat))
              obtain ⟨h', X', b'', z1, z2⟩ := ihs _ _ b' r4 (fun i i9 i10 => by rw [up_ne i10]; exact q3 i i9 i10) (f3.set (by omega)) g3 (fun e he => by
                have eq : QI j s e ∨ e = j ||| s ↔ QI j ((s - 1) &&& op) e := by
                  constructor
                  · rintro ((q | ⟨u, u1, u2⟩) | q)
                    · exact Or.inl q
                    · exact Or.inr ⟨u, by have := (subm_seen hs s0 (inO u u2.1)).mpr (by omega); omega, u2⟩
                    · exact Or.inr ⟨s, (subm_seen hs s0 hs).mpr (Nat.le_refl _), ce, q⟩
                  · rintro (q | ⟨u, u1, u2⟩)
                    · exact Or.inl (Or.inl q)
                    · have := (subm_seen hs s0 (inO u u2.1)).mp u1
                      by_cases e2 : u = s
                      · subst e2; exact Or.inr u2.2
                      · exact Or.inl (Or.inr ⟨u, by omega, u2⟩)
                by_cases e2 : e = j ||| s
                · subst e2
                  refine isb_up ?_
                  rw [← eq]
                  exact ⟨fun _ => Or.inr rfl, fun _ => rfl⟩
                · refine (c3 e he).c ?_ (up_ne e2)
                  rw [← eq]
                  exact ⟨fun q => Or.inl q, fun q => q.elim id (fun q => absurd q e2)⟩) (by
                rw [← eb']
                split
                · exact or_lt b2 (Nat.pow_lt_pow_right (by omega) (by omega))
                · exact b2) (fun k => by
                have eq : b'.testBit k = true ↔ b.testBit k = true ∨ (s.testBit t = true ∧ k = R 0 - R j + 1) := by
                  rw [← eb']
                  by_cases q : s.testBit t = true
                  · rw [if_pos q, bit_or, Nat.testBit_two_pow, decide_eq_true_eq]
                    exact ⟨fun z => z.elim Or.inl (fun z => Or.inr ⟨q, z.symm⟩), fun z => z.elim Or.inl (fun z => Or.inr z.2.symm)⟩
                  · rw [if_neg q]
                    exact ⟨Or.inl, fun z => z.elim id (fun z => absurd z.1 q)⟩
                rw [eq, b3 k]
                constructor
                · rintro ((q | ⟨u, u1, u2⟩) | ⟨q1, q2⟩)
                  · exact Or.inl q
                  · exact Or.inr ⟨u, by have := (subm_seen hs s0 (inO u u2.1)).mpr (by omega); omega, u2⟩
                  · exact Or.inr ⟨s, (subm_seen hs s0 hs).mpr (Nat.le_refl _), ce, q1, q2⟩
                · rintro (q | ⟨u, u1, u2⟩)
                  · exact Or.inl (Or.inl q)
                  · have := (subm_seen hs s0 (inO u u2.1)).mp u1
                    by_cases e2 : u = s
                    · subst e2; exact Or.inr u2.2
                    · exact Or.inl (Or.inr ⟨u, by omega, u2⟩))
              refine ⟨h', X', b'', z1, sn_R_stationsOf_156 _ _ _ ?_⟩
              simp only [vc_R_stationsOf_156, qi_push, qi_pushl, qi_iload, qi_lload, qi_aload, qi_istore, qi_astore, qi_lstore, qi_iinc, qi_iadd, qi_isub, qi_imul, qi_iand, qi_ior, qi_ixor, qi_ishl, qi_ishr, qi_iushr, qi_idiv, qi_irem, qi_lor, qi_lmul, qi_ladd, qi_lsub, qi_land, qi_lshl, qi_lshr, qi_i2l, qi_l2i, qi_i2c, qi_lcmp, qi_dup, qi_dup2, qi_pop, qi_if_eq, qi_icmp_eq, qi_if_ne, qi_icmp_ne, qi_if_lt, qi_icmp_lt, qi_if_ge, qi_icmp_ge, qi_if_gt, qi_icmp_gt, qi_if_le, qi_icmp_le, qi_sw, qi_get, qi_put, qi_iald, qi_lald, qi_aald, qi_iast, qi_zast, qi_cast, qi_last, qi_aast, qi_alen, qi_new, qi_newa, qi_newq, qi_obj, qi_invS, qi_invV, qi_invI, qi_iret, qi_zret, qi_lret, qi_vret, qi_acopy, qi_max, qi_min, at_o, at_i, at_l, at_q, at_a, lget, lset, lclr, lnon, lnth, spl, shrt, rpush, true_and, and_true, List.set, List.length, Nat.reduceAdd, Nat.reduceLT, Nat.reduceLeDiff, Nat.reduceEqDiff, Nat.reduceSub, p0, p9, p10, vj, cj, vo, co, ni_or]
              rw [cjj.n0, lj.n0, lo.n0]
              refine ⟨fun q => absurd q (nI_nle s0 (by omega)), fun _ => ⟨fun q => absurd w.1 q, fun _ => ⟨fun q => absurd w.2 q, fun _ => ⟨fun q => absurd w2.1 q, fun _ => ⟨_, _, mbb, ?_⟩⟩⟩⟩⟩
              rw [hbb.mpr w2.2]
              have s0' := r4.1
              have s7 : (hc_set h3 (m + 10) (.inl (1, 4096, .inl (fun j_1 => nI (va_up (X3 10) (j ||| s) (true.toNat) j_1))))).1 (m + 7) = ii 4096 R := by rw [hs_ne _ _ (by omega)]; exact p7
              simp only [qi_push, qi_pushl, qi_iload, qi_lload, qi_aload, qi_istore, qi_astore, qi_lstore, qi_iinc, qi_iadd, qi_isub, qi_imul, qi_iand, qi_ior, qi_ixor, qi_ishl, qi_ishr, qi_iushr, qi_idiv, qi_irem, qi_lor, qi_lmul, qi_ladd, qi_lsub, qi_land, qi_lshl, qi_lshr, qi_i2l, qi_l2i, qi_i2c, qi_lcmp, qi_dup, qi_dup2, qi_pop, qi_if_eq, qi_icmp_eq, qi_if_ne, qi_icmp_ne, qi_if_lt, qi_icmp_lt, qi_if_ge, qi_icmp_ge, qi_if_gt, qi_icmp_gt, qi_if_le, qi_icmp_le, qi_sw, qi_get, qi_put, qi_iald, qi_lald, qi_aald, qi_iast, qi_zast, qi_cast, qi_last, qi_aast, qi_alen, qi_new, qi_newa, qi_newq, qi_obj, qi_invS, qi_invV, qi_invI, qi_iret, qi_zret, qi_lret, qi_vret, qi_acopy, qi_max, qi_min, at_o, at_i, at_l, at_q, at_a, lget, lset, lclr, lnon, lnth, spl, shrt, rpush, true_and, and_true, List.set, List.length, Nat.reduceAdd, Nat.reduceLT, Nat.reduceLeDiff, Nat.reduceEqDiff, Nat.reduceSub, p0, p10, vo, co, ni_or]
              have u1 : ∀ (f : Nat → Nat) (k : Nat), upd (fun j => nI (f j)) k (nI 1 &&& 1) = fun j => nI (va_up f k (true.toNat) j) := fun f k => updZ f k true
              rw [u1]
              refine ⟨fun q => absurd q c10, fun _ => ⟨_, _, c_R_has _ (show s < 2 ^ 31 by omega) (show t < 31 by omega), ?_⟩⟩
              simp only [vc_R_stationsOf_241, vc_R_stationsOf_242, vc_R_stationsOf_244, qi_push, qi_pushl, qi_iload, qi_lload, qi_aload, qi_istore, qi_astore, qi_lstore, qi_iinc, qi_iadd, qi_isub, qi_imul, qi_iand, qi_ior, qi_ixor, qi_ishl, qi_ishr, qi_iushr, qi_idiv, qi_irem, qi_lor, qi_lmul, qi_ladd, qi_lsub, qi_land, qi_lshl, qi_lshr, qi_i2l, qi_l2i, qi_i2c, qi_lcmp, qi_dup, qi_dup2, qi_pop, qi_if_eq, qi_icmp_eq, qi_if_ne, qi_icmp_ne, qi_if_lt, qi_icmp_lt, qi_if_ge, qi_icmp_ge, qi_if_gt, qi_icmp_gt, qi_if_le, qi_icmp_le, qi_sw, qi_get, qi_put, qi_iald, qi_lald, qi_aald, qi_iast, qi_zast, qi_cast, qi_last, qi_aast, qi_alen, qi_new, qi_newa, qi_newq, qi_obj, qi_invS, qi_invV, qi_invI, qi_iret, qi_zret, qi_lret, qi_vret, qi_acopy, qi_max, qi_min, at_o, at_i, at_l, at_q, at_a, lget, lset, lclr, lnon, lnth, spl, shrt, rpush, true_and, and_true, List.set, List.length, Nat.reduceAdd, Nat.reduceLT, Nat.reduceLeDiff, Nat.reduceEqDiff, Nat.reduceSub, s0', s7, v0, r0, vj, cj]
              rw [sh, ni_or, ni_or, Nat.or_zero, pk_sub (by omega), ni_and]
              refine ⟨fun q => ?_, fun q => ?_⟩
              · rw [(nb_eq0 _).mp q] at eb'
                have : b = b' := eb'
                rw [this]; exact z2
              · rw [(nb_ne0 _).mp q] at eb'
                have : b ||| 2 ^ (R 0 - R j + 1) = b' := eb'
                rw [this]; exact z2
            · -- no step
              have nce : ¬ CE j s := fun q => w2 ⟨q.2.2.2, q.2.2.1⟩
              obtain ⟨h', X', b'', z1, z2⟩ := ihs h3 X3 b r3 q3 f3 g3 (fun e he => (c3 e he).c ⟨fun q => by
                rcases q with q | ⟨u, u1, u2⟩
                · exact Or.inl q
                · exact Or.inr ⟨u, by have := (subm_seen hs s0 (inO u u2.1)).mpr (by omega); omega, u2⟩, fun q => by
                rcases q with q | ⟨u, u1, u2⟩
                · exact Or.inl q
                · have := (subm_seen hs s0 (inO u u2.1)).mp u1
                  have : ¬ u = s := fun z => by rw [z] at u2; exact nce u2.1
                  exact Or.inr ⟨u, by omega, u2⟩⟩ rfl) b2 (fun k => by
                rw [b3 k]
                constructor
                · rintro (q | ⟨u, u1, u2⟩)
                  · exact Or.inl q
                  · exact Or.inr ⟨u, by have := (subm_seen hs s0 (inO u u2.1)).mpr (by omega); omega, u2⟩
                · rintro (q | ⟨u, u1, u2⟩)
                  · exact Or.inl q
                  · have := (subm_seen hs s0 (inO u u2.1)).mp u1
                    have : ¬ u = s := fun z => by rw [z] at u2; exact nce u2.1
                    exact Or.inr ⟨u, by omega, u2⟩)
              have k244 : vc_R_stationsOf_244 (some (.int (nI b''))) h' (cx hc_tt M_R_stationsOf h h' (some (.int (nI b'')))) [some (.ref m), some (.int (nI t)), some (.int (nI b)), some (.int (nI j)), some (.int (nI op)), some (.int (nI s))] [] h3 := by
                simp only [vc_R_stationsOf_244, qi_push, qi_pushl, qi_iload, qi_lload, qi_aload, qi_istore, qi_astore, qi_lstore, qi_iinc, qi_iadd, qi_isub, qi_imul, qi_iand, qi_ior, qi_ixor, qi_ishl, qi_ishr, qi_iushr, qi_idiv, qi_irem, qi_lor, qi_lmul, qi_ladd, qi_lsub, qi_land, qi_lshl, qi_lshr, qi_i2l, qi_l2i, qi_i2c, qi_lcmp, qi_dup, qi_dup2, qi_pop, qi_if_eq, qi_icmp_eq, qi_if_ne, qi_icmp_ne, qi_if_lt, qi_icmp_lt, qi_if_ge, qi_icmp_ge, qi_if_gt, qi_icmp_gt, qi_if_le, qi_icmp_le, qi_sw, qi_get, qi_put, qi_iald, qi_lald, qi_aald, qi_iast, qi_zast, qi_cast, qi_last, qi_aast, qi_alen, qi_new, qi_newa, qi_newq, qi_obj, qi_invS, qi_invV, qi_invI, qi_iret, qi_zret, qi_lret, qi_vret, qi_acopy, qi_max, qi_min, at_o, at_i, at_l, at_q, at_a, lget, lset, lclr, lnon, lnth, spl, shrt, rpush, true_and, and_true, List.set, List.length, Nat.reduceAdd, Nat.reduceLT, Nat.reduceLeDiff, Nat.reduceEqDiff, Nat.reduceSub]
                rw [pk_sub (by omega), ni_and]
                exact z2
              refine ⟨h', X', b'', z1, sn_R_stationsOf_156 _ _ _ ?_⟩
              simp only [vc_R_stationsOf_156, qi_push, qi_pushl, qi_iload, qi_lload, qi_aload, qi_istore, qi_astore, qi_lstore, qi_iinc, qi_iadd, qi_isub, qi_imul, qi_iand, qi_ior, qi_ixor, qi_ishl, qi_ishr, qi_iushr, qi_idiv, qi_irem, qi_lor, qi_lmul, qi_ladd, qi_lsub, qi_land, qi_lshl, qi_lshr, qi_i2l, qi_l2i, qi_i2c, qi_lcmp, qi_dup, qi_dup2, qi_pop, qi_if_eq, qi_icmp_eq, qi_if_ne, qi_icmp_ne, qi_if_lt, qi_icmp_lt, qi_if_ge, qi_icmp_ge, qi_if_gt, qi_icmp_gt, qi_if_le, qi_icmp_le, qi_sw, qi_get, qi_put, qi_iald, qi_lald, qi_aald, qi_iast, qi_zast, qi_cast, qi_last, qi_aast, qi_alen, qi_new, qi_newa, qi_newq, qi_obj, qi_invS, qi_invV, qi_invI, qi_iret, qi_zret, qi_lret, qi_vret, qi_acopy, qi_max, qi_min, at_o, at_i, at_l, at_q, at_a, lget, lset, lclr, lnon, lnth, spl, shrt, rpush, true_and, and_true, List.set, List.length, Nat.reduceAdd, Nat.reduceLT, Nat.reduceLeDiff, Nat.reduceEqDiff, Nat.reduceSub, p0, p9, p10, vj, cj, vo, co, ni_or]
              rw [cjj.n0, lj.n0, lo.n0]
              refine ⟨fun q => absurd q (nI_nle s0 (by omega)), fun _ => ⟨fun q => absurd w.1 q, fun _ => ⟨fun q => absurd w.2 q, fun _ => ⟨fun _ => k244, fun q => ⟨_, _, mbb, ?_⟩⟩⟩⟩⟩
              have : bb = false := by
                cases z : bb
                · rfl
                · exact absurd ⟨Classical.not_not.mp q, hbb.mp z⟩ w2
              rw [this]
              simp only [qi_push, qi_pushl, qi_iload, qi_lload, qi_aload, qi_istore, qi_astore, qi_lstore, qi_iinc, qi_iadd, qi_isub, qi_imul, qi_iand, qi_ior, qi_ixor, qi_ishl, qi_ishr, qi_iushr, qi_idiv, qi_irem, qi_lor, qi_lmul, qi_ladd, qi_lsub, qi_land, qi_lshl, qi_lshr, qi_i2l, qi_l2i, qi_i2c, qi_lcmp, qi_dup, qi_dup2, qi_pop, qi_if_eq, qi_icmp_eq, qi_if_ne, qi_icmp_ne, qi_if_lt, qi_icmp_lt, qi_if_ge, qi_icmp_ge, qi_if_gt, qi_icmp_gt, qi_if_le, qi_icmp_le, qi_sw, qi_get, qi_put, qi_iald, qi_lald, qi_aald, qi_iast, qi_zast, qi_cast, qi_last, qi_aast, qi_alen, qi_new, qi_newa, qi_newq, qi_obj, qi_invS, qi_invV, qi_invI, qi_iret, qi_zret, qi_lret, qi_vret, qi_acopy, qi_max, qi_min, at_o, at_i, at_l, at_q, at_a, lget, lset, lclr, lnon, lnth, spl, shrt, rpush, true_and, and_true, List.set, List.length, Nat.reduceAdd, Nat.reduceLT, Nat.reduceLeDiff, Nat.reduceEqDiff, Nat.reduceSub]
              exact ⟨fun _ => k244, fun z => absurd rfl z⟩
          · -- it is on no best line
            have nce : ∀ u, ¬ CE j u := fun u q => w ⟨q.1, q.2.1⟩
            obtain ⟨h', X', b'', z1, z2⟩ := ih h3 X3 b r3 q3 f3 g3 (fun e he => (c3 e he).c ⟨fun q => by
              rcases q with (q | ⟨d, u, u1, u2⟩) | ⟨u, u1, u2⟩
              · exact Or.inl q
              · exact Or.inr ⟨d, u, by omega, u2⟩
              · exact absurd u2.1 (nce u), fun q => by
              rcases q with q | ⟨d, u, u1, u2, u3⟩
              · exact Or.inl (Or.inl q)
              · have : ¬ d = j := fun z => by rw [z] at u2; exact nce u u2
                exact Or.inl (Or.inr ⟨d, u, by omega, u2, u3⟩)⟩ rfl) b2 (fun k => by
              rw [b3 k]
              constructor
              · rintro (⟨d, u, u1, u2⟩ | ⟨u, u1, u2⟩)
                · exact ⟨d, u, by omega, u2⟩
                · exact absurd u2.1 (nce u)
              · rintro ⟨d, u, u1, u2, u3⟩
                have : ¬ d = j := fun z => by rw [z] at u2; exact nce u u2
                exact Or.inl ⟨d, u, by omega, u2, u3⟩)
            have k256 : vc_R_stationsOf_256 (some (.int (nI b''))) h' (cx hc_tt M_R_stationsOf h h' (some (.int (nI b'')))) [some (.ref m), some (.int (nI t)), some (.int (nI b)), some (.int (nI j)), some (.int (nI op)), some (.int (nI s))] [] h3 := by
              simp only [vc_R_stationsOf_256, qi_push, qi_pushl, qi_iload, qi_lload, qi_aload, qi_istore, qi_astore, qi_lstore, qi_iinc, qi_iadd, qi_isub, qi_imul, qi_iand, qi_ior, qi_ixor, qi_ishl, qi_ishr, qi_iushr, qi_idiv, qi_irem, qi_lor, qi_lmul, qi_ladd, qi_lsub, qi_land, qi_lshl, qi_lshr, qi_i2l, qi_l2i, qi_i2c, qi_lcmp, qi_dup, qi_dup2, qi_pop, qi_if_eq, qi_icmp_eq, qi_if_ne, qi_icmp_ne, qi_if_lt, qi_icmp_lt, qi_if_ge, qi_icmp_ge, qi_if_gt, qi_icmp_gt, qi_if_le, qi_icmp_le, qi_sw, qi_get, qi_put, qi_iald, qi_lald, qi_aald, qi_iast, qi_zast, qi_cast, qi_last, qi_aast, qi_alen, qi_new, qi_newa, qi_newq, qi_obj, qi_invS, qi_invV, qi_invI, qi_iret, qi_zret, qi_lret, qi_vret, qi_acopy, qi_max, qi_min, at_o, at_i, at_l, at_q, at_a, lget, lset, lclr, lnon, lnth, spl, shrt, rpush, true_and, and_true, List.set, List.length, Nat.reduceAdd, Nat.reduceLT, Nat.reduceLeDiff, Nat.reduceEqDiff, Nat.reduceSub, nI_add]
              exact z2 _ _
            refine ⟨h', X', b'', z1, sn_R_stationsOf_156 _ _ _ ?_⟩
            simp only [vc_R_stationsOf_156, qi_push, qi_pushl, qi_iload, qi_lload, qi_aload, qi_istore, qi_astore, qi_lstore, qi_iinc, qi_iadd, qi_isub, qi_imul, qi_iand, qi_ior, qi_ixor, qi_ishl, qi_ishr, qi_iushr, qi_idiv, qi_irem, qi_lor, qi_lmul, qi_ladd, qi_lsub, qi_land, qi_lshl, qi_lshr, qi_i2l, qi_l2i, qi_i2c, qi_lcmp, qi_dup, qi_dup2, qi_pop, qi_if_eq, qi_icmp_eq, qi_if_ne, qi_icmp_ne, qi_if_lt, qi_icmp_lt, qi_if_ge, qi_icmp_ge, qi_if_gt, qi_icmp_gt, qi_if_le, qi_icmp_le, qi_sw, qi_get, qi_put, qi_iald, qi_lald, qi_aald, qi_iast, qi_zast, qi_cast, qi_last, qi_aast, qi_alen, qi_new, qi_newa, qi_newq, qi_obj, qi_invS, qi_invV, qi_invI, qi_iret, qi_zret, qi_lret, qi_vret, qi_acopy, qi_max, qi_min, at_o, at_i, at_l, at_q, at_a, lget, lset, lclr, lnon, lnth, spl, shrt, rpush, true_and, and_true, List.set, List.length, Nat.reduceAdd, Nat.reduceLT, Nat.reduceLeDiff, Nat.reduceEqDiff, Nat.reduceSub, p0, p9, p10, vj, cj, vo, co, ni_or]
            rw [cjj.n0, lj.n0]
            exact ⟨fun q => absurd q (nI_nle s0 (by omega)), fun _ => ⟨fun _ => k256, fun q => ⟨fun _ => k256, fun q2 => absurd ⟨Classical.not_not.mp q, Classical.not_not.mp q2⟩ w⟩⟩⟩)
      obtain ⟨h', X', b', z1, z2⟩ := lqH op (sub_rfl op) h2 X2 b r2 q2 f2 g2 (fun e he => (c2 e he).c ⟨fun q => Or.inl q, fun q => by
        rcases q with q | ⟨u, u1, u2⟩
        · exact q
        · have := sub_le (inO u u2.1); omega⟩ rfl) b2 (fun k => by
        rw [b3 k]
        constructor
        · exact fun q => Or.inl q
        · rintro (q | ⟨u, u1, u2⟩)
          · exact q
          · have := sub_le (inO u u2.1); omega)
      refine ⟨h', X', b', z1, fun o4 o5 => sn_R_stationsOf_134 _ _ _ ?_⟩
      have p0 := r2.1
      simp only [vc_R_stationsOf_134, qi_push, qi_pushl, qi_iload, qi_lload, qi_aload, qi_istore, qi_astore, qi_lstore, qi_iinc, qi_iadd, qi_isub, qi_imul, qi_iand, qi_ior, qi_ixor, qi_ishl, qi_ishr, qi_iushr, qi_idiv, qi_irem, qi_lor, qi_lmul, qi_ladd, qi_lsub, qi_land, qi_lshl, qi_lshr, qi_i2l, qi_l2i, qi_i2c, qi_lcmp, qi_dup, qi_dup2, qi_pop, qi_if_eq, qi_icmp_eq, qi_if_ne, qi_icmp_ne, qi_if_lt, qi_icmp_lt, qi_if_ge, qi_icmp_ge, qi_if_gt, qi_icmp_gt, qi_if_le, qi_icmp_le, qi_sw, qi_get, qi_put, qi_iald, qi_lald, qi_aald, qi_iast, qi_zast, qi_cast, qi_last, qi_aast, qi_alen, qi_new, qi_newa, qi_newq, qi_obj, qi_invS, qi_invV, qi_invI, qi_iret, qi_zret, qi_lret, qi_vret, qi_acopy, qi_max, qi_min, at_o, at_i, at_l, at_q, at_a, lget, lset, lclr, lnon, lnth, spl, shrt, rpush, true_and, and_true, List.set, List.length, Nat.reduceAdd, Nat.reduceLT, Nat.reduceLeDiff, Nat.reduceEqDiff, Nat.reduceSub, p0]
      refine ⟨_, _, c_R_all r2 (qz X2 q2).1 hn, ?_⟩
      simp only [qi_push, qi_pushl, qi_iload, qi_lload, qi_aload, qi_istore, qi_astore, qi_lstore, qi_iinc, qi_iadd, qi_isub, qi_imul, qi_iand, qi_ior, qi_ixor, qi_ishl, qi_ishr, qi_iushr, qi_idiv, qi_irem, qi_lor, qi_lmul, qi_ladd, qi_lsub, qi_land, qi_lshl, qi_lshr, qi_i2l, qi_l2i, qi_i2c, qi_lcmp, qi_dup, qi_dup2, qi_pop, qi_if_eq, qi_icmp_eq, qi_if_ne, qi_icmp_ne, qi_if_lt, qi_icmp_lt, qi_if_ge, qi_icmp_ge, qi_if_gt, qi_icmp_gt, qi_if_le, qi_icmp_le, qi_sw, qi_get, qi_put, qi_iald, qi_lald, qi_aald, qi_iast, qi_zast, qi_cast, qi_last, qi_aast, qi_alen, qi_new, qi_newa, qi_newq, qi_obj, qi_invS, qi_invV, qi_invI, qi_iret, qi_zret, qi_lret, qi_vret, qi_acopy, qi_max, qi_min, at_o, at_i, at_l, at_q, at_a, lget, lset, lclr, lnon, lnth, spl, shrt, rpush, true_and, and_true, List.set, List.length, Nat.reduceAdd, Nat.reduceLT, Nat.reduceLeDiff, Nat.reduceEqDiff, Nat.reduceSub, p0]
      refine ⟨fun q => absurd q (nI_ge hj (by omega)), fun _ => ⟨_, _, c_R_all r2 (qz X2 q2).1 hn, ?_⟩⟩
      simp only [qi_push, qi_pushl, qi_iload, qi_lload, qi_aload, qi_istore, qi_astore, qi_lstore, qi_iinc, qi_iadd, qi_isub, qi_imul, qi_iand, qi_ior, qi_ixor, qi_ishl, qi_ishr, qi_iushr, qi_idiv, qi_irem, qi_lor, qi_lmul, qi_ladd, qi_lsub, qi_land, qi_lshl, qi_lshr, qi_i2l, qi_l2i, qi_i2c, qi_lcmp, qi_dup, qi_dup2, qi_pop, qi_if_eq, qi_icmp_eq, qi_if_ne, qi_icmp_ne, qi_if_lt, qi_icmp_lt, qi_if_ge, qi_icmp_ge, qi_if_gt, qi_icmp_gt, qi_if_le, qi_icmp_le, qi_sw, qi_get, qi_put, qi_iald, qi_lald, qi_aald, qi_iast, qi_zast, qi_cast, qi_last, qi_aast, qi_alen, qi_new, qi_newa, qi_newq, qi_obj, qi_invS, qi_invV, qi_invI, qi_iret, qi_zret, qi_lret, qi_vret, qi_acopy, qi_max, qi_min, at_o, at_i, at_l, at_q, at_a, lget, lset, lclr, lnon, lnth, spl, shrt, rpush, true_and, and_true, List.set, List.length, Nat.reduceAdd, Nat.reduceLT, Nat.reduceLeDiff, Nat.reduceEqDiff, Nat.reduceSub]
      rw [ni_not, eop]
      exact z2)
  -- the first half: from the end back
  have lqA : ∀ k, k ≤ 2 ^ n - 1 → ∀ h2 X2, isR h2 m len um sp fs X2 Q → (∀ j, ¬ j = 9 → ¬ j = 10 → X2 j = X j) → frm h h2 m 12 → (∀ d, k ≤ d → d ≤ 2 ^ n - 1 → isb L (X2 9) d) → (∀ e, k ≤ e → e < 2 ^ n - 1 → isb (QO 0) (X2 10) e) → ∃ h' X' b', Z h' X' b' ∧ ∀ o3 o4 o5, cx hc_tt M_R_stationsOf h h' (some (.int (nI b'))) 17 [some (.ref m), some (.int (nI t)), some (.int (nI k + (-1))), o3, o4, o5] [] h2 := by
    intro k
    induction k with
    | zero =>
      intro _ h2 X2 r2 q2 f2 g2 c2
      obtain ⟨h', X', b', z1, z2⟩ := lqG 0 (Nat.zero_le _) h2 X2 0 r2 q2 f2 (fun d hd => g2 d (Nat.zero_le _) hd) (fun e he => c2 e (Nat.zero_le _) he) (Nat.two_pow_pos 14) (fun k => ⟨fun q => by simp at q, fun ⟨d, u, q, _⟩ => by omega⟩)
      refine ⟨h', X', b', z1, fun o3 o4 o5 => sn_R_stationsOf_17 _ _ _ ?_⟩
      simp only [vc_R_stationsOf_17, vc_R_stationsOf_130, qi_push, qi_pushl, qi_iload, qi_lload, qi_aload, qi_istore, qi_astore, qi_lstore, qi_iinc, qi_iadd, qi_isub, qi_imul, qi_iand, qi_ior, qi_ixor, qi_ishl, qi_ishr, qi_iushr, qi_idiv, qi_irem, qi_lor, qi_lmul, qi_ladd, qi_lsub, qi_land, qi_lshl, qi_lshr, qi_i2l, qi_l2i, qi_i2c, qi_lcmp, qi_dup, qi_dup2, qi_pop, qi_if_eq, qi_icmp_eq, qi_if_ne, qi_icmp_ne, qi_if_lt, qi_icmp_lt, qi_if_ge, qi_icmp_ge, qi_if_gt, qi_icmp_gt, qi_if_le, qi_icmp_le, qi_sw, qi_get, qi_put, qi_iald, qi_lald, qi_aald, qi_iast, qi_zast, qi_cast, qi_last, qi_aast, qi_alen, qi_new, qi_newa, qi_newq, qi_obj, qi_invS, qi_invV, qi_invI, qi_iret, qi_zret, qi_lret, qi_vret, qi_acopy, qi_max, qi_min, at_o, at_i, at_l, at_q, at_a, lget, lset, lclr, lnon, lnth, spl, shrt, rpush, true_and, and_true, List.set, List.length, Nat.reduceAdd, Nat.reduceLT, Nat.reduceLeDiff, Nat.reduceEqDiff, Nat.reduceSub]
      exact ⟨fun _ => z2 _ _, fun q => absurd ni_neg q⟩
    | succ d ih =>
      intro hk h2 X2 r2 q2 f2 g2 c2
      have vd : vp_in (nI d) 4096 := vp_in_nI (by omega) (by omega)
      have cd : (nI d).toNatClampNeg = d := nI_clamp (by omega)
      obtain ⟨op, eop⟩ : ∃ z, sdf (2 ^ n - 1) d = z := ⟨_, rfl⟩
      have opW : sub op (2 ^ n - 1) := by rw [← eop]; exact sdf_sub _ _
      have opl := sub_le opW
      have dis : ∀ s, sub s op → d &&& s = 0 := fun s hs => and_0.mpr fun i h1 h2 => by
        have := sub_iff.mp hs i h2
        rw [← eop, bit_sdf] at this
        exact this.2 h1
      have inO : ∀ u, EB n ne R f fs d u → sub u op := fun u hu => by
        rw [← eop, sub_iff]
        intro i hi
        rw [bit_sdf]
        exact ⟨sub_iff.mp hu.1.1 i hi, fun q => and_0.mp hu.1.2.1 i q hi⟩
      have lqI := subm_loop (o := op) (P := fun s => ∀ h3 X3, isR h3 m len um sp fs X3 Q → (∀ j, ¬ j = 9 → ¬ j = 10 → X3 j = X j) → frm h h3 m 12 → (∀ e, d < e → e ≤ 2 ^ n - 1 → isb L (X3 9) e) → (∀ e, d ≤ e → e < 2 ^ n - 1 → isb (QO 0) (X3 10) e) → ((X3 9 d = 0 ∧ ∀ u, s < u → EB n ne R f fs d u → ¬ L (d ||| u)) ∨ (X3 9 d = 1 ∧ L d)) → ∃ h' X' b', Z h' X' b' ∧ ∀ o5, cx hc_tt M_R_stationsOf h h' (some (.int (nI b'))) 55 [some (.ref m), some (.int (nI t)), some (.int (nI d)), some (.int (nI op)), some (.int (nI s)), o5] [] h3)
        (by
          intro h3 X3 r3 q3 f3 g3 c3 i3
          obtain ⟨h', X', b', z1, z2⟩ := ih (by omega) h3 X3 r3 q3 f3 (fun e e1 e2 => by
            by_cases w : e = d
            · subst w
              rcases i3 with ⟨i1, i2⟩ | i3
              · refine Or.inr ⟨i1, fun q => ?_⟩
                obtain ⟨u, u1, u2⟩ := (Ld_iff (by omega)).mp q
                exact i2 u u1.1.2.2.1 u1 u2
              · exact Or.inl i3
            · exact g3 e (by omega) e2) (fun e e1 e2 => c3 e e1 e2)
          refine ⟨h', X', b', z1, fun o5 => sn_R_stationsOf_55 _ _ _ ?_⟩
          simp only [vc_R_stationsOf_55, vc_R_stationsOf_124, qi_push, qi_pushl, qi_iload, qi_lload, qi_aload, qi_istore, qi_astore, qi_lstore, qi_iinc, qi_iadd, qi_isub, qi_imul, qi_iand, qi_ior, qi_ixor, qi_ishl, qi_ishr, qi_iushr, qi_idiv, qi_irem, qi_lor, qi_lmul, qi_ladd, qi_lsub, qi_land, qi_lshl, qi_lshr, qi_i2l, qi_l2i, qi_i2c, qi_lcmp, qi_dup, qi_dup2, qi_pop, qi_if_eq, qi_icmp_eq, qi_if_ne, qi_icmp_ne, qi_if_lt, qi_icmp_lt, qi_if_ge, qi_icmp_ge, qi_if_gt, qi_icmp_gt, qi_if_le, qi_icmp_le, qi_sw, qi_get, qi_put, qi_iald, qi_lald, qi_aald, qi_iast, qi_zast, qi_cast, qi_last, qi_aast, qi_alen, qi_new, qi_newa, qi_newq, qi_obj, qi_invS, qi_invV, qi_invI, qi_iret, qi_zret, qi_lret, qi_vret, qi_acopy, qi_max, qi_min, at_o, at_i, at_l, at_q, at_a, lget, lset, lclr, lnon, lnth, spl, shrt, rpush, true_and, and_true, List.set, List.length, Nat.reduceAdd, Nat.reduceLT, Nat.reduceLeDiff, Nat.reduceEqDiff, Nat.reduceSub]
          exact ⟨fun _ => z2 _ _ _, fun q => absurd (by decide) q⟩)
        (fun s hs s0 ihs h3 X3 r3 q3 f3 g3 c3 i3 => by
          have sl : s ≤ 2 ^ n - 1 := Nat.le_trans (sub_le hs) opl
          have dl : d ||| s ≤ 2 ^ n - 1 := sub_le (or_sub (sub_all.mpr (by omega)) (sub_trans hs opW))
          have dgt : d < d ||| s := or_gt (dis s hs) s0
          have vo : vp_in (nI (d ||| s)) 4096 := vp_in_nI (by omega) (by omega)
          have co : (nI (d ||| s)).toNatClampNeg = d ||| s := nI_clamp (by omega)
          have p0 := r3.1
          have p7 : h3.1 (m + 7) = ii 4096 R := by rw [r3.2.2.2.2.2.2.2.1, (qz X3 q3).2.2.1]
          have p9 := r3.2.2.2.2.2.2.2.2.2.1
          have lo := g3 (d ||| s) dgt dl
          have Rd := R12 d (by omega)
          -- out of the loop
          have out : isb L (X3 9) d → ∃ h' X' b', Z h' X' b' ∧ ∀ o5, vc_R_stationsOf_124 (some (.int (nI b'))) h' (cx hc_tt M_R_stationsOf h h' (some (.int (nI b')))) [some (.ref m), some (.int (nI t)), some (.int (nI d)), some (.int (nI op)), some (.int (nI s)), o5] [] h3 := by
            intro hi
            obtain ⟨h', X', b', z1, z2⟩ := ih (by omega) h3 X3 r3 q3 f3 (fun e e1 e2 => by
              by_cases w : e = d
              · subst w; exact hi
              · exact g3 e (by omega) e2) (fun e e1 e2 => c3 e e1 e2)
            refine ⟨h', X', b', z1, fun o5 => ?_⟩
            simp only [vc_R_stationsOf_124, qi_push, qi_pushl, qi_iload, qi_lload, qi_aload, qi_istore, qi_astore, qi_lstore, qi_iinc, qi_iadd, qi_isub, qi_imul, qi_iand, qi_ior, qi_ixor, qi_ishl, qi_ishr, qi_iushr, qi_idiv, qi_irem, qi_lor, qi_lmul, qi_ladd, qi_lsub, qi_land, qi_lshl, qi_lshr, qi_i2l, qi_l2i, qi_i2c, qi_lcmp, qi_dup, qi_dup2, qi_pop, qi_if_eq, qi_icmp_eq, qi_if_ne, qi_icmp_ne, qi_if_lt, qi_icmp_lt, qi_if_ge, qi_icmp_ge, qi_if_gt, qi_icmp_gt, qi_if_le, qi_icmp_le, qi_sw, qi_get, qi_put, qi_iald, qi_lald, qi_aald, qi_iast, qi_zast, qi_cast, qi_last, qi_aast, qi_alen, qi_new, qi_newa, qi_newq, qi_obj, qi_invS, qi_invV, qi_invI, qi_iret, qi_zret, qi_lret, qi_vret, qi_acopy, qi_max, qi_min, at_o, at_i, at_l, at_q, at_a, lget, lset, lclr, lnon, lnth, spl, shrt, rpush, true_and, and_true, List.set, List.length, Nat.reduceAdd, Nat.reduceLT, Nat.reduceLeDiff, Nat.reduceEqDiff, Nat.reduceSub]
            exact z2 _ _ _
          rcases i3 with ⟨i1, i2⟩ | i3
          · by_cases w : R d < 100
            · obtain ⟨bb, hbb, mbb⟩ := best h3 X3 r3 q3 d s (by omega) (by omega) (dis s hs) w
              have nxt : ∀ b : Bool, (b = true ↔ (L (d ||| s) ∧ EB n ne R f fs d s)) → ∃ h' X' b', Z h' X' b' ∧ ∀ o5, vc_R_stationsOf_112 (some (.int (nI b'))) h' (cx hc_tt M_R_stationsOf h h' (some (.int (nI b')))) [some (.ref m), some (.int (nI t)), some (.int (nI d)), some (.int (nI op)), some (.int (nI s)), o5] [.int (nI b.toNat), .int (nI d), .ref (m + 9)] h3 := by
                intro b hb
                have r4 := r3.set9 (f := va_up (X3 9) d b.toNat)
                obtain ⟨h', X', b', z1, z2⟩ := ihs _ _ r4 (fun i i9 i10 => by rw [up_ne i9]; exact q3 i i9 i10) (f3.set (by omega)) (fun e e1 e2 => (g3 e e1 e2).c Iff.rfl (up_ne (by omega))) c3 (by
                  show (va_up (X3 9) d b.toNat d = 0 ∧ _) ∨ (va_up (X3 9) d b.toNat d = 1 ∧ _)
                  rw [up_eq]
                  cases b
                  · refine Or.inl ⟨rfl, fun u u1 u2 u3 => ?_⟩
                    have := (subm_seen hs s0 (inO u u2)).mp u1
                    by_cases e : u = s
                    · subst e
                      have := hb.mpr ⟨u3, u2⟩
                      cases this
                    · exact i2 u (by omega) u2 u3
                  · have := hb.mp rfl
                    exact Or.inr ⟨rfl, (Ld_iff (by omega)).mpr ⟨s, this.2, this.1⟩⟩)
                refine ⟨h', X', b', z1, fun o5 => ?_⟩
                simp only [vc_R_stationsOf_112, qi_push, qi_pushl, qi_iload, qi_lload, qi_aload, qi_istore, qi_astore, qi_lstore, qi_iinc, qi_iadd, qi_isub, qi_imul, qi_iand, qi_ior, qi_ixor, qi_ishl, qi_ishr, qi_iushr, qi_idiv, qi_irem, qi_lor, qi_lmul, qi_ladd, qi_lsub, qi_land, qi_lshl, qi_lshr, qi_i2l, qi_l2i, qi_i2c, qi_lcmp, qi_dup, qi_dup2, qi_pop, qi_if_eq, qi_icmp_eq, qi_if_ne, qi_icmp_ne, qi_if_lt, qi_icmp_lt, qi_if_ge, qi_icmp_ge, qi_if_gt, qi_icmp_gt, qi_if_le, qi_icmp_le, qi_sw, qi_get, qi_put, qi_iald, qi_lald, qi_aald, qi_iast, qi_zast, qi_cast, qi_last, qi_aast, qi_alen, qi_new, qi_newa, qi_newq, qi_obj, qi_invS, qi_invV, qi_invI, qi_iret, qi_zret, qi_lret, qi_vret, qi_acopy, qi_max, qi_min, at_o, at_i, at_l, at_q, at_a, lget, lset, lclr, lnon, lnth, spl, shrt, rpush, true_and, and_true, List.set, List.length, Nat.reduceAdd, Nat.reduceLT, Nat.reduceLeDiff, Nat.reduceEqDiff, Nat.reduceSub, p9, vd, cd]
                rw [updZ, pk_sub (by omega), ni_and]
                exact z2 _
              by_cases w2 : L (d ||| s)
              · obtain ⟨h', X', b', z1, z2⟩ := nxt bb (by rw [hbb]; exact ⟨fun q => ⟨w2, q⟩, fun q => q.2⟩)
                refine ⟨h', X', b', z1, fun o5 => sn_R_stationsOf_55 _ _ _ ?_⟩
                simp only [vc_R_stationsOf_55, vc_R_stationsOf_111, qi_push, qi_pushl, qi_iload, qi_lload, qi_aload, qi_istore, qi_astore, qi_lstore, qi_iinc, qi_iadd, qi_isub, qi_imul, qi_iand, qi_ior, qi_ixor, qi_ishl, qi_ishr, qi_iushr, qi_idiv, qi_irem, qi_lor, qi_lmul, qi_ladd, qi_lsub, qi_land, qi_lshl, qi_lshr, qi_i2l, qi_l2i, qi_i2c, qi_lcmp, qi_dup, qi_dup2, qi_pop, qi_if_eq, qi_icmp_eq, qi_if_ne, qi_icmp_ne, qi_if_lt, qi_icmp_lt, qi_if_ge, qi_icmp_ge, qi_if_gt, qi_icmp_gt, qi_if_le, qi_icmp_le, qi_sw, qi_get, qi_put, qi_iald, qi_lald, qi_aald, qi_iast, qi_zast, qi_cast, qi_last, qi_aast, qi_alen, qi_new, qi_newa, qi_newq, qi_obj, qi_invS, qi_invV, qi_invI, qi_iret, qi_zret, qi_lret, qi_vret, qi_acopy, qi_max, qi_min, at_o, at_i, at_l, at_q, at_a, lget, lset, lclr, lnon, lnth, spl, shrt, rpush, true_and, and_true, List.set, List.length, Nat.reduceAdd, Nat.reduceLT, Nat.reduceLeDiff, Nat.reduceEqDiff, Nat.reduceSub, p0, p7, p9, vd, cd, vo, co, ni_or, i1]
                rw [lo.n0, nI_leI (by omega) (by omega)]
                refine ⟨fun q => absurd q (nI_nle s0 (by omega)), fun _ => ⟨fun q => absurd rfl q, fun _ => ⟨fun q => absurd q (by omega), fun _ => ⟨fun q => absurd w2 q, fun _ => ⟨_, _, mbb, ?_⟩⟩⟩⟩⟩
                simp only [qi_push, qi_pushl, qi_iload, qi_lload, qi_aload, qi_istore, qi_astore, qi_lstore, qi_iinc, qi_iadd, qi_isub, qi_imul, qi_iand, qi_ior, qi_ixor, qi_ishl, qi_ishr, qi_iushr, qi_idiv, qi_irem, qi_lor, qi_lmul, qi_ladd, qi_lsub, qi_land, qi_lshl, qi_lshr, qi_i2l, qi_l2i, qi_i2c, qi_lcmp, qi_dup, qi_dup2, qi_pop, qi_if_eq, qi_icmp_eq, qi_if_ne, qi_icmp_ne, qi_if_lt, qi_icmp_lt, qi_if_ge, qi_icmp_ge, qi_if_gt, qi_icmp_gt, qi_if_le, qi_icmp_le, qi_sw, qi_get, qi_put, qi_iald, qi_lald, qi_aald, qi_iast, qi_zast, qi_cast, qi_last, qi_aast, qi_alen, qi_new, qi_newa, qi_newq, qi_obj, qi_invS, qi_invV, qi_invI, qi_iret, qi_zret, qi_lret, qi_vret, qi_acopy, qi_max, qi_min, at_o, at_i, at_l, at_q, at_a, lget, lset, lclr, lnon, lnth, spl, shrt, rpush, true_and, and_true, List.set, List.length, Nat.reduceAdd, Nat.reduceLT, Nat.reduceLeDiff, Nat.reduceEqDiff, Nat.reduceSub]
                refine ⟨fun q => ?_, fun q => ?_⟩
                · rw [(nb_eq0 _).mp q] at z2; exact z2 _
                · rw [(nb_ne0 _).mp q] at z2; exact z2 _
              · obtain ⟨h', X', b', z1, z2⟩ := nxt false ⟨fun q => (by cases q), fun q => absurd q.1 w2⟩
                refine ⟨h', X', b', z1, fun o5 => sn_R_stationsOf_55 _ _ _ ?_⟩
                simp only [vc_R_stationsOf_55, vc_R_stationsOf_111, qi_push, qi_pushl, qi_iload, qi_lload, qi_aload, qi_istore, qi_astore, qi_lstore, qi_iinc, qi_iadd, qi_isub, qi_imul, qi_iand, qi_ior, qi_ixor, qi_ishl, qi_ishr, qi_iushr, qi_idiv, qi_irem, qi_lor, qi_lmul, qi_ladd, qi_lsub, qi_land, qi_lshl, qi_lshr, qi_i2l, qi_l2i, qi_i2c, qi_lcmp, qi_dup, qi_dup2, qi_pop, qi_if_eq, qi_icmp_eq, qi_if_ne, qi_icmp_ne, qi_if_lt, qi_icmp_lt, qi_if_ge, qi_icmp_ge, qi_if_gt, qi_icmp_gt, qi_if_le, qi_icmp_le, qi_sw, qi_get, qi_put, qi_iald, qi_lald, qi_aald, qi_iast, qi_zast, qi_cast, qi_last, qi_aast, qi_alen, qi_new, qi_newa, qi_newq, qi_obj, qi_invS, qi_invV, qi_invI, qi_iret, qi_zret, qi_lret, qi_vret, qi_acopy, qi_max, qi_min, at_o, at_i, at_l, at_q, at_a, lget, lset, lclr, lnon, lnth, spl, shrt, rpush, true_and, and_true, List.set, List.length, Nat.reduceAdd, Nat.reduceLT, Nat.reduceLeDiff, Nat.reduceEqDiff, Nat.reduceSub, p0, p7, p9, vd, cd, vo, co, ni_or, i1]
                rw [lo.n0, nI_leI (by omega) (by omega)]
                exact ⟨fun q => absurd q (nI_nle s0 (by omega)), fun _ => ⟨fun q => absurd rfl q, fun _ => ⟨fun q => absurd q (by omega), fun _ => ⟨fun _ => z2 _, fun q => absurd w2 q⟩⟩⟩⟩
            · obtain ⟨h', X', b', z1, z2⟩ := out (Or.inr ⟨i1, fun q => by
                obtain ⟨u, u1, -⟩ := (Ld_iff (by omega)).mp q
                exact w u1.2.2.1⟩)
              refine ⟨h', X', b', z1, fun o5 => sn_R_stationsOf_55 _ _ _ ?_⟩
              simp only [vc_R_stationsOf_55, qi_push, qi_pushl, qi_iload, qi_lload, qi_aload, qi_istore, qi_astore, qi_lstore, qi_iinc, qi_iadd, qi_isub, qi_imul, qi_iand, qi_ior, qi_ixor, qi_ishl, qi_ishr, qi_iushr, qi_idiv, qi_irem, qi_lor, qi_lmul, qi_ladd, qi_lsub, qi_land, qi_lshl, qi_lshr, qi_i2l, qi_l2i, qi_i2c, qi_lcmp, qi_dup, qi_dup2, qi_pop, qi_if_eq, qi_icmp_eq, qi_if_ne, qi_icmp_ne, qi_if_lt, qi_icmp_lt, qi_if_ge, qi_icmp_ge, qi_if_gt, qi_icmp_gt, qi_if_le, qi_icmp_le, qi_sw, qi_get, qi_put, qi_iald, qi_lald, qi_aald, qi_iast, qi_zast, qi_cast, qi_last, qi_aast, qi_alen, qi_new, qi_newa, qi_newq, qi_obj, qi_invS, qi_invV, qi_invI, qi_iret, qi_zret, qi_lret, qi_vret, qi_acopy, qi_max, qi_min, at_o, at_i, at_l, at_q, at_a, lget, lset, lclr, lnon, lnth, spl, shrt, rpush, true_and, and_true, List.set, List.length, Nat.reduceAdd, Nat.reduceLT, Nat.reduceLeDiff, Nat.reduceEqDiff, Nat.reduceSub, p0, p7, p9, vd, cd, vo, co, ni_or, i1]
              rw [nI_leI (by omega) (by omega)]
              exact ⟨fun q => absurd q (nI_nle s0 (by omega)), fun _ => ⟨fun q => absurd rfl q, fun _ => ⟨fun _ => z2 _, fun q => absurd (by omega) q⟩⟩⟩
          · obtain ⟨h', X', b', z1, z2⟩ := out (Or.inl i3)
            refine ⟨h', X', b', z1, fun o5 => sn_R_stationsOf_55 _ _ _ ?_⟩
            simp only [vc_R_stationsOf_55, qi_push, qi_pushl, qi_iload, qi_lload, qi_aload, qi_istore, qi_astore, qi_lstore, qi_iinc, qi_iadd, qi_isub, qi_imul, qi_iand, qi_ior, qi_ixor, qi_ishl, qi_ishr, qi_iushr, qi_idiv, qi_irem, qi_lor, qi_lmul, qi_ladd, qi_lsub, qi_land, qi_lshl, qi_lshr, qi_i2l, qi_l2i, qi_i2c, qi_lcmp, qi_dup, qi_dup2, qi_pop, qi_if_eq, qi_icmp_eq, qi_if_ne, qi_icmp_ne, qi_if_lt, qi_icmp_lt, qi_if_ge, qi_icmp_ge, qi_if_gt, qi_icmp_gt, qi_if_le, qi_icmp_le, qi_sw, qi_get, qi_put, qi_iald, qi_lald, qi_aald, qi_iast, qi_zast, qi_cast, qi_last, qi_aast, qi_alen, qi_new, qi_newa, qi_newq, qi_obj, qi_invS, qi_invV, qi_invI, qi_iret, qi_zret, qi_lret, qi_vret, qi_acopy, qi_max, qi_min, at_o, at_i, at_l, at_q, at_a, lget, lset, lclr, lnon, lnth, spl, shrt, rpush, true_and, and_true, List.set, List.length, Nat.reduceAdd, Nat.reduceLT, Nat.reduceLeDiff, Nat.reduceEqDiff, Nat.reduceSub, p0, p9, vd, cd, i3.1]
            exact ⟨fun q => absurd q (nI_nle s0 (by omega)), fun _ => ⟨fun _ => z2 _, fun q => absurd q c10⟩⟩)
      have r3 := r2.set9 (f := va_up (X2 9) d 0)
      have r4 := r3.set10 (f := va_up (X2 10) d (decide (d = 0)).toNat)
      obtain ⟨h', X', b', z1, z2⟩ := lqI op (sub_rfl op) _ _ r4 (fun i i9 i10 => by rw [up_ne i10, up_ne i9]; exact q2 i i9 i10) ((f2.set (by omega)).set (by omega)) (fun e e1 e2 => (g2 e (by omega) e2).c Iff.rfl (up_ne (by omega))) (fun e e1 e2 => by
        by_cases w : e = d
        · subst w
          refine isb_up ?_
          rw [decide_eq_true_eq]
          exact ⟨fun q => Or.inl q, fun q => q.elim id (fun ⟨_, _, q, _⟩ => by omega)⟩
        · exact (c2 e (by omega) e2).c Iff.rfl (up_ne w)) (Or.inl ⟨up_eq, fun u u1 u2 => by have := sub_le (inO u u2); omega⟩)
      refine ⟨h', X', b', z1, fun o3 o4 o5 => sn_R_stationsOf_17 _ _ _ ?_⟩
      have p0 := r2.1
      have p9 := r2.2.2.2.2.2.2.2.2.2.1
      have s0 := r3.1
      have s10 : (hc_set h2 (m + 9) (.inl (1, 4096, .inl (fun j => nI (va_up (X2 9) d 0 j))))).1 (m + 10) = zz 4096 (X2 10) := r3.2.2.2.2.2.2.2.2.2.2.1
      rw [ni_dec]
      simp only [vc_R_stationsOf_17, qi_push, qi_pushl, qi_iload, qi_lload, qi_aload, qi_istore, qi_astore, qi_lstore, qi_iinc, qi_iadd, qi_isub, qi_imul, qi_iand, qi_ior, qi_ixor, qi_ishl, qi_ishr, qi_iushr, qi_idiv, qi_irem, qi_lor, qi_lmul, qi_ladd, qi_lsub, qi_land, qi_lshl, qi_lshr, qi_i2l, qi_l2i, qi_i2c, qi_lcmp, qi_dup, qi_dup2, qi_pop, qi_if_eq, qi_icmp_eq, qi_if_ne, qi_icmp_ne, qi_if_lt, qi_icmp_lt, qi_if_ge, qi_icmp_ge, qi_if_gt, qi_icmp_gt, qi_if_le, qi_icmp_le, qi_sw, qi_get, qi_put, qi_iald, qi_lald, qi_aald, qi_iast, qi_zast, qi_cast, qi_last, qi_aast, qi_alen, qi_new, qi_newa, qi_newq, qi_obj, qi_invS, qi_invV, qi_invI, qi_iret, qi_zret, qi_lret, qi_vret, qi_acopy, qi_max, qi_min, at_o, at_i, at_l, at_q, at_a, lget, lset, lclr, lnon, lnth, spl, shrt, rpush, true_and, and_true, List.set, List.length, Nat.reduceAdd, Nat.reduceLT, Nat.reduceLeDiff, Nat.reduceEqDiff, Nat.reduceSub, p0]
      refine ⟨fun q => absurd q (nI_pos (by omega)), fun _ => ⟨_, _, c_R_all r2 (qz X2 q2).1 hn, ?_⟩⟩
      simp only [vc_R_stationsOf_50, vc_R_stationsOf_51, qi_push, qi_pushl, qi_iload, qi_lload, qi_aload, qi_istore, qi_astore, qi_lstore, qi_iinc, qi_iadd, qi_isub, qi_imul, qi_iand, qi_ior, qi_ixor, qi_ishl, qi_ishr, qi_iushr, qi_idiv, qi_irem, qi_lor, qi_lmul, qi_ladd, qi_lsub, qi_land, qi_lshl, qi_lshr, qi_i2l, qi_l2i, qi_i2c, qi_lcmp, qi_dup, qi_dup2, qi_pop, qi_if_eq, qi_icmp_eq, qi_if_ne, qi_icmp_ne, qi_if_lt, qi_icmp_lt, qi_if_ge, qi_icmp_ge, qi_if_gt, qi_icmp_gt, qi_if_le, qi_icmp_le, qi_sw, qi_get, qi_put, qi_iald, qi_lald, qi_aald, qi_iast, qi_zast, qi_cast, qi_last, qi_aast, qi_alen, qi_new, qi_newa, qi_newq, qi_obj, qi_invS, qi_invV, qi_invI, qi_iret, qi_zret, qi_lret, qi_vret, qi_acopy, qi_max, qi_min, at_o, at_i, at_l, at_q, at_a, lget, lset, lclr, lnon, lnth, spl, shrt, rpush, true_and, and_true, List.set, List.length, Nat.reduceAdd, Nat.reduceLT, Nat.reduceLeDiff, Nat.reduceEqDiff, Nat.reduceSub, p0, p9, vd, cd]
      rw [ni_not, eop, show nI 0 = nI (false.toNat) from rfl, updZ]
      simp only [show (false.toNat) = 0 from rfl]
      simp only [qi_push, qi_pushl, qi_iload, qi_lload, qi_aload, qi_istore, qi_astore, qi_lstore, qi_iinc, qi_iadd, qi_isub, qi_imul, qi_iand, qi_ior, qi_ixor, qi_ishl, qi_ishr, qi_iushr, qi_idiv, qi_irem, qi_lor, qi_lmul, qi_ladd, qi_lsub, qi_land, qi_lshl, qi_lshr, qi_i2l, qi_l2i, qi_i2c, qi_lcmp, qi_dup, qi_dup2, qi_pop, qi_if_eq, qi_icmp_eq, qi_if_ne, qi_icmp_ne, qi_if_lt, qi_icmp_lt, qi_if_ge, qi_icmp_ge, qi_if_gt, qi_icmp_gt, qi_if_le, qi_icmp_le, qi_sw, qi_get, qi_put, qi_iald, qi_lald, qi_aald, qi_iast, qi_zast, qi_cast, qi_last, qi_aast, qi_alen, qi_new, qi_newa, qi_newq, qi_obj, qi_invS, qi_invV, qi_invI, qi_iret, qi_zret, qi_lret, qi_vret, qi_acopy, qi_max, qi_min, at_o, at_i, at_l, at_q, at_a, lget, lset, lclr, lnon, lnth, spl, shrt, rpush, true_and, and_true, List.set, List.length, Nat.reduceAdd, Nat.reduceLT, Nat.reduceLeDiff, Nat.reduceEqDiff, Nat.reduceSub, s0, s10, vd, cd]
      rw [show nI 1 = nI (true.toNat) from rfl, show nI 0 = nI (false.toNat) from rfl, updZ, updZ, ← nI_0, nI_eq (by omega) (by omega)]
      refine ⟨fun q => ?_, fun q => ?_⟩
      · rw [decide_eq_false q] at z2; exact z2 _
      · rw [decide_eq_true q] at z2; exact z2 _
  have r3 := hr.set9 (f := va_up (X 9) (2 ^ n - 1) (true.toNat))
  obtain ⟨h', X', b', z1, z2⟩ := lqA (2 ^ n - 1) (Nat.le_refl _) _ _ r3 (fun i i9 _ => up_ne i9) (frm.rfl'.set (by omega)) (fun d d1 d2 => by
    rw [show d = 2 ^ n - 1 by omega]
    exact isb_up ⟨fun _ => Ld_W, fun _ => rfl⟩) (fun e e1 e2 => by omega)
  refine ⟨h', X', b', MX.of (lv := [some (.ref m), some (.int (nI t)), none, none, none, none]) 4 rfl (by decide) (Nat.le_of_ble_eq_true rfl) (sn_R_stationsOf_0 _ _ _ ?_), z1.1, z1.2.1, z1.2.2.1, z1.2.2.2.1, fun k => ?_⟩
  · have p0 := hr.1
    have p9 := hr.2.2.2.2.2.2.2.2.2.1
    have s0 := r3.1
    simp only [vc_R_stationsOf_0, qi_push, qi_pushl, qi_iload, qi_lload, qi_aload, qi_istore, qi_astore, qi_lstore, qi_iinc, qi_iadd, qi_isub, qi_imul, qi_iand, qi_ior, qi_ixor, qi_ishl, qi_ishr, qi_iushr, qi_idiv, qi_irem, qi_lor, qi_lmul, qi_ladd, qi_lsub, qi_land, qi_lshl, qi_lshr, qi_i2l, qi_l2i, qi_i2c, qi_lcmp, qi_dup, qi_dup2, qi_pop, qi_if_eq, qi_icmp_eq, qi_if_ne, qi_icmp_ne, qi_if_lt, qi_icmp_lt, qi_if_ge, qi_icmp_ge, qi_if_gt, qi_icmp_gt, qi_if_le, qi_icmp_le, qi_sw, qi_get, qi_put, qi_iald, qi_lald, qi_aald, qi_iast, qi_zast, qi_cast, qi_last, qi_aast, qi_alen, qi_new, qi_newa, qi_newq, qi_obj, qi_invS, qi_invV, qi_invI, qi_iret, qi_zret, qi_lret, qi_vret, qi_acopy, qi_max, qi_min, at_o, at_i, at_l, at_q, at_a, lget, lset, lclr, lnon, lnth, spl, shrt, rpush, true_and, and_true, List.set, List.length, Nat.reduceAdd, Nat.reduceLT, Nat.reduceLeDiff, Nat.reduceEqDiff, Nat.reduceSub, p0]
    refine ⟨_, _, c_R_all hr h0 hn, ?_⟩
    simp only [qi_push, qi_pushl, qi_iload, qi_lload, qi_aload, qi_istore, qi_astore, qi_lstore, qi_iinc, qi_iadd, qi_isub, qi_imul, qi_iand, qi_ior, qi_ixor, qi_ishl, qi_ishr, qi_iushr, qi_idiv, qi_irem, qi_lor, qi_lmul, qi_ladd, qi_lsub, qi_land, qi_lshl, qi_lshr, qi_i2l, qi_l2i, qi_i2c, qi_lcmp, qi_dup, qi_dup2, qi_pop, qi_if_eq, qi_icmp_eq, qi_if_ne, qi_icmp_ne, qi_if_lt, qi_icmp_lt, qi_if_ge, qi_icmp_ge, qi_if_gt, qi_icmp_gt, qi_if_le, qi_icmp_le, qi_sw, qi_get, qi_put, qi_iald, qi_lald, qi_aald, qi_iast, qi_zast, qi_cast, qi_last, qi_aast, qi_alen, qi_new, qi_newa, qi_newq, qi_obj, qi_invS, qi_invV, qi_invI, qi_iret, qi_zret, qi_lret, qi_vret, qi_acopy, qi_max, qi_min, at_o, at_i, at_l, at_q, at_a, lget, lset, lclr, lnon, lnth, spl, shrt, rpush, true_and, and_true, List.set, List.length, Nat.reduceAdd, Nat.reduceLT, Nat.reduceLeDiff, Nat.reduceEqDiff, Nat.reduceSub, p0, p9]
    rw [nI_clamp (by omega), show nI 1 = nI (true.toNat) from rfl, updZ]
    refine ⟨vp_in_nI (by omega) (by omega), ?_⟩
    simp only [qi_push, qi_pushl, qi_iload, qi_lload, qi_aload, qi_istore, qi_astore, qi_lstore, qi_iinc, qi_iadd, qi_isub, qi_imul, qi_iand, qi_ior, qi_ixor, qi_ishl, qi_ishr, qi_iushr, qi_idiv, qi_irem, qi_lor, qi_lmul, qi_ladd, qi_lsub, qi_land, qi_lshl, qi_lshr, qi_i2l, qi_l2i, qi_i2c, qi_lcmp, qi_dup, qi_dup2, qi_pop, qi_if_eq, qi_icmp_eq, qi_if_ne, qi_icmp_ne, qi_if_lt, qi_icmp_lt, qi_if_ge, qi_icmp_ge, qi_if_gt, qi_icmp_gt, qi_if_le, qi_icmp_le, qi_sw, qi_get, qi_put, qi_iald, qi_lald, qi_aald, qi_iast, qi_zast, qi_cast, qi_last, qi_aast, qi_alen, qi_new, qi_newa, qi_newq, qi_obj, qi_invS, qi_invV, qi_invI, qi_iret, qi_zret, qi_lret, qi_vret, qi_acopy, qi_max, qi_min, at_o, at_i, at_l, at_q, at_a, lget, lset, lclr, lnon, lnth, spl, shrt, rpush, true_and, and_true, List.set, List.length, Nat.reduceAdd, Nat.reduceLT, Nat.reduceLeDiff, Nat.reduceEqDiff, Nat.reduceSub, s0]
    refine ⟨_, _, c_R_all r3 (by rw [up_ne (by omega)]; exact h0) hn, ?_⟩
    simp only [qi_push, qi_pushl, qi_iload, qi_lload, qi_aload, qi_istore, qi_astore, qi_lstore, qi_iinc, qi_iadd, qi_isub, qi_imul, qi_iand, qi_ior, qi_ixor, qi_ishl, qi_ishr, qi_iushr, qi_idiv, qi_irem, qi_lor, qi_lmul, qi_ladd, qi_lsub, qi_land, qi_lshl, qi_lshr, qi_i2l, qi_l2i, qi_i2c, qi_lcmp, qi_dup, qi_dup2, qi_pop, qi_if_eq, qi_icmp_eq, qi_if_ne, qi_icmp_ne, qi_if_lt, qi_icmp_lt, qi_if_ge, qi_icmp_ge, qi_if_gt, qi_icmp_gt, qi_if_le, qi_icmp_le, qi_sw, qi_get, qi_put, qi_iald, qi_lald, qi_aald, qi_iast, qi_zast, qi_cast, qi_last, qi_aast, qi_alen, qi_new, qi_newa, qi_newq, qi_obj, qi_invS, qi_invV, qi_invI, qi_iret, qi_zret, qi_lret, qi_vret, qi_acopy, qi_max, qi_min, at_o, at_i, at_l, at_q, at_a, lget, lset, lclr, lnon, lnth, spl, shrt, rpush, true_and, and_true, List.set, List.length, Nat.reduceAdd, Nat.reduceLT, Nat.reduceLeDiff, Nat.reduceEqDiff, Nat.reduceSub]
    have : nI (2 ^ n - 1) - nI (true.toNat) = nI (2 ^ n - 1) + (-1) := by rw [Int32.sub_eq_add_neg]; rfl
    rw [this]
    exact z2 _ _ _
  · rw [z1.2.2.2.2 k, ene, ef, ← st_line hR hiK hK12 hK t k]
    constructor
    · rintro ⟨d, u, -, u2, u3⟩
      exact ⟨d, u, u2.1, u2.2.1, u2.2.2.1, u2.2.2.2, u3⟩
    · rintro ⟨d, u, u1, u2, u3, u4, u5⟩
      refine ⟨d, u, ?_, ⟨u1, u2, u3, u4⟩, u5⟩
      have g := or_gt u3.1.2.1 u3.1.2.2.1
      have : sub d (2 ^ n - 1) := by
        have : ∀ k e, uq n ne R f fs k e → sub e (2 ^ n - 1) := by
          intro k
          induction k with
          | zero => intro e he; rw [show e = 0 from he]; exact sub_0 _
          | succ k ih =>
            rintro e ⟨d, s, s1, -, s3, -, rfl⟩
            exact or_sub (ih d s1) s3.1.1
        obtain ⟨k, hk⟩ := u1
        exact this k d hk
      have := sub_le (or_sub this u3.1.1)
      omega
end MO
