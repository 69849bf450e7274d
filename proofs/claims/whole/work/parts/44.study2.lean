/-! STUDY: what is told of it. -/
theorem lshr_n {b k : Nat} (hb : b < 2 ^ 60) (s : Int64) (hs : (s.toBitVec.smod 64).toNat = k) : (lN b >>> s).toInt32 &&& nI 15 = nI (b / 2 ^ k % 16) := by
  apply Int32.toBitVec_inj.1
  show (((BitVec.ofNat 64 b).sshiftRight' (s.toBitVec.smod 64)).signExtend 32) &&& BitVec.ofNat 32 15 = BitVec.ofNat 32 (b / 2 ^ k % 16)
  apply BitVec.eq_of_getLsbD_eq
  intro i hi
  rw [BitVec.sshiftRight', hs]
  have hm : (BitVec.ofNat 64 b).msb = false := by
    rw [BitVec.msb_eq_decide]
    simp
    omega
  have e15 : Nat.testBit 15 i = decide (i < 4) := Nat.testBit_two_pow_sub_one 4 i
  have e16 : (b / 2 ^ k % 16).testBit i = (decide (i < 4) && b.testBit (i + k)) := by
    rw [show (16 : Nat) = 2 ^ 4 from rfl, Nat.testBit_mod_two_pow, Nat.testBit_div_two_pow]
  rw [BitVec.getLsbD_and, BitVec.getLsbD_ofNat, BitVec.getLsbD_ofNat, e15, e16]
  by_cases w : i < 4
  · rw [BitVec.getLsbD_signExtend, BitVec.getLsbD_sshiftRight, BitVec.getLsbD_ofNat, hm]
    by_cases w2 : k + i < 64
    · have w3 : i + k < 64 := by omega
      have w4 : i < 64 := by omega
      simp [hi, w, w2, w3, w4, Nat.add_comm k i]
    · have : b.testBit (i + k) = false := tb_ge (k := 60) hb (by omega)
      have w4 : i < 64 := by omega
      simp only [hi, w, w2, w4, this, decide_true, decide_false, if_true, if_false, Bool.true_and, Bool.and_true, Bool.false_and, Bool.and_false, hm]
  · simp [w]
theorem place_n {b t : Nat} (hb : b < 2 ^ 60) (ht : t < 12) : (lN b >>> ((nI (4 * (11 - t))).toInt64 &&& 63)).toInt32 &&& nI 15 = nI (b / 2 ^ (4 * (11 - t)) % 16) := by
  refine lshr_n hb _ ?_
  have : ∀ t, t < 12 → ((((nI (4 * (11 - t))).toInt64 &&& 63).toBitVec).smod 64).toNat = 4 * (11 - t) := by decide +kernel
  exact this t ht
/-- stations that hold t -/
def psp (H : Nat → Nat) (t : Nat) : Nat → Nat
  | 0 => 0
  | k + 1 => if (H (k + 1)).testBit t then psp H t k ||| 2 ^ (k + 1) else psp H t k
theorem psp_lt (H : Nat → Nat) (t : Nat) : ∀ k, k ≤ 12 → psp H t k < 2 ^ 13 := by
  intro k
  induction k with
  | zero => intro _; exact Nat.two_pow_pos 13
  | succ k ih =>
    intro hk
    simp only [psp]
    split
    · exact or_lt (ih (by omega)) (Nat.pow_lt_pow_right (by omega) (by omega))
    · exact ih (by omega)
section ST
variable {h : hc_H} {y p q z0 sl ln N me so bo lc bp bc n C : Nat} {st : Int32} {H K T B A J S : Nat → Nat}
theorem c_Y_bestSpot (hy : isY h y p q z0 sl ln N me so bo st lc bp bc H K) (hb : bp < 2 ^ 60) {t : Nat} (ht : t < 12) : MA M_Y_bestSpot [.ref y, .int (nI t)] h (some (.int (nI (bp / 2 ^ (4 * (11 - t)) % 16)))) h := by
  have o3 := hy.1
  refine MX.of (lv := [some (.ref y), some (.int (nI t))]) 0 rfl (by decide) (Nat.le_of_ble_eq_true rfl) (sn_Y_bestSpot_0 _ _ _ ?_)
  simp only [vc_Y_bestSpot_0, qi_push, qi_pushl, qi_iload, qi_lload, qi_aload, qi_istore, qi_astore, qi_lstore, qi_iinc, qi_iadd, qi_isub, qi_imul, qi_iand, qi_ior, qi_ixor, qi_ishl, qi_ishr, qi_iushr, qi_idiv, qi_irem, qi_lor, qi_lmul, qi_ladd, qi_lsub, qi_land, qi_lshl, qi_lshr, qi_i2l, qi_l2i, qi_i2c, qi_lcmp, qi_dup, qi_dup2, qi_pop, qi_if_eq, qi_icmp_eq, qi_if_ne, qi_icmp_ne, qi_if_lt, qi_icmp_lt, qi_if_ge, qi_icmp_ge, qi_if_gt, qi_icmp_gt, qi_if_le, qi_icmp_le, qi_sw, qi_get, qi_put, qi_iald, qi_lald, qi_aald, qi_iast, qi_zast, qi_cast, qi_last, qi_aast, qi_alen, qi_new, qi_newa, qi_newq, qi_obj, qi_invS, qi_invV, qi_invI, qi_iret, qi_zret, qi_lret, qi_vret, qi_acopy, qi_max, qi_min, at_o, at_i, at_l, at_q, at_a, lget, lset, lclr, lnon, lnth, spl, shrt, rpush, true_and, and_true, List.set, List.length, Nat.reduceAdd, Nat.reduceLT, Nat.reduceLeDiff, Nat.reduceEqDiff, Nat.reduceSub, o3]
  refine ⟨_, _, c_L_placeShift ht, ?_⟩
  simp only [qi_push, qi_pushl, qi_iload, qi_lload, qi_aload, qi_istore, qi_astore, qi_lstore, qi_iinc, qi_iadd, qi_isub, qi_imul, qi_iand, qi_ior, qi_ixor, qi_ishl, qi_ishr, qi_iushr, qi_idiv, qi_irem, qi_lor, qi_lmul, qi_ladd, qi_lsub, qi_land, qi_lshl, qi_lshr, qi_i2l, qi_l2i, qi_i2c, qi_lcmp, qi_dup, qi_dup2, qi_pop, qi_if_eq, qi_icmp_eq, qi_if_ne, qi_icmp_ne, qi_if_lt, qi_icmp_lt, qi_if_ge, qi_icmp_ge, qi_if_gt, qi_icmp_gt, qi_if_le, qi_icmp_le, qi_sw, qi_get, qi_put, qi_iald, qi_lald, qi_aald, qi_iast, qi_zast, qi_cast, qi_last, qi_aast, qi_alen, qi_new, qi_newa, qi_newq, qi_obj, qi_invS, qi_invV, qi_invI, qi_iret, qi_zret, qi_lret, qi_vret, qi_acopy, qi_max, qi_min, at_o, at_i, at_l, at_q, at_a, lget, lset, lclr, lnon, lnth, spl, shrt, rpush, true_and, and_true, List.set, List.length, Nat.reduceAdd, Nat.reduceLT, Nat.reduceLeDiff, Nat.reduceEqDiff, Nat.reduceSub]
  rw [place_n hb ht]
theorem c_Y_possibleSpots (hy : isY h y p q z0 sl ln N me so bo st lc bp bc H K) (hH : ∀ k, H k < 4096) {t : Nat} (ht : t < 12) : MA M_Y_possibleSpots [.ref y, .int (nI t)] h (some (.int (nI (psp H t 12)))) h := by
  have o3 := hy.1
  have o4 := hy.2.1
  have loop := lp_up (P := fun k => cx hc_tt M_Y_possibleSpots h h (some (.int (nI (psp H t 12)))) 4 [some (.ref y), some (.int (nI t)), some (.int (nI (psp H t k))), some (.int (nI (k + 1)))] [] h) (n := 12)
    (by refine sn_Y_possibleSpots_4 _ _ _ ?_
        simp only [vc_Y_possibleSpots_4, vc_Y_possibleSpots_36, qi_push, qi_pushl, qi_iload, qi_lload, qi_aload, qi_istore, qi_astore, qi_lstore, qi_iinc, qi_iadd, qi_isub, qi_imul, qi_iand, qi_ior, qi_ixor, qi_ishl, qi_ishr, qi_iushr, qi_idiv, qi_irem, qi_lor, qi_lmul, qi_ladd, qi_lsub, qi_land, qi_lshl, qi_lshr, qi_i2l, qi_l2i, qi_i2c, qi_lcmp, qi_dup, qi_dup2, qi_pop, qi_if_eq, qi_icmp_eq, qi_if_ne, qi_icmp_ne, qi_if_lt, qi_icmp_lt, qi_if_ge, qi_icmp_ge, qi_if_gt, qi_icmp_gt, qi_if_le, qi_icmp_le, qi_sw, qi_get, qi_put, qi_iald, qi_lald, qi_aald, qi_iast, qi_zast, qi_cast, qi_last, qi_aast, qi_alen, qi_new, qi_newa, qi_newq, qi_obj, qi_invS, qi_invV, qi_invI, qi_iret, qi_zret, qi_lret, qi_vret, qi_acopy, qi_max, qi_min, at_o, at_i, at_l, at_q, at_a, lget, lset, lclr, lnon, lnth, spl, shrt, rpush, true_and, and_true, List.set, List.length, Nat.reduceAdd, Nat.reduceLT, Nat.reduceLeDiff, Nat.reduceEqDiff, Nat.reduceSub]
        exact ⟨fun _ => trivial, fun z => absurd (by decide) z⟩)
    (fun k hk ih => by
        refine sn_Y_possibleSpots_4 _ _ _ ?_
        have hv : vp_in (nI (k + 1)) 13 := vp_in_nI (by omega) (by omega)
        have ct : (nI (k + 1)).toNatClampNeg = k + 1 := nI_clamp (by omega)
        have b1 := hH (k + 1)
        have b2 := psp_lt H t k (by omega)
        simp only [vc_Y_possibleSpots_4, vc_Y_possibleSpots_30, qi_push, qi_pushl, qi_iload, qi_lload, qi_aload, qi_istore, qi_astore, qi_lstore, qi_iinc, qi_iadd, qi_isub, qi_imul, qi_iand, qi_ior, qi_ixor, qi_ishl, qi_ishr, qi_iushr, qi_idiv, qi_irem, qi_lor, qi_lmul, qi_ladd, qi_lsub, qi_land, qi_lshl, qi_lshr, qi_i2l, qi_l2i, qi_i2c, qi_lcmp, qi_dup, qi_dup2, qi_pop, qi_if_eq, qi_icmp_eq, qi_if_ne, qi_icmp_ne, qi_if_lt, qi_icmp_lt, qi_if_ge, qi_icmp_ge, qi_if_gt, qi_icmp_gt, qi_if_le, qi_icmp_le, qi_sw, qi_get, qi_put, qi_iald, qi_lald, qi_aald, qi_iast, qi_zast, qi_cast, qi_last, qi_aast, qi_alen, qi_new, qi_newa, qi_newq, qi_obj, qi_invS, qi_invV, qi_invI, qi_iret, qi_zret, qi_lret, qi_vret, qi_acopy, qi_max, qi_min, at_o, at_i, at_l, at_q, at_a, lget, lset, lclr, lnon, lnth, spl, shrt, rpush, true_and, and_true, List.set, List.length, Nat.reduceAdd, Nat.reduceLT, Nat.reduceLeDiff, Nat.reduceEqDiff, Nat.reduceSub, o3, o4, hv, ct]
        rw [ni_bit (by omega) (by omega), nI_add, ni_1shl (by omega), ni_or]
        have e : psp H t (k + 1) = if (H (k + 1)).testBit t then psp H t k ||| 2 ^ (k + 1) else psp H t k := rfl
        refine ⟨fun z => absurd z (nI_nlt (by omega) (by omega)), fun _ => ⟨fun z => ?_, fun z => ?_⟩⟩
        · rw [if_neg (by rw [(nb_ne1 _).mp z]; decide)] at e
          rw [← e]; exact ih
        · rw [if_pos ((nb_eq1 _).mp z)] at e
          rw [← e]; exact ih)
  refine MX.of (lv := [some (.ref y), some (.int (nI t)), none, none]) 2 rfl (by decide) (Nat.le_of_ble_eq_true rfl) (sn_Y_possibleSpots_0 _ _ _ ?_)
  simp only [vc_Y_possibleSpots_0, qi_push, qi_pushl, qi_iload, qi_lload, qi_aload, qi_istore, qi_astore, qi_lstore, qi_iinc, qi_iadd, qi_isub, qi_imul, qi_iand, qi_ior, qi_ixor, qi_ishl, qi_ishr, qi_iushr, qi_idiv, qi_irem, qi_lor, qi_lmul, qi_ladd, qi_lsub, qi_land, qi_lshl, qi_lshr, qi_i2l, qi_l2i, qi_i2c, qi_lcmp, qi_dup, qi_dup2, qi_pop, qi_if_eq, qi_icmp_eq, qi_if_ne, qi_icmp_ne, qi_if_lt, qi_icmp_lt, qi_if_ge, qi_icmp_ge, qi_if_gt, qi_icmp_gt, qi_if_le, qi_icmp_le, qi_sw, qi_get, qi_put, qi_iald, qi_lald, qi_aald, qi_iast, qi_zast, qi_cast, qi_last, qi_aast, qi_alen, qi_new, qi_newa, qi_newq, qi_obj, qi_invS, qi_invV, qi_invI, qi_iret, qi_zret, qi_lret, qi_vret, qi_acopy, qi_max, qi_min, at_o, at_i, at_l, at_q, at_a, lget, lset, lclr, lnon, lnth, spl, shrt, rpush, true_and, and_true, List.set, List.length, Nat.reduceAdd, Nat.reduceLT, Nat.reduceLeDiff, Nat.reduceEqDiff, Nat.reduceSub]
  exact loop 0 (Nat.zero_le _)
end ST
