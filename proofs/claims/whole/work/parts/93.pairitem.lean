/-! THE MODEL: reading, piece by piece. -/
def ltr (L : Nat → Nat) (len k : Nat) : Nat := if k < len then L k else 0
/-- the row that is read -/
def rdR (Q : Nat → Int32) (v : pv) : Prop := Q 0 = nI v.1 ∧ Q 1 = v.2.1 ∧ ∀ x, x < 12 → Q (2 + x) = nI (v.2.2.1 x) ∧ Q (14 + x) = nI (v.2.2.2.1 x) ∧ Q (26 + x) = nI (v.2.2.2.2.1 x) ∧ Q (38 + x) = nI (v.2.2.2.2.2.1 x) ∧ Q (50 + x) = nI (v.2.2.2.2.2.2 x)
theorem isR.setQ {h : hc_H} {m len um sp fs : Nat} {X : Nat → Nat → Nat} {Q f : Nat → Int32} (hr : isR h m len um sp fs X Q) : isR (hc_set h (m + 4) (.inl (0, 62, .inl f))) m len um sp fs X f := by
  obtain ⟨e0, e1, e2, e3, e4, e5, e6, e7, e8, e9, e10, e11⟩ := hr
  refine ⟨?_, ?_, ?_, ?_, hs_eq _ _ _, ?_, ?_, ?_, ?_, ?_, ?_, ?_⟩ <;> rw [hs_ne _ _ (by omega)] <;> assumption
theorem upd_ne {f : Nat → Int32} {k j : Nat} {v : Int32} (h : ¬ j = k) : upd f k v j = f j := if_neg h
theorem upd_eq {f : Nat → Int32} {k : Nat} {v : Int32} : upd f k v k = v := if_pos rfl
theorem in_sub {l n : Nat} (hl : l < 65536) (hn : n ≤ 12) : (lN 0 ≤ (nI l - nI 97).toInt64 ∧ (nI l - nI 97).toInt64 ≤ (nI n - nI 1).toInt64) ↔ (97 ≤ l ∧ l - 97 < n) := by
  rw [Int64.le_iff_toInt_le, Int64.le_iff_toInt_le, Int32.toInt_toInt64, Int32.toInt_toInt64, pk_lT (by omega), pk_sub_toInt (by omega) (by omega), pk_sub_toInt (by omega) (by omega)]
  omega
theorem c_R_inN (h : hc_H) {b lo hi : Nat} (hb : b < 2 ^ 31) (h1 : lo < 2 ^ 31) (h2 : hi < 2 ^ 31) : MA M_R_in [.long (nI b).toInt64, .long (lN lo), .long (lN hi)] h (some (.int (nI (decide (lo ≤ b ∧ b ≤ hi)).toNat))) h := by
  have := c_R_inI h (nI b) h1 h2
  simp only [nI_leI h1 hb, nI_leI hb h2] at this
  exact this
section MO
variable {h : hc_H} {m len um sp fs : Nat} {X : Nat → Nat → Nat} {Q : Nat → Int32}
theorem c_R_byteAt (hr : isR h m len um sp fs X Q) (hl : len ≤ 200) {k : Nat} (hk : k < 1000) : MA M_R_byteAt [.ref m, .int (nI k)] h (some (.int (nI (ltr (X 1) len k)))) h := by
  have o0 := hr.1
  have o1 := hr.2.1
  refine MX.of (lv := [some (.ref m), some (.int (nI k))]) 0 rfl (by decide) (Nat.le_of_ble_eq_true rfl) (sn_R_byteAt_0 _ _ _ ?_)
  simp only [vc_R_byteAt_0, vc_R_byteAt_17, vc_R_byteAt_18, qi_push, qi_pushl, qi_iload, qi_lload, qi_aload, qi_istore, qi_astore, qi_lstore, qi_iinc, qi_iadd, qi_isub, qi_imul, qi_iand, qi_ior, qi_ixor, qi_ishl, qi_ishr, qi_iushr, qi_idiv, qi_irem, qi_lor, qi_lmul, qi_ladd, qi_lsub, qi_land, qi_lshl, qi_lshr, qi_i2l, qi_l2i, qi_i2c, qi_lcmp, qi_dup, qi_dup2, qi_pop, qi_if_eq, qi_icmp_eq, qi_if_ne, qi_icmp_ne, qi_if_lt, qi_icmp_lt, qi_if_ge, qi_icmp_ge, qi_if_gt, qi_icmp_gt, qi_if_le, qi_icmp_le, qi_sw, qi_get, qi_put, qi_iald, qi_lald, qi_aald, qi_iast, qi_zast, qi_cast, qi_last, qi_aast, qi_alen, qi_new, qi_newa, qi_newq, qi_obj, qi_invS, qi_invV, qi_invI, qi_iret, qi_zret, qi_lret, qi_vret, qi_acopy, qi_max, qi_min, at_o, at_i, at_l, at_q, at_a, lget, lset, lclr, lnon, lnth, spl, shrt, rpush, true_and, and_true, List.set, List.length, Nat.reduceAdd, Nat.reduceLT, Nat.reduceLeDiff, Nat.reduceEqDiff, Nat.reduceSub, o0, o1]
  rw [nI_leI (by omega) (by omega), nI_clamp (by omega)]
  unfold ltr
  refine ⟨fun q => ?_, fun q => ⟨vp_in_nI (by omega) (by omega), ?_⟩⟩
  · rw [if_neg (by omega)]
  · rw [if_pos (by omega)]
theorem ltr_lt {L : Nat → Nat} {len k : Nat} (hL : ∀ j, j < len → L j < 65536) : ltr L len k < 65536 := by
  unfold ltr
  split
  · rename_i q; exact hL k q
  · omega
theorem c_R_number (hr : isR h m len um sp fs X Q) (hl : len ≤ 200) (hL : ∀ j, j < len → X 1 j < 65536) (hsp : sp ≤ len) {k lo hi : Nat} (hk : k ≤ 3) (hlo : lo < 1000) (hhi : hi < 1000) : ∃ h', MA M_R_number [.ref m, .int (nI k), .int (nI lo), .int (nI hi)] h (some (.int (if sp < (mn (X 1) len k sp 0).1 ∧ lo ≤ (mn (X 1) len k sp 0).2 ∧ (mn (X 1) len k sp 0).2 ≤ hi then nI (mn (X 1) len k sp 0).2 else -1))) h' ∧ isR h' m len um (mn (X 1) len k sp 0).1 fs X Q ∧ frm h h' m 12 := by
  have vb : (mn (X 1) len k sp 0).2 < 1000 := by
    obtain ⟨a1, a2, -, a4, -⟩ := mn_spec (L := X 1) (len := len) k sp 0 hsp
    have := fgn_lt _ _ _ _ a4
    have : 10 ^ ((mn (X 1) len k sp 0).1 - sp) ≤ 10 ^ 3 := Nat.pow_le_pow_right (by omega) (by omega)
    omega
  have msp := (mn_spec (L := X 1) (len := len) k sp 0 hsp)
  obtain ⟨rr, er⟩ : ∃ z, mn (X 1) len k sp 0 = z := ⟨_, rfl⟩
  rw [er] at vb msp ⊢
  have r9 := hr.setO (len' := len) (um' := um) (sp' := rr.1) (fs' := fs)
  refine ⟨hc_set h m (rfO m len um rr.1 fs), ?_, r9, frm.rfl'.set (by omega)⟩
  have k68 : ∀ d x v, rr.1 = x → rr.2 = v → x = sp + d → d ≤ 3 → vc_R_number_68 (some (.int (if sp < rr.1 ∧ lo ≤ rr.2 ∧ rr.2 ≤ hi then nI rr.2 else -1))) (hc_set h m (rfO m len um rr.1 fs)) (cx hc_tt M_R_number h (hc_set h m (rfO m len um rr.1 fs)) (some (.int (if sp < rr.1 ∧ lo ≤ rr.2 ∧ rr.2 ≤ hi then nI rr.2 else -1)))) [some (.ref m), some (.int (nI k)), some (.int (nI lo)), some (.int (nI hi)), some (.int (nI v)), some (.int (nI d))] [] (hc_set h m (rfO m len um x fs)) := by
    intro d x v e1 e2 hd hd3
    rw [e2] at vb
    rw [e1, e2]
    have el : (nI lo).toInt64 = lN lo := nI_l (by omega)
    have eh : (nI hi).toInt64 = lN hi := nI_l (by omega)
    simp only [vc_R_number_68, vc_R_number_91, vc_R_number_92, qi_push, qi_pushl, qi_iload, qi_lload, qi_aload, qi_istore, qi_astore, qi_lstore, qi_iinc, qi_iadd, qi_isub, qi_imul, qi_iand, qi_ior, qi_ixor, qi_ishl, qi_ishr, qi_iushr, qi_idiv, qi_irem, qi_lor, qi_lmul, qi_ladd, qi_lsub, qi_land, qi_lshl, qi_lshr, qi_i2l, qi_l2i, qi_i2c, qi_lcmp, qi_dup, qi_dup2, qi_pop, qi_if_eq, qi_icmp_eq, qi_if_ne, qi_icmp_ne, qi_if_lt, qi_icmp_lt, qi_if_ge, qi_icmp_ge, qi_if_gt, qi_icmp_gt, qi_if_le, qi_icmp_le, qi_sw, qi_get, qi_put, qi_iald, qi_lald, qi_aald, qi_iast, qi_zast, qi_cast, qi_last, qi_aast, qi_alen, qi_new, qi_newa, qi_newq, qi_obj, qi_invS, qi_invV, qi_invI, qi_iret, qi_zret, qi_lret, qi_vret, qi_acopy, qi_max, qi_min, at_o, at_i, at_l, at_q, at_a, lget, lset, lclr, lnon, lnth, spl, shrt, rpush, true_and, and_true, List.set, List.length, Nat.reduceAdd, Nat.reduceLT, Nat.reduceLeDiff, Nat.reduceEqDiff, Nat.reduceSub, el, eh]
    rw [← nI_0, nI_leI (by omega) (by omega)]
    refine ⟨fun q => ?_, fun q => ⟨_, _, c_R_inN _ (b := v) (by omega) (by omega) (by omega), ?_⟩⟩
    · rw [if_neg (by omega)]
    · by_cases w : lo ≤ v ∧ v ≤ hi
      · rw [dT w, if_pos ⟨by omega, w⟩]
        simp only [qi_push, qi_pushl, qi_iload, qi_lload, qi_aload, qi_istore, qi_astore, qi_lstore, qi_iinc, qi_iadd, qi_isub, qi_imul, qi_iand, qi_ior, qi_ixor, qi_ishl, qi_ishr, qi_iushr, qi_idiv, qi_irem, qi_lor, qi_lmul, qi_ladd, qi_lsub, qi_land, qi_lshl, qi_lshr, qi_i2l, qi_l2i, qi_i2c, qi_lcmp, qi_dup, qi_dup2, qi_pop, qi_if_eq, qi_icmp_eq, qi_if_ne, qi_icmp_ne, qi_if_lt, qi_icmp_lt, qi_if_ge, qi_icmp_ge, qi_if_gt, qi_icmp_gt, qi_if_le, qi_icmp_le, qi_sw, qi_get, qi_put, qi_iald, qi_lald, qi_aald, qi_iast, qi_zast, qi_cast, qi_last, qi_aast, qi_alen, qi_new, qi_newa, qi_newq, qi_obj, qi_invS, qi_invV, qi_invI, qi_iret, qi_zret, qi_lret, qi_vret, qi_acopy, qi_max, qi_min, at_o, at_i, at_l, at_q, at_a, lget, lset, lclr, lnon, lnth, spl, shrt, rpush, true_and, and_true, List.set, List.length, Nat.reduceAdd, Nat.reduceLT, Nat.reduceLeDiff, Nat.reduceEqDiff, Nat.reduceSub]
        exact ⟨fun z => absurd z c10, fun _ => (by first | trivial | exact ⟨rfl, rfl⟩)⟩
      · rw [dF w, if_neg (fun z => w z.2)]
        simp only [qi_push, qi_pushl, qi_iload, qi_lload, qi_aload, qi_istore, qi_astore, qi_lstore, qi_iinc, qi_iadd, qi_isub, qi_imul, qi_iand, qi_ior, qi_ixor, qi_ishl, qi_ishr, qi_iushr, qi_idiv, qi_irem, qi_lor, qi_lmul, qi_ladd, qi_lsub, qi_land, qi_lshl, qi_lshr, qi_i2l, qi_l2i, qi_i2c, qi_lcmp, qi_dup, qi_dup2, qi_pop, qi_if_eq, qi_icmp_eq, qi_if_ne, qi_icmp_ne, qi_if_lt, qi_icmp_lt, qi_if_ge, qi_icmp_ge, qi_if_gt, qi_icmp_gt, qi_if_le, qi_icmp_le, qi_sw, qi_get, qi_put, qi_iald, qi_lald, qi_aald, qi_iast, qi_zast, qi_cast, qi_last, qi_aast, qi_alen, qi_new, qi_newa, qi_newq, qi_obj, qi_invS, qi_invV, qi_invI, qi_iret, qi_zret, qi_lret, qi_vret, qi_acopy, qi_max, qi_min, at_o, at_i, at_l, at_q, at_a, lget, lset, lclr, lnon, lnth, spl, shrt, rpush, true_and, and_true, List.set, List.length, Nat.reduceAdd, Nat.reduceLT, Nat.reduceLeDiff, Nat.reduceEqDiff, Nat.reduceSub]
        exact ⟨fun _ => (by first | trivial | exact ⟨rfl, rfl⟩), fun z => absurd (by first | trivial | rfl) z⟩
  have lqN : ∀ j x v, j ≤ k → sp + (k - j) = x → v < 10 ^ (k - j) → mn (X 1) len j x v = rr → cx hc_tt M_R_number h (hc_set h m (rfO m len um rr.1 fs)) (some (.int (if sp < rr.1 ∧ lo ≤ rr.2 ∧ rr.2 ≤ hi then nI rr.2 else -1))) 6 [some (.ref m), some (.int (nI k)), some (.int (nI lo)), some (.int (nI hi)), some (.int (nI v)), some (.int (nI (k - j)))] [] (hc_set h m (rfO m len um x fs)) := by
    intro j
    induction j with
    | zero =>
      intro x v hj hx hv hm
      have hm : (x, v) = rr := hm
      have e1 : rr.1 = x := by rw [← hm]
      have e2 : rr.2 = v := by rw [← hm]
      refine sn_R_number_6 _ _ _ ?_
      simp only [vc_R_number_6, qi_push, qi_pushl, qi_iload, qi_lload, qi_aload, qi_istore, qi_astore, qi_lstore, qi_iinc, qi_iadd, qi_isub, qi_imul, qi_iand, qi_ior, qi_ixor, qi_ishl, qi_ishr, qi_iushr, qi_idiv, qi_irem, qi_lor, qi_lmul, qi_ladd, qi_lsub, qi_land, qi_lshl, qi_lshr, qi_i2l, qi_l2i, qi_i2c, qi_lcmp, qi_dup, qi_dup2, qi_pop, qi_if_eq, qi_icmp_eq, qi_if_ne, qi_icmp_ne, qi_if_lt, qi_icmp_lt, qi_if_ge, qi_icmp_ge, qi_if_gt, qi_icmp_gt, qi_if_le, qi_icmp_le, qi_sw, qi_get, qi_put, qi_iald, qi_lald, qi_aald, qi_iast, qi_zast, qi_cast, qi_last, qi_aast, qi_alen, qi_new, qi_newa, qi_newq, qi_obj, qi_invS, qi_invV, qi_invI, qi_iret, qi_zret, qi_lret, qi_vret, qi_acopy, qi_max, qi_min, at_o, at_i, at_l, at_q, at_a, lget, lset, lclr, lnon, lnth, spl, shrt, rpush, true_and, and_true, List.set, List.length, Nat.reduceAdd, Nat.reduceLT, Nat.reduceLeDiff, Nat.reduceEqDiff, Nat.reduceSub]
      refine ⟨fun _ => ?_, fun q => absurd (nI_le (by omega) (by omega)) q⟩
      exact k68 (k - 0) x v e1 e2 (by omega) (by omega)
    | succ j ih =>
      intro x v hj hx hv hm
      have rx := hr.setO (len' := len) (um' := um) (sp' := x) (fs' := fs)
      have p0 := rx.1
      have p10 : 10 ^ (k - j) = 10 * 10 ^ (k - (j + 1)) := by rw [show k - j = k - (j + 1) + 1 by omega, Nat.pow_succ, Nat.mul_comm]
      have p3 : 10 ^ (k - (j + 1)) ≤ 10 ^ 3 := Nat.pow_le_pow_right (by omega) (by omega)
      have bl := ltr_lt (k := x) hL
      obtain ⟨b, eb⟩ : ∃ z, ltr (X 1) len x = z := ⟨_, rfl⟩
      have hby := c_R_byteAt rx hl (k := x) (by omega)
      rw [eb] at hby bl
      simp only [mn] at hm
      refine sn_R_number_6 _ _ _ ?_
      simp only [vc_R_number_6, qi_push, qi_pushl, qi_iload, qi_lload, qi_aload, qi_istore, qi_astore, qi_lstore, qi_iinc, qi_iadd, qi_isub, qi_imul, qi_iand, qi_ior, qi_ixor, qi_ishl, qi_ishr, qi_iushr, qi_idiv, qi_irem, qi_lor, qi_lmul, qi_ladd, qi_lsub, qi_land, qi_lshl, qi_lshr, qi_i2l, qi_l2i, qi_i2c, qi_lcmp, qi_dup, qi_dup2, qi_pop, qi_if_eq, qi_icmp_eq, qi_if_ne, qi_icmp_ne, qi_if_lt, qi_icmp_lt, qi_if_ge, qi_icmp_ge, qi_if_gt, qi_icmp_gt, qi_if_le, qi_icmp_le, qi_sw, qi_get, qi_put, qi_iald, qi_lald, qi_aald, qi_iast, qi_zast, qi_cast, qi_last, qi_aast, qi_alen, qi_new, qi_newa, qi_newq, qi_obj, qi_invS, qi_invV, qi_invI, qi_iret, qi_zret, qi_lret, qi_vret, qi_acopy, qi_max, qi_min, at_o, at_i, at_l, at_q, at_a, lget, lset, lclr, lnon, lnth, spl, shrt, rpush, true_and, and_true, List.set, List.length, Nat.reduceAdd, Nat.reduceLT, Nat.reduceLeDiff, Nat.reduceEqDiff, Nat.reduceSub, p0]
      refine ⟨fun q => absurd q (nI_ge (by omega) (by omega)), fun _ => ⟨_, _, hby, ?_⟩⟩
      simp only [qi_push, qi_pushl, qi_iload, qi_lload, qi_aload, qi_istore, qi_astore, qi_lstore, qi_iinc, qi_iadd, qi_isub, qi_imul, qi_iand, qi_ior, qi_ixor, qi_ishl, qi_ishr, qi_iushr, qi_idiv, qi_irem, qi_lor, qi_lmul, qi_ladd, qi_lsub, qi_land, qi_lshl, qi_lshr, qi_i2l, qi_l2i, qi_i2c, qi_lcmp, qi_dup, qi_dup2, qi_pop, qi_if_eq, qi_icmp_eq, qi_if_ne, qi_icmp_ne, qi_if_lt, qi_icmp_lt, qi_if_ge, qi_icmp_ge, qi_if_gt, qi_icmp_gt, qi_if_le, qi_icmp_le, qi_sw, qi_get, qi_put, qi_iald, qi_lald, qi_aald, qi_iast, qi_zast, qi_cast, qi_last, qi_aast, qi_alen, qi_new, qi_newa, qi_newq, qi_obj, qi_invS, qi_invV, qi_invI, qi_iret, qi_zret, qi_lret, qi_vret, qi_acopy, qi_max, qi_min, at_o, at_i, at_l, at_q, at_a, lget, lset, lclr, lnon, lnth, spl, shrt, rpush, true_and, and_true, List.set, List.length, Nat.reduceAdd, Nat.reduceLT, Nat.reduceLeDiff, Nat.reduceEqDiff, Nat.reduceSub, p0]
      refine ⟨_, _, c_R_inN _ (b := b) (by omega) (by omega) (by omega), ?_⟩
      by_cases w : 48 ≤ b ∧ b ≤ 57
      · have xl : x < len := by
          apply Nat.lt_of_not_le
          intro q
          unfold ltr at eb
          rw [if_neg (by omega)] at eb
          omega
        have ebx : X 1 x = b := by unfold ltr at eb; rw [if_pos xl] at eb; exact eb
        rw [if_pos ⟨xl, by rw [ebx]; exact w⟩, ebx] at hm
        rw [dT w]
        simp only [qi_push, qi_pushl, qi_iload, qi_lload, qi_aload, qi_istore, qi_astore, qi_lstore, qi_iinc, qi_iadd, qi_isub, qi_imul, qi_iand, qi_ior, qi_ixor, qi_ishl, qi_ishr, qi_iushr, qi_idiv, qi_irem, qi_lor, qi_lmul, qi_ladd, qi_lsub, qi_land, qi_lshl, qi_lshr, qi_i2l, qi_l2i, qi_i2c, qi_lcmp, qi_dup, qi_dup2, qi_pop, qi_if_eq, qi_icmp_eq, qi_if_ne, qi_icmp_ne, qi_if_lt, qi_icmp_lt, qi_if_ge, qi_icmp_ge, qi_if_gt, qi_icmp_gt, qi_if_le, qi_icmp_le, qi_sw, qi_get, qi_put, qi_iald, qi_lald, qi_aald, qi_iast, qi_zast, qi_cast, qi_last, qi_aast, qi_alen, qi_new, qi_newa, qi_newq, qi_obj, qi_invS, qi_invV, qi_invI, qi_iret, qi_zret, qi_lret, qi_vret, qi_acopy, qi_max, qi_min, at_o, at_i, at_l, at_q, at_a, lget, lset, lclr, lnon, lnth, spl, shrt, rpush, true_and, and_true, List.set, List.length, Nat.reduceAdd, Nat.reduceLT, Nat.reduceLeDiff, Nat.reduceEqDiff, Nat.reduceSub, p0]
        refine ⟨fun q => absurd q c10, fun _ => ⟨_, _, hby, ?_⟩⟩
        simp only [qi_push, qi_pushl, qi_iload, qi_lload, qi_aload, qi_istore, qi_astore, qi_lstore, qi_iinc, qi_iadd, qi_isub, qi_imul, qi_iand, qi_ior, qi_ixor, qi_ishl, qi_ishr, qi_iushr, qi_idiv, qi_irem, qi_lor, qi_lmul, qi_ladd, qi_lsub, qi_land, qi_lshl, qi_lshr, qi_i2l, qi_l2i, qi_i2c, qi_lcmp, qi_dup, qi_dup2, qi_pop, qi_if_eq, qi_icmp_eq, qi_if_ne, qi_icmp_ne, qi_if_lt, qi_icmp_lt, qi_if_ge, qi_icmp_ge, qi_if_gt, qi_icmp_gt, qi_if_le, qi_icmp_le, qi_sw, qi_get, qi_put, qi_iald, qi_lald, qi_aald, qi_iast, qi_zast, qi_cast, qi_last, qi_aast, qi_alen, qi_new, qi_newa, qi_newq, qi_obj, qi_invS, qi_invV, qi_invI, qi_iret, qi_zret, qi_lret, qi_vret, qi_acopy, qi_max, qi_min, at_o, at_i, at_l, at_q, at_a, lget, lset, lclr, lnon, lnth, spl, shrt, rpush, true_and, and_true, List.set, List.length, Nat.reduceAdd, Nat.reduceLT, Nat.reduceLeDiff, Nat.reduceEqDiff, Nat.reduceSub, p0, hs_hs]
        rw [pk_mul]
        simp only [nI_add]
        rw [pk_sub (by omega)]
        have := ih (x + 1) (10 * v + (b - 48)) (by omega) (by omega) (by omega) hm
        rw [show k - j = k - (j + 1) + 1 by omega] at this
        rw [show 10 * v + b - 48 = 10 * v + (b - 48) by omega]
        exact ⟨hc_fit_i, this⟩
      · rw [dF w]
        have hm : (x, v) = rr := by
          rw [if_neg] at hm
          · exact hm
          · rintro ⟨q1, q2⟩
            unfold ltr at eb
            rw [if_pos q1] at eb
            rw [eb] at q2
            exact w q2
        have e1 : rr.1 = x := by rw [← hm]
        have e2 : rr.2 = v := by rw [← hm]
        simp only [qi_push, qi_pushl, qi_iload, qi_lload, qi_aload, qi_istore, qi_astore, qi_lstore, qi_iinc, qi_iadd, qi_isub, qi_imul, qi_iand, qi_ior, qi_ixor, qi_ishl, qi_ishr, qi_iushr, qi_idiv, qi_irem, qi_lor, qi_lmul, qi_ladd, qi_lsub, qi_land, qi_lshl, qi_lshr, qi_i2l, qi_l2i, qi_i2c, qi_lcmp, qi_dup, qi_dup2, qi_pop, qi_if_eq, qi_icmp_eq, qi_if_ne, qi_icmp_ne, qi_if_lt, qi_icmp_lt, qi_if_ge, qi_icmp_ge, qi_if_gt, qi_icmp_gt, qi_if_le, qi_icmp_le, qi_sw, qi_get, qi_put, qi_iald, qi_lald, qi_aald, qi_iast, qi_zast, qi_cast, qi_last, qi_aast, qi_alen, qi_new, qi_newa, qi_newq, qi_obj, qi_invS, qi_invV, qi_invI, qi_iret, qi_zret, qi_lret, qi_vret, qi_acopy, qi_max, qi_min, at_o, at_i, at_l, at_q, at_a, lget, lset, lclr, lnon, lnth, spl, shrt, rpush, true_and, and_true, List.set, List.length, Nat.reduceAdd, Nat.reduceLT, Nat.reduceLeDiff, Nat.reduceEqDiff, Nat.reduceSub]
        refine ⟨fun _ => ?_, fun q => absurd rfl q⟩
        exact k68 (k - (j + 1)) x v e1 e2 (by omega) (by omega)
  refine MX.of (lv := [some (.ref m), some (.int (nI k)), some (.int (nI lo)), some (.int (nI hi)), none, none]) 2 rfl (by decide) (Nat.le_of_ble_eq_true rfl) (sn_R_number_0 _ _ _ ?_)
  simp only [vc_R_number_0, qi_push, qi_pushl, qi_iload, qi_lload, qi_aload, qi_istore, qi_astore, qi_lstore, qi_iinc, qi_iadd, qi_isub, qi_imul, qi_iand, qi_ior, qi_ixor, qi_ishl, qi_ishr, qi_iushr, qi_idiv, qi_irem, qi_lor, qi_lmul, qi_ladd, qi_lsub, qi_land, qi_lshl, qi_lshr, qi_i2l, qi_l2i, qi_i2c, qi_lcmp, qi_dup, qi_dup2, qi_pop, qi_if_eq, qi_icmp_eq, qi_if_ne, qi_icmp_ne, qi_if_lt, qi_icmp_lt, qi_if_ge, qi_icmp_ge, qi_if_gt, qi_icmp_gt, qi_if_le, qi_icmp_le, qi_sw, qi_get, qi_put, qi_iald, qi_lald, qi_aald, qi_iast, qi_zast, qi_cast, qi_last, qi_aast, qi_alen, qi_new, qi_newa, qi_newq, qi_obj, qi_invS, qi_invV, qi_invI, qi_iret, qi_zret, qi_lret, qi_vret, qi_acopy, qi_max, qi_min, at_o, at_i, at_l, at_q, at_a, lget, lset, lclr, lnon, lnth, spl, shrt, rpush, true_and, and_true, List.set, List.length, Nat.reduceAdd, Nat.reduceLT, Nat.reduceLeDiff, Nat.reduceEqDiff, Nat.reduceSub]
  have := lqN k sp 0 (Nat.le_refl _) (by omega) (by rw [Nat.sub_self]; omega) er
  rw [Nat.sub_self, hs_self h hr.1] at this
  exact this
end MO

section MO
variable {h : hc_H} {m len um fs : Nat} {X : Nat → Nat → Nat} {Q : Nat → Int32}
theorem rdR_B {Q : Nat → Int32} {v : pv} {b u : Nat} (h : rdR Q v) (hb : b < 12) : rdR (upd Q (14 + b) (nI u)) (pvB v (va_up v.2.2.2.1 b u)) := by
  refine ⟨by rw [upd_ne (by omega)]; exact h.1, by rw [upd_ne (by omega)]; exact h.2.1, fun x hx => ?_⟩
  obtain ⟨a1, a2, a3, a4, a5⟩ := h.2.2 x hx
  refine ⟨by rw [upd_ne (by omega)]; exact a1, ?_, by rw [upd_ne (by omega)]; exact a3, by rw [upd_ne (by omega)]; exact a4, by rw [upd_ne (by omega)]; exact a5⟩
  show upd Q (14 + b) (nI u) (14 + x) = nI (va_up v.2.2.2.1 b u x)
  by_cases e : x = b
  · rw [e, upd_eq, up_eq]
  · rw [upd_ne (by omega), up_ne e]; exact a2
theorem rdR_A {Q : Nat → Int32} {v : pv} {a b : Nat} (h : rdR Q v) (ha : a < 12) (hb : b < 12) (hab : ¬ a = b) : rdR (upd (upd Q (26 + a) (nI (v.2.2.2.2.1 a ||| 2 ^ b))) (26 + b) (nI (v.2.2.2.2.1 b ||| 2 ^ a))) (pvAJ v (prs v.2.2.2.2.1 a b true) v.2.2.2.2.2.1) := by
  refine ⟨by rw [upd_ne (by omega), upd_ne (by omega)]; exact h.1, by rw [upd_ne (by omega), upd_ne (by omega)]; exact h.2.1, fun x hx => ?_⟩
  obtain ⟨a1, a2, a3, a4, a5⟩ := h.2.2 x hx
  refine ⟨by rw [upd_ne (by omega), upd_ne (by omega)]; exact a1, by rw [upd_ne (by omega), upd_ne (by omega)]; exact a2, ?_, by rw [upd_ne (by omega), upd_ne (by omega)]; exact a4, by rw [upd_ne (by omega), upd_ne (by omega)]; exact a5⟩
  show upd _ (26 + b) _ (26 + x) = nI (prs v.2.2.2.2.1 a b true x)
  unfold prs
  by_cases e : x = b
  · rw [e, upd_eq, up_eq, up_ne (fun q => hab q.symm)]; rfl
  · rw [upd_ne (by omega), up_ne e]
    by_cases e2 : x = a
    · rw [e2, upd_eq, up_eq]; rfl
    · rw [upd_ne (by omega), up_ne e2]; exact a3
theorem rdR_J {Q : Nat → Int32} {v : pv} {a b : Nat} (h : rdR Q v) (ha : a < 12) (hb : b < 12) (hab : ¬ a = b) : rdR (upd (upd Q (38 + a) (nI (v.2.2.2.2.2.1 a ||| 2 ^ b))) (38 + b) (nI (v.2.2.2.2.2.1 b ||| 2 ^ a))) (pvAJ v v.2.2.2.2.1 (prs v.2.2.2.2.2.1 a b true)) := by
  refine ⟨by rw [upd_ne (by omega), upd_ne (by omega)]; exact h.1, by rw [upd_ne (by omega), upd_ne (by omega)]; exact h.2.1, fun x hx => ?_⟩
  obtain ⟨a1, a2, a3, a4, a5⟩ := h.2.2 x hx
  refine ⟨by rw [upd_ne (by omega), upd_ne (by omega)]; exact a1, by rw [upd_ne (by omega), upd_ne (by omega)]; exact a2, by rw [upd_ne (by omega), upd_ne (by omega)]; exact a3, ?_, by rw [upd_ne (by omega), upd_ne (by omega)]; exact a5⟩
  show upd _ (38 + b) _ (38 + x) = nI (prs v.2.2.2.2.2.1 a b true x)
  unfold prs
  by_cases e : x = b
  · rw [e, upd_eq, up_eq, up_ne (fun q => hab q.symm)]; rfl
  · rw [upd_ne (by omega), up_ne e]
    by_cases e2 : x = a
    · rw [e2, upd_eq, up_eq]; rfl
    · rw [upd_ne (by omega), up_ne e2]; exact a4
theorem c_R_pairItem {x : Nat} {v : pv} (hr : isR h m len um (x + 1) fs X Q) (hl : len ≤ 200) (hL : ∀ j, j < len → X 1 j < 65536) (hx : x < len) (hv : rV v) (hq : rdR Q v) (hk : X 1 x = 112 ∨ X 1 x = 120 ∨ X 1 x = 106) :
    ∃ h' Q' sp' r, MA M_R_pairItem [.ref m, .int (nI (X 1 x))] h (some (.int (nI (r : Bool).toNat))) h' ∧ isR h' m len um sp' fs X Q' ∧ frm h h' m 12 ∧ (r = true ↔ x + 2 < len ∧ ∃ w, itP (X 1) x v = some w) ∧ (r = true → sp' = x + 3 ∧ ∀ w, itP (X 1) x v = some w → rdR Q' w) := by
  obtain ⟨hw, hbo, hpr, hsA, hsJ, -, -⟩ := id hv
  have n12 := hw.1
  have kl : X 1 x < 65536 := hL x hx
  obtain ⟨l1, e1⟩ : ∃ z, ltr (X 1) len (x + 1) = z := ⟨_, rfl⟩
  obtain ⟨l2, e2⟩ : ∃ z, ltr (X 1) len (x + 2) = z := ⟨_, rfl⟩
  have b1 := ltr_lt (k := x + 1) hL
  have b2 := ltr_lt (k := x + 2) hL
  have t1 := c_R_byteAt hr hl (k := x + 1) (by omega)
  have t2 := c_R_byteAt hr hl (k := x + 2) (by omega)
  rw [e1] at b1 t1
  rw [e2] at b2 t2
  have r3 := hr.setO (len' := len) (um' := um) (sp' := x + 3) (fs' := fs)
  obtain ⟨h3, eh3⟩ : ∃ z, hc_set h m (rfO m len um (x + 3) fs) = z := ⟨_, rfl⟩
  rw [eh3] at r3
  have f3 : frm h h3 m 12 := by rw [← eh3]; exact frm.rfl'.set (by omega)
  have o0 := hr.1
  have p0 := r3.1
  have p4 := r3.2.2.2.2.1
  have w0 : vp_in (nI 0) 62 := vp_in_nI (by omega) (by omega)
  -- up to the tasks' letters
  have start : ∀ {r : Int32} {h' : hc_H}, (h.2.1 ≤ h'.2.1 ∧ h.2.2 ≤ h'.2.2) → (¬ ((97 ≤ l1 ∧ l1 - 97 < v.1) ∧ (97 ≤ l2 ∧ l2 - 97 < v.1) ∧ ¬ l1 = l2) → r = nI 0 ∧ h' = h3) → (((97 ≤ l1 ∧ l1 - 97 < v.1) ∧ (97 ≤ l2 ∧ l2 - 97 < v.1) ∧ ¬ l1 = l2) → vc_R_pairItem_79 (some (.int r)) h' (cx hc_tt M_R_pairItem h h' (some (.int r))) [some (.ref m), some (.int (nI (X 1 x))), some (.int (nI (l1 - 97))), some (.int (nI (l2 - 97))), none] [] h3) → MA M_R_pairItem [.ref m, .int (nI (X 1 x))] h (some (.int r)) h' := by
    intro r h' hh k1 k2
    refine MX.of (lv := [some (.ref m), some (.int (nI (X 1 x))), none, none, none]) 3 rfl (by decide) (Nat.le_of_ble_eq_true rfl) (sn_R_pairItem_0 _ _ _ ?_)
    simp only [vc_R_pairItem_0, qi_push, qi_pushl, qi_iload, qi_lload, qi_aload, qi_istore, qi_astore, qi_lstore, qi_iinc, qi_iadd, qi_isub, qi_imul, qi_iand, qi_ior, qi_ixor, qi_ishl, qi_ishr, qi_iushr, qi_idiv, qi_irem, qi_lor, qi_lmul, qi_ladd, qi_lsub, qi_land, qi_lshl, qi_lshr, qi_i2l, qi_l2i, qi_i2c, qi_lcmp, qi_dup, qi_dup2, qi_pop, qi_if_eq, qi_icmp_eq, qi_if_ne, qi_icmp_ne, qi_if_lt, qi_icmp_lt, qi_if_ge, qi_icmp_ge, qi_if_gt, qi_icmp_gt, qi_if_le, qi_icmp_le, qi_sw, qi_get, qi_put, qi_iald, qi_lald, qi_aald, qi_iast, qi_zast, qi_cast, qi_last, qi_aast, qi_alen, qi_new, qi_newa, qi_newq, qi_obj, qi_invS, qi_invV, qi_invI, qi_iret, qi_zret, qi_lret, qi_vret, qi_acopy, qi_max, qi_min, at_o, at_i, at_l, at_q, at_a, lget, lset, lclr, lnon, lnth, spl, shrt, rpush, true_and, and_true, List.set, List.length, Nat.reduceAdd, Nat.reduceLT, Nat.reduceLeDiff, Nat.reduceEqDiff, Nat.reduceSub, o0]
    refine ⟨_, _, t1, ?_⟩
    simp only [qi_push, qi_pushl, qi_iload, qi_lload, qi_aload, qi_istore, qi_astore, qi_lstore, qi_iinc, qi_iadd, qi_isub, qi_imul, qi_iand, qi_ior, qi_ixor, qi_ishl, qi_ishr, qi_iushr, qi_idiv, qi_irem, qi_lor, qi_lmul, qi_ladd, qi_lsub, qi_land, qi_lshl, qi_lshr, qi_i2l, qi_l2i, qi_i2c, qi_lcmp, qi_dup, qi_dup2, qi_pop, qi_if_eq, qi_icmp_eq, qi_if_ne, qi_icmp_ne, qi_if_lt, qi_icmp_lt, qi_if_ge, qi_icmp_ge, qi_if_gt, qi_icmp_gt, qi_if_le, qi_icmp_le, qi_sw, qi_get, qi_put, qi_iald, qi_lald, qi_aald, qi_iast, qi_zast, qi_cast, qi_last, qi_aast, qi_alen, qi_new, qi_newa, qi_newq, qi_obj, qi_invS, qi_invV, qi_invI, qi_iret, qi_zret, qi_lret, qi_vret, qi_acopy, qi_max, qi_min, at_o, at_i, at_l, at_q, at_a, lget, lset, lclr, lnon, lnth, spl, shrt, rpush, true_and, and_true, List.set, List.length, Nat.reduceAdd, Nat.reduceLT, Nat.reduceLeDiff, Nat.reduceEqDiff, Nat.reduceSub, o0, nI_add]
    refine ⟨_, _, t2, ?_⟩
    simp only [qi_push, qi_pushl, qi_iload, qi_lload, qi_aload, qi_istore, qi_astore, qi_lstore, qi_iinc, qi_iadd, qi_isub, qi_imul, qi_iand, qi_ior, qi_ixor, qi_ishl, qi_ishr, qi_iushr, qi_idiv, qi_irem, qi_lor, qi_lmul, qi_ladd, qi_lsub, qi_land, qi_lshl, qi_lshr, qi_i2l, qi_l2i, qi_i2c, qi_lcmp, qi_dup, qi_dup2, qi_pop, qi_if_eq, qi_icmp_eq, qi_if_ne, qi_icmp_ne, qi_if_lt, qi_icmp_lt, qi_if_ge, qi_icmp_ge, qi_if_gt, qi_icmp_gt, qi_if_le, qi_icmp_le, qi_sw, qi_get, qi_put, qi_iald, qi_lald, qi_aald, qi_iast, qi_zast, qi_cast, qi_last, qi_aast, qi_alen, qi_new, qi_newa, qi_newq, qi_obj, qi_invS, qi_invV, qi_invI, qi_iret, qi_zret, qi_lret, qi_vret, qi_acopy, qi_max, qi_min, at_o, at_i, at_l, at_q, at_a, lget, lset, lclr, lnon, lnth, spl, shrt, rpush, true_and, and_true, List.set, List.length, Nat.reduceAdd, Nat.reduceLT, Nat.reduceLeDiff, Nat.reduceEqDiff, Nat.reduceSub, o0, nI_add]
    rw [show (hc_set h m (.inr (6, [.int (nI len), .ref (m + 1), .ref (m + 2), .ref (m + 3), .int (nI um), .ref (m + 4), .int (nI (x + 1 + 2)), .ref (m + 5), .ref (m + 6), .ref (m + 7), .ref (m + 8), .ref (m + 9), .ref (m + 10), .ref (m + 11), .int (nI fs)]))) = h3 from eh3]
    simp only [qi_push, qi_pushl, qi_iload, qi_lload, qi_aload, qi_istore, qi_astore, qi_lstore, qi_iinc, qi_iadd, qi_isub, qi_imul, qi_iand, qi_ior, qi_ixor, qi_ishl, qi_ishr, qi_iushr, qi_idiv, qi_irem, qi_lor, qi_lmul, qi_ladd, qi_lsub, qi_land, qi_lshl, qi_lshr, qi_i2l, qi_l2i, qi_i2c, qi_lcmp, qi_dup, qi_dup2, qi_pop, qi_if_eq, qi_icmp_eq, qi_if_ne, qi_icmp_ne, qi_if_lt, qi_icmp_lt, qi_if_ge, qi_icmp_ge, qi_if_gt, qi_icmp_gt, qi_if_le, qi_icmp_le, qi_sw, qi_get, qi_put, qi_iald, qi_lald, qi_aald, qi_iast, qi_zast, qi_cast, qi_last, qi_aast, qi_alen, qi_new, qi_newa, qi_newq, qi_obj, qi_invS, qi_invV, qi_invI, qi_iret, qi_zret, qi_lret, qi_vret, qi_acopy, qi_max, qi_min, at_o, at_i, at_l, at_q, at_a, lget, lset, lclr, lnon, lnth, spl, shrt, rpush, true_and, and_true, List.set, List.length, Nat.reduceAdd, Nat.reduceLT, Nat.reduceLeDiff, Nat.reduceEqDiff, Nat.reduceSub, p0, p4, w0, r0, hq.1]
    refine ⟨hc_fit_i, _, _, c_R_in h3 _ _ _, ?_⟩
    simp only [in_sub b1 n12]
    by_cases c1 : 97 ≤ l1 ∧ l1 - 97 < v.1
    · rw [dT c1]
      simp only [qi_push, qi_pushl, qi_iload, qi_lload, qi_aload, qi_istore, qi_astore, qi_lstore, qi_iinc, qi_iadd, qi_isub, qi_imul, qi_iand, qi_ior, qi_ixor, qi_ishl, qi_ishr, qi_iushr, qi_idiv, qi_irem, qi_lor, qi_lmul, qi_ladd, qi_lsub, qi_land, qi_lshl, qi_lshr, qi_i2l, qi_l2i, qi_i2c, qi_lcmp, qi_dup, qi_dup2, qi_pop, qi_if_eq, qi_icmp_eq, qi_if_ne, qi_icmp_ne, qi_if_lt, qi_icmp_lt, qi_if_ge, qi_icmp_ge, qi_if_gt, qi_icmp_gt, qi_if_le, qi_icmp_le, qi_sw, qi_get, qi_put, qi_iald, qi_lald, qi_aald, qi_iast, qi_zast, qi_cast, qi_last, qi_aast, qi_alen, qi_new, qi_newa, qi_newq, qi_obj, qi_invS, qi_invV, qi_invI, qi_iret, qi_zret, qi_lret, qi_vret, qi_acopy, qi_max, qi_min, at_o, at_i, at_l, at_q, at_a, lget, lset, lclr, lnon, lnth, spl, shrt, rpush, true_and, and_true, List.set, List.length, Nat.reduceAdd, Nat.reduceLT, Nat.reduceLeDiff, Nat.reduceEqDiff, Nat.reduceSub, p0, p4, w0, r0, hq.1]
      refine ⟨fun q => absurd q c10, fun _ => ⟨_, _, c_R_in h3 _ _ _, ?_⟩⟩
      simp only [in_sub b2 n12]
      by_cases c2 : 97 ≤ l2 ∧ l2 - 97 < v.1
      · rw [dT c2]
        simp only [vc_R_pairItem_77, qi_push, qi_pushl, qi_iload, qi_lload, qi_aload, qi_istore, qi_astore, qi_lstore, qi_iinc, qi_iadd, qi_isub, qi_imul, qi_iand, qi_ior, qi_ixor, qi_ishl, qi_ishr, qi_iushr, qi_idiv, qi_irem, qi_lor, qi_lmul, qi_ladd, qi_lsub, qi_land, qi_lshl, qi_lshr, qi_i2l, qi_l2i, qi_i2c, qi_lcmp, qi_dup, qi_dup2, qi_pop, qi_if_eq, qi_icmp_eq, qi_if_ne, qi_icmp_ne, qi_if_lt, qi_icmp_lt, qi_if_ge, qi_icmp_ge, qi_if_gt, qi_icmp_gt, qi_if_le, qi_icmp_le, qi_sw, qi_get, qi_put, qi_iald, qi_lald, qi_aald, qi_iast, qi_zast, qi_cast, qi_last, qi_aast, qi_alen, qi_new, qi_newa, qi_newq, qi_obj, qi_invS, qi_invV, qi_invI, qi_iret, qi_zret, qi_lret, qi_vret, qi_acopy, qi_max, qi_min, at_o, at_i, at_l, at_q, at_a, lget, lset, lclr, lnon, lnth, spl, shrt, rpush, true_and, and_true, List.set, List.length, Nat.reduceAdd, Nat.reduceLT, Nat.reduceLeDiff, Nat.reduceEqDiff, Nat.reduceSub]
        rw [sub_eq b1 b2 (by omega)]
        refine ⟨fun q => absurd q c10, fun _ => ⟨fun q => ?_, fun q => ?_⟩⟩
        · have := k2 ⟨c1, c2, q⟩
          rw [pk_sub c1.1, pk_sub c2.1]
          exact this
        · obtain ⟨z1, z2⟩ := k1 (fun z => z.2.2 q)
          exact ⟨Or.inl rfl, by rw [z1], z2⟩
      · rw [dF c2]
        simp only [vc_R_pairItem_77, qi_push, qi_pushl, qi_iload, qi_lload, qi_aload, qi_istore, qi_astore, qi_lstore, qi_iinc, qi_iadd, qi_isub, qi_imul, qi_iand, qi_ior, qi_ixor, qi_ishl, qi_ishr, qi_iushr, qi_idiv, qi_irem, qi_lor, qi_lmul, qi_ladd, qi_lsub, qi_land, qi_lshl, qi_lshr, qi_i2l, qi_l2i, qi_i2c, qi_lcmp, qi_dup, qi_dup2, qi_pop, qi_if_eq, qi_icmp_eq, qi_if_ne, qi_icmp_ne, qi_if_lt, qi_icmp_lt, qi_if_ge, qi_icmp_ge, qi_if_gt, qi_icmp_gt, qi_if_le, qi_icmp_le, qi_sw, qi_get, qi_put, qi_iald, qi_lald, qi_aald, qi_iast, qi_zast, qi_cast, qi_last, qi_aast, qi_alen, qi_new, qi_newa, qi_newq, qi_obj, qi_invS, qi_invV, qi_invI, qi_iret, qi_zret, qi_lret, qi_vret, qi_acopy, qi_max, qi_min, at_o, at_i, at_l, at_q, at_a, lget, lset, lclr, lnon, lnth, spl, shrt, rpush, true_and, and_true, List.set, List.length, Nat.reduceAdd, Nat.reduceLT, Nat.reduceLeDiff, Nat.reduceEqDiff, Nat.reduceSub]
        obtain ⟨z1, z2⟩ := k1 (fun z => c2 z.2.1)
        exact ⟨fun _ => ⟨Or.inl rfl, by rw [z1], z2⟩, fun q => absurd rfl q⟩
    · rw [dF c1]
      simp only [vc_R_pairItem_77, qi_push, qi_pushl, qi_iload, qi_lload, qi_aload, qi_istore, qi_astore, qi_lstore, qi_iinc, qi_iadd, qi_isub, qi_imul, qi_iand, qi_ior, qi_ixor, qi_ishl, qi_ishr, qi_iushr, qi_idiv, qi_irem, qi_lor, qi_lmul, qi_ladd, qi_lsub, qi_land, qi_lshl, qi_lshr, qi_i2l, qi_l2i, qi_i2c, qi_lcmp, qi_dup, qi_dup2, qi_pop, qi_if_eq, qi_icmp_eq, qi_if_ne, qi_icmp_ne, qi_if_lt, qi_icmp_lt, qi_if_ge, qi_icmp_ge, qi_if_gt, qi_icmp_gt, qi_if_le, qi_icmp_le, qi_sw, qi_get, qi_put, qi_iald, qi_lald, qi_aald, qi_iast, qi_zast, qi_cast, qi_last, qi_aast, qi_alen, qi_new, qi_newa, qi_newq, qi_obj, qi_invS, qi_invV, qi_invI, qi_iret, qi_zret, qi_lret, qi_vret, qi_acopy, qi_max, qi_min, at_o, at_i, at_l, at_q, at_a, lget, lset, lclr, lnon, lnth, spl, shrt, rpush, true_and, and_true, List.set, List.length, Nat.reduceAdd, Nat.reduceLT, Nat.reduceLeDiff, Nat.reduceEqDiff, Nat.reduceSub]
      obtain ⟨z1, z2⟩ := k1 (fun z => c1 z.1)
      exact ⟨fun _ => ⟨Or.inl rfl, by rw [z1], z2⟩, fun q => absurd rfl q⟩
  by_cases cc : (97 ≤ l1 ∧ l1 - 97 < v.1) ∧ (97 ≤ l2 ∧ l2 - 97 < v.1) ∧ ¬ l1 = l2
  · -- two tasks
    have x2 : x + 2 < len := by
      apply Nat.lt_of_not_le
      intro q
      unfold ltr at e2
      rw [if_neg (by omega)] at e2
      omega
    have el1 : X 1 (x + 1) = l1 := by unfold ltr at e1; rw [if_pos (by omega)] at e1; exact e1
    have el2 : X 1 (x + 2) = l2 := by unfold ltr at e2; rw [if_pos x2] at e2; exact e2
    obtain ⟨a, ea⟩ : ∃ z, l1 - 97 = z := ⟨_, rfl⟩
    obtain ⟨b, eb⟩ : ∃ z, l2 - 97 = z := ⟨_, rfl⟩
    have hab : ¬ a = b := by omega
    have a12 : a < 12 := by omega
    have b12 : b < 12 := by omega
    rw [ea, eb] at start
    have an : a < v.1 := by omega
    have bn : b < v.1 := by omega
    have hcond : (97 ≤ X 1 (x + 1) ∧ X 1 (x + 1) - 97 < v.1) ∧ (97 ≤ X 1 (x + 2) ∧ X 1 (x + 2) - 97 < v.1) ∧ X 1 (x + 1) ≠ X 1 (x + 2) := by rw [el1, el2]; exact cc
    have q26 := (hq.2.2 a a12).2.2.1
    have q38 := (hq.2.2 a a12).2.2.2.1
    have q26b := (hq.2.2 b b12).2.2.1
    have q38b := (hq.2.2 b b12).2.2.2.1
    have q14b := (hq.2.2 b b12).2.1
    have bA := hw.2.2.2.1 a
    have bJ := hw.2.2.2.2.1 a
    have bB := hw.2.2.1 b
    by_cases kp : X 1 x = 112
    · -- an order
      have hit : itP (X 1) x v = if (v.2.2.2.1 b).testBit a = true ∨ (ab_r v.2.2.2.1 b v.1 v.1).testBit a = true then none else some (pvB v (va_up v.2.2.2.1 b (v.2.2.2.1 b ||| 2 ^ a))) := by
        unfold itP
        rw [if_pos hcond, if_pos kp, el1, el2, ea, eb]
      have v14 : vp_in (nI (14 + b)) 62 := vp_in_nI (by omega) (by omega)
      have c14 : (nI (14 + b)).toNatClampNeg = 14 + b := nI_clamp (by omega)
      obtain ⟨may, hmay⟩ : ∃ z : Bool, z = true ↔ ¬ ((v.2.2.2.1 b).testBit a = true ∨ (ab_r v.2.2.2.1 b v.1 v.1).testBit a = true) := dec_c _
      have rnd := round_iff (y := b) hbo an
      obtain ⟨u, eu⟩ : ∃ z, (if may then v.2.2.2.1 b ||| 2 ^ a else v.2.2.2.1 b) = z := ⟨_, rfl⟩
      have r5 := r3.setQ (f := upd Q (14 + b) (nI u))
      refine ⟨_, _, x + 3, may, start (h' := hc_set h3 (m + 4) (.inl (0, 62, .inl (upd Q (14 + b) (nI u))))) (by rw [← eh3]; exact ⟨Nat.le_refl _, Nat.le_refl _⟩) (fun z => absurd (by rw [← ea, ← eb]; exact cc) z) (fun _ => ?_), r5, f3.set (by omega), ?_, fun hm => ⟨rfl, fun w hw' => ?_⟩⟩
      · have bF := aa_r_lt2 (n := 12) hw.2.2.1 (hw.2.2.1 a) 12
        have k121 : ∀ c : Bool, c = may → ∀ o4, vc_R_pairItem_121 (some (.int (nI may.toNat))) (hc_set h3 (m + 4) (.inl (0, 62, .inl (upd Q (14 + b) (nI u))))) (cx hc_tt M_R_pairItem h (hc_set h3 (m + 4) (.inl (0, 62, .inl (upd Q (14 + b) (nI u))))) (some (.int (nI may.toNat)))) [some (.ref m), some (.int (nI (X 1 x))), some (.int (nI a)), some (.int (nI b)), o4] [.int (nI c.toNat)] h3 := by
          intro c hc o4
          subst hc
          simp only [vc_R_pairItem_121, vc_R_pairItem_144, vc_R_pairItem_145, qi_push, qi_pushl, qi_iload, qi_lload, qi_aload, qi_istore, qi_astore, qi_lstore, qi_iinc, qi_iadd, qi_isub, qi_imul, qi_iand, qi_ior, qi_ixor, qi_ishl, qi_ishr, qi_iushr, qi_idiv, qi_irem, qi_lor, qi_lmul, qi_ladd, qi_lsub, qi_land, qi_lshl, qi_lshr, qi_i2l, qi_l2i, qi_i2c, qi_lcmp, qi_dup, qi_dup2, qi_pop, qi_if_eq, qi_icmp_eq, qi_if_ne, qi_icmp_ne, qi_if_lt, qi_icmp_lt, qi_if_ge, qi_icmp_ge, qi_if_gt, qi_icmp_gt, qi_if_le, qi_icmp_le, qi_sw, qi_get, qi_put, qi_iald, qi_lald, qi_aald, qi_iast, qi_zast, qi_cast, qi_last, qi_aast, qi_alen, qi_new, qi_newa, qi_newq, qi_obj, qi_invS, qi_invV, qi_invI, qi_iret, qi_zret, qi_lret, qi_vret, qi_acopy, qi_max, qi_min, at_o, at_i, at_l, at_q, at_a, lget, lset, lclr, lnon, lnth, spl, shrt, rpush, true_and, and_true, List.set, List.length, Nat.reduceAdd, Nat.reduceLT, Nat.reduceLeDiff, Nat.reduceEqDiff, Nat.reduceSub, p0, p4, nI_add, v14, c14, q14b]
          rw [ni_1shl (by omega), ni_or, ni_or, Nat.or_zero]
          refine ⟨fun q => ⟨nb_01 _, ?_⟩, fun q => ⟨nb_01 _, ?_⟩⟩
          · rw [(nb_eq0 _).mp q] at eu
            have eu : v.2.2.2.1 b = u := eu
            rw [eu]
          · rw [(nb_ne0 _).mp q] at eu
            have eu : v.2.2.2.1 b ||| 2 ^ a = u := eu
            rw [eu]
        rw [kp] at k121 ⊢
        simp only [vc_R_pairItem_79, qi_push, qi_pushl, qi_iload, qi_lload, qi_aload, qi_istore, qi_astore, qi_lstore, qi_iinc, qi_iadd, qi_isub, qi_imul, qi_iand, qi_ior, qi_ixor, qi_ishl, qi_ishr, qi_iushr, qi_idiv, qi_irem, qi_lor, qi_lmul, qi_ladd, qi_lsub, qi_land, qi_lshl, qi_lshr, qi_i2l, qi_l2i, qi_i2c, qi_lcmp, qi_dup, qi_dup2, qi_pop, qi_if_eq, qi_icmp_eq, qi_if_ne, qi_icmp_ne, qi_if_lt, qi_icmp_lt, qi_if_ge, qi_icmp_ge, qi_if_gt, qi_icmp_gt, qi_if_le, qi_icmp_le, qi_sw, qi_get, qi_put, qi_iald, qi_lald, qi_aald, qi_iast, qi_zast, qi_cast, qi_last, qi_aast, qi_alen, qi_new, qi_newa, qi_newq, qi_obj, qi_invS, qi_invV, qi_invI, qi_iret, qi_zret, qi_lret, qi_vret, qi_acopy, qi_max, qi_min, at_o, at_i, at_l, at_q, at_a, lget, lset, lclr, lnon, lnth, spl, shrt, rpush, true_and, and_true, List.set, List.length, Nat.reduceAdd, Nat.reduceLT, Nat.reduceLeDiff, Nat.reduceEqDiff, Nat.reduceSub, p0, p4, nI_add, v14, c14, q14b]
        refine ⟨fun q => absurd trivial q, fun _ => ⟨_, _, c_R_has h3 (show v.2.2.2.1 b < 2 ^ 31 by omega) (show a < 31 by omega), ?_⟩⟩
        simp only [vc_R_pairItem_120, qi_push, qi_pushl, qi_iload, qi_lload, qi_aload, qi_istore, qi_astore, qi_lstore, qi_iinc, qi_iadd, qi_isub, qi_imul, qi_iand, qi_ior, qi_ixor, qi_ishl, qi_ishr, qi_iushr, qi_idiv, qi_irem, qi_lor, qi_lmul, qi_ladd, qi_lsub, qi_land, qi_lshl, qi_lshr, qi_i2l, qi_l2i, qi_i2c, qi_lcmp, qi_dup, qi_dup2, qi_pop, qi_if_eq, qi_icmp_eq, qi_if_ne, qi_icmp_ne, qi_if_lt, qi_icmp_lt, qi_if_ge, qi_icmp_ge, qi_if_gt, qi_icmp_gt, qi_if_le, qi_icmp_le, qi_sw, qi_get, qi_put, qi_iald, qi_lald, qi_aald, qi_iast, qi_zast, qi_cast, qi_last, qi_aast, qi_alen, qi_new, qi_newa, qi_newq, qi_obj, qi_invS, qi_invV, qi_invI, qi_iret, qi_zret, qi_lret, qi_vret, qi_acopy, qi_max, qi_min, at_o, at_i, at_l, at_q, at_a, lget, lset, lclr, lnon, lnth, spl, shrt, rpush, true_and, and_true, List.set, List.length, Nat.reduceAdd, Nat.reduceLT, Nat.reduceLeDiff, Nat.reduceEqDiff, Nat.reduceSub, p0, p4]
        refine ⟨fun q => k121 false ?_ _, fun q => ⟨_, _, c_R_allBehind (t := a) p4 (fun z hz => (hq.2.2 z hz).2.1) hw.2.2.1 a12, ?_⟩⟩
        · cases z : may
          · rfl
          · exact absurd (Or.inl ((nb_ne0 _).mp q)) (hmay.mp z)
        · simp only [qi_push, qi_pushl, qi_iload, qi_lload, qi_aload, qi_istore, qi_astore, qi_lstore, qi_iinc, qi_iadd, qi_isub, qi_imul, qi_iand, qi_ior, qi_ixor, qi_ishl, qi_ishr, qi_iushr, qi_idiv, qi_irem, qi_lor, qi_lmul, qi_ladd, qi_lsub, qi_land, qi_lshl, qi_lshr, qi_i2l, qi_l2i, qi_i2c, qi_lcmp, qi_dup, qi_dup2, qi_pop, qi_if_eq, qi_icmp_eq, qi_if_ne, qi_icmp_ne, qi_if_lt, qi_icmp_lt, qi_if_ge, qi_icmp_ge, qi_if_gt, qi_icmp_gt, qi_if_le, qi_icmp_le, qi_sw, qi_get, qi_put, qi_iald, qi_lald, qi_aald, qi_iast, qi_zast, qi_cast, qi_last, qi_aast, qi_alen, qi_new, qi_newa, qi_newq, qi_obj, qi_invS, qi_invV, qi_invI, qi_iret, qi_zret, qi_lret, qi_vret, qi_acopy, qi_max, qi_min, at_o, at_i, at_l, at_q, at_a, lget, lset, lclr, lnon, lnth, spl, shrt, rpush, true_and, and_true, List.set, List.length, Nat.reduceAdd, Nat.reduceLT, Nat.reduceLeDiff, Nat.reduceEqDiff, Nat.reduceSub]
          refine ⟨_, _, c_R_has h3 (show aa_r v.2.2.2.1 12 (v.2.2.2.1 a) 12 < 2 ^ 31 by omega) (show b < 31 by omega), ?_⟩
          simp only [qi_push, qi_pushl, qi_iload, qi_lload, qi_aload, qi_istore, qi_astore, qi_lstore, qi_iinc, qi_iadd, qi_isub, qi_imul, qi_iand, qi_ior, qi_ixor, qi_ishl, qi_ishr, qi_iushr, qi_idiv, qi_irem, qi_lor, qi_lmul, qi_ladd, qi_lsub, qi_land, qi_lshl, qi_lshr, qi_i2l, qi_l2i, qi_i2c, qi_lcmp, qi_dup, qi_dup2, qi_pop, qi_if_eq, qi_icmp_eq, qi_if_ne, qi_icmp_ne, qi_if_lt, qi_icmp_lt, qi_if_ge, qi_icmp_ge, qi_if_gt, qi_icmp_gt, qi_if_le, qi_icmp_le, qi_sw, qi_get, qi_put, qi_iald, qi_lald, qi_aald, qi_iast, qi_zast, qi_cast, qi_last, qi_aast, qi_alen, qi_new, qi_newa, qi_newq, qi_obj, qi_invS, qi_invV, qi_invI, qi_iret, qi_zret, qi_lret, qi_vret, qi_acopy, qi_max, qi_min, at_o, at_i, at_l, at_q, at_a, lget, lset, lclr, lnon, lnth, spl, shrt, rpush, true_and, and_true, List.set, List.length, Nat.reduceAdd, Nat.reduceLT, Nat.reduceLeDiff, Nat.reduceEqDiff, Nat.reduceSub]
          refine ⟨fun q2 => k121 false ?_ _, fun q2 => k121 true ?_ _⟩
          · cases z : may
            · rfl
            · exact absurd (Or.inr (rnd.mpr ((nb_ne0 _).mp q2))) (hmay.mp z)
          · symm
            rw [hmay]
            rintro (z | z)
            · rw [(nb_eq0 _).mp q] at z; cases z
            · rw [rnd, (nb_eq0 _).mp q2] at z; cases z
      · rw [hmay, hit]
        constructor
        · intro q
          rw [if_neg q]
          exact ⟨x2, _, rfl⟩
        · rintro ⟨-, w, hw'⟩ q
          rw [if_pos q] at hw'; cases hw'
      · rw [hit, if_neg (hmay.mp hm)] at hw'
        cases hw'
        rw [hm] at eu
        have eu : v.2.2.2.1 b ||| 2 ^ a = u := eu
        rw [← eu]
        exact rdR_B hq b12
    · -- a zone
      have hit : itP (X 1) x v = if (v.2.2.2.2.1 a).testBit b = true ∨ (v.2.2.2.2.2.1 a).testBit b = true then none else some (pvAJ v (prs v.2.2.2.2.1 a b (decide (X 1 x = 120))) (prs v.2.2.2.2.2.1 a b (decide (¬ X 1 x = 120)))) := by
        unfold itP
        rw [if_pos hcond, if_neg kp, el1, el2, ea, eb]
      have v26 : vp_in (nI (26 + a)) 62 := vp_in_nI (by omega) (by omega)
      have c26 : (nI (26 + a)).toNatClampNeg = 26 + a := nI_clamp (by omega)
      have v38 : vp_in (nI (38 + a)) 62 := vp_in_nI (by omega) (by omega)
      have c38 : (nI (38 + a)).toNatClampNeg = 38 + a := nI_clamp (by omega)
      obtain ⟨may, hmay⟩ : ∃ z : Bool, z = true ↔ ¬ ((v.2.2.2.2.1 a).testBit b = true ∨ (v.2.2.2.2.2.1 a).testBit b = true) := dec_c _
      have k112 : ¬ nI (X 1 x) = nI 112 := fun q => kp ((nI_eq (by omega) (by omega)).mp q)
      -- the row and what it holds
      obtain ⟨at', u, u', eat⟩ : ∃ at' u u', (X 1 x = 120 ∧ at' = 26 ∧ u = v.2.2.2.2.1 a ∧ u' = v.2.2.2.2.1 b) ∨ (¬ X 1 x = 120 ∧ at' = 38 ∧ u = v.2.2.2.2.2.1 a ∧ u' = v.2.2.2.2.2.1 b) := by
        by_cases k : X 1 x = 120
        · exact ⟨_, _, _, Or.inl ⟨k, rfl, rfl, rfl⟩⟩
        · exact ⟨_, _, _, Or.inr ⟨k, rfl, rfl, rfl⟩⟩
      have hu : Q (at' + a) = nI u := by
        rcases eat with ⟨-, z1, z2, -⟩ | ⟨-, z1, z2, -⟩ <;> rw [z1, z2] <;> assumption
      have hu' : Q (at' + b) = nI u' := by
        rcases eat with ⟨-, z1, -, z2⟩ | ⟨-, z1, -, z2⟩ <;> rw [z1, z2] <;> assumption
      have at50 : at' ≤ 50 := by omega
      have ul : u < 4096 := by rcases eat with ⟨-, -, z, -⟩ | ⟨-, -, z, -⟩ <;> rw [z] <;> assumption
      obtain ⟨are, hare⟩ : ∃ z : Bool, (may || u.testBit b) = z := ⟨_, rfl⟩
      have hp := c_R_pairs (t := at') (u := u) (v := u') p4 a12 b12 hab at50 hu hu' are
      obtain ⟨Q5, eQ5⟩ : ∃ z, upd (upd Q (at' + a) (nI (if are then u ||| 2 ^ b else sdf u (2 ^ b)))) (at' + b) (nI (if are then u' ||| 2 ^ a else sdf u' (2 ^ a))) = z := ⟨_, rfl⟩
      rw [eQ5] at hp
      have r5 := r3.setQ (f := Q5)
      refine ⟨_, _, x + 3, may, start (h' := hc_set h3 (m + 4) (.inl (0, 62, .inl Q5))) (by rw [← eh3]; exact ⟨Nat.le_refl _, Nat.le_refl _⟩) (fun z => absurd (by rw [← ea, ← eb]; exact cc) z) (fun _ => ?_), r5, f3.set (by omega), ?_, fun hm => ⟨rfl, fun w hw' => ?_⟩⟩
      · have k245 : ∀ c : Bool, c = are → vc_R_pairItem_245 (some (.int (nI may.toNat))) (hc_set h3 (m + 4) (.inl (0, 62, .inl Q5))) (cx hc_tt M_R_pairItem h (hc_set h3 (m + 4) (.inl (0, 62, .inl Q5))) (some (.int (nI may.toNat)))) [some (.ref m), some (.int (nI (X 1 x))), some (.int (nI a)), some (.int (nI b)), some (.int (nI may.toNat))] [.int (nI c.toNat), .int (nI b), .int (nI a), .int (nI at'), .ref (m + 4)] h3 := by
          intro c hc
          subst hc
          simp only [vc_R_pairItem_245, qi_push, qi_pushl, qi_iload, qi_lload, qi_aload, qi_istore, qi_astore, qi_lstore, qi_iinc, qi_iadd, qi_isub, qi_imul, qi_iand, qi_ior, qi_ixor, qi_ishl, qi_ishr, qi_iushr, qi_idiv, qi_irem, qi_lor, qi_lmul, qi_ladd, qi_lsub, qi_land, qi_lshl, qi_lshr, qi_i2l, qi_l2i, qi_i2c, qi_lcmp, qi_dup, qi_dup2, qi_pop, qi_if_eq, qi_icmp_eq, qi_if_ne, qi_icmp_ne, qi_if_lt, qi_icmp_lt, qi_if_ge, qi_icmp_ge, qi_if_gt, qi_icmp_gt, qi_if_le, qi_icmp_le, qi_sw, qi_get, qi_put, qi_iald, qi_lald, qi_aald, qi_iast, qi_zast, qi_cast, qi_last, qi_aast, qi_alen, qi_new, qi_newa, qi_newq, qi_obj, qi_invS, qi_invV, qi_invI, qi_iret, qi_zret, qi_lret, qi_vret, qi_acopy, qi_max, qi_min, at_o, at_i, at_l, at_q, at_a, lget, lset, lclr, lnon, lnth, spl, shrt, rpush, true_and, and_true, List.set, List.length, Nat.reduceAdd, Nat.reduceLT, Nat.reduceLeDiff, Nat.reduceEqDiff, Nat.reduceSub]
          refine ⟨_, _, hp, ?_⟩
          simp only [qi_push, qi_pushl, qi_iload, qi_lload, qi_aload, qi_istore, qi_astore, qi_lstore, qi_iinc, qi_iadd, qi_isub, qi_imul, qi_iand, qi_ior, qi_ixor, qi_ishl, qi_ishr, qi_iushr, qi_idiv, qi_irem, qi_lor, qi_lmul, qi_ladd, qi_lsub, qi_land, qi_lshl, qi_lshr, qi_i2l, qi_l2i, qi_i2c, qi_lcmp, qi_dup, qi_dup2, qi_pop, qi_if_eq, qi_icmp_eq, qi_if_ne, qi_icmp_ne, qi_if_lt, qi_icmp_lt, qi_if_ge, qi_icmp_ge, qi_if_gt, qi_icmp_gt, qi_if_le, qi_icmp_le, qi_sw, qi_get, qi_put, qi_iald, qi_lald, qi_aald, qi_iast, qi_zast, qi_cast, qi_last, qi_aast, qi_alen, qi_new, qi_newa, qi_newq, qi_obj, qi_invS, qi_invV, qi_invI, qi_iret, qi_zret, qi_lret, qi_vret, qi_acopy, qi_max, qi_min, at_o, at_i, at_l, at_q, at_a, lget, lset, lclr, lnon, lnth, spl, shrt, rpush, true_and, and_true, List.set, List.length, Nat.reduceAdd, Nat.reduceLT, Nat.reduceLeDiff, Nat.reduceEqDiff, Nat.reduceSub]
          exact nb_01 _
        have vat : vp_in (nI (at' + a)) 62 := vp_in_nI (by omega) (by omega)
        have cat : (nI (at' + a)).toNatClampNeg = at' + a := nI_clamp (by omega)
        have k230 : may = false → vc_R_pairItem_230 (some (.int (nI may.toNat))) (hc_set h3 (m + 4) (.inl (0, 62, .inl Q5))) (cx hc_tt M_R_pairItem h (hc_set h3 (m + 4) (.inl (0, 62, .inl Q5))) (some (.int (nI may.toNat)))) [some (.ref m), some (.int (nI (X 1 x))), some (.int (nI a)), some (.int (nI b)), some (.int (nI may.toNat))] [.int (nI at'), .ref (m + 4), .int (nI b), .int (nI a), .int (nI at'), .ref (m + 4)] h3 := by
          intro hm
          simp only [vc_R_pairItem_230, qi_push, qi_pushl, qi_iload, qi_lload, qi_aload, qi_istore, qi_astore, qi_lstore, qi_iinc, qi_iadd, qi_isub, qi_imul, qi_iand, qi_ior, qi_ixor, qi_ishl, qi_ishr, qi_iushr, qi_idiv, qi_irem, qi_lor, qi_lmul, qi_ladd, qi_lsub, qi_land, qi_lshl, qi_lshr, qi_i2l, qi_l2i, qi_i2c, qi_lcmp, qi_dup, qi_dup2, qi_pop, qi_if_eq, qi_icmp_eq, qi_if_ne, qi_icmp_ne, qi_if_lt, qi_icmp_lt, qi_if_ge, qi_icmp_ge, qi_if_gt, qi_icmp_gt, qi_if_le, qi_icmp_le, qi_sw, qi_get, qi_put, qi_iald, qi_lald, qi_aald, qi_iast, qi_zast, qi_cast, qi_last, qi_aast, qi_alen, qi_new, qi_newa, qi_newq, qi_obj, qi_invS, qi_invV, qi_invI, qi_iret, qi_zret, qi_lret, qi_vret, qi_acopy, qi_max, qi_min, at_o, at_i, at_l, at_q, at_a, lget, lset, lclr, lnon, lnth, spl, shrt, rpush, true_and, and_true, List.set, List.length, Nat.reduceAdd, Nat.reduceLT, Nat.reduceLeDiff, Nat.reduceEqDiff, Nat.reduceSub, p4, nI_add, vat, cat, hu]
          refine ⟨_, _, c_R_has h3 (show u < 2 ^ 31 by omega) (show b < 31 by omega), ?_⟩
          simp only [vc_R_pairItem_240, vc_R_pairItem_244, qi_push, qi_pushl, qi_iload, qi_lload, qi_aload, qi_istore, qi_astore, qi_lstore, qi_iinc, qi_iadd, qi_isub, qi_imul, qi_iand, qi_ior, qi_ixor, qi_ishl, qi_ishr, qi_iushr, qi_idiv, qi_irem, qi_lor, qi_lmul, qi_ladd, qi_lsub, qi_land, qi_lshl, qi_lshr, qi_i2l, qi_l2i, qi_i2c, qi_lcmp, qi_dup, qi_dup2, qi_pop, qi_if_eq, qi_icmp_eq, qi_if_ne, qi_icmp_ne, qi_if_lt, qi_icmp_lt, qi_if_ge, qi_icmp_ge, qi_if_gt, qi_icmp_gt, qi_if_le, qi_icmp_le, qi_sw, qi_get, qi_put, qi_iald, qi_lald, qi_aald, qi_iast, qi_zast, qi_cast, qi_last, qi_aast, qi_alen, qi_new, qi_newa, qi_newq, qi_obj, qi_invS, qi_invV, qi_invI, qi_iret, qi_zret, qi_lret, qi_vret, qi_acopy, qi_max, qi_min, at_o, at_i, at_l, at_q, at_a, lget, lset, lclr, lnon, lnth, spl, shrt, rpush, true_and, and_true, List.set, List.length, Nat.reduceAdd, Nat.reduceLT, Nat.reduceLeDiff, Nat.reduceEqDiff, Nat.reduceSub]
          refine ⟨fun q => k245 false ?_, fun q => k245 true ?_⟩
          · rw [← hare, hm, (nb_eq0 _).mp q]; rfl
          · rw [← hare, (nb_ne0 _).mp q, Bool.or_true]
        have k206 : vc_R_pairItem_206 (some (.int (nI may.toNat))) (hc_set h3 (m + 4) (.inl (0, 62, .inl Q5))) (cx hc_tt M_R_pairItem h (hc_set h3 (m + 4) (.inl (0, 62, .inl Q5))) (some (.int (nI may.toNat)))) [some (.ref m), some (.int (nI (X 1 x))), some (.int (nI a)), some (.int (nI b)), some (.int (nI may.toNat))] [.int (nI at'), .ref (m + 4)] h3 := by
          simp only [vc_R_pairItem_206, vc_R_pairItem_228, vc_R_pairItem_240, qi_push, qi_pushl, qi_iload, qi_lload, qi_aload, qi_istore, qi_astore, qi_lstore, qi_iinc, qi_iadd, qi_isub, qi_imul, qi_iand, qi_ior, qi_ixor, qi_ishl, qi_ishr, qi_iushr, qi_idiv, qi_irem, qi_lor, qi_lmul, qi_ladd, qi_lsub, qi_land, qi_lshl, qi_lshr, qi_i2l, qi_l2i, qi_i2c, qi_lcmp, qi_dup, qi_dup2, qi_pop, qi_if_eq, qi_icmp_eq, qi_if_ne, qi_icmp_ne, qi_if_lt, qi_icmp_lt, qi_if_ge, qi_icmp_ge, qi_if_gt, qi_icmp_gt, qi_if_le, qi_icmp_le, qi_sw, qi_get, qi_put, qi_iald, qi_lald, qi_aald, qi_iast, qi_zast, qi_cast, qi_last, qi_aast, qi_alen, qi_new, qi_newa, qi_newq, qi_obj, qi_invS, qi_invV, qi_invI, qi_iret, qi_zret, qi_lret, qi_vret, qi_acopy, qi_max, qi_min, at_o, at_i, at_l, at_q, at_a, lget, lset, lclr, lnon, lnth, spl, shrt, rpush, true_and, and_true, List.set, List.length, Nat.reduceAdd, Nat.reduceLT, Nat.reduceLeDiff, Nat.reduceEqDiff, Nat.reduceSub, p0]
          rw [nI_eq (by omega) (by omega)]
          refine ⟨fun q => k245 true ?_, fun q => ⟨fun q2 => ?_, fun q2 => ?_⟩⟩
          · rw [← hare, (nb_ne0 _).mp q]; rfl
          · have := k230 ((nb_eq0 _).mp q)
            rcases eat with ⟨z, -⟩ | ⟨-, z, -⟩
            · exact absurd z q2
            · rw [z] at this ⊢; exact this
          · have := k230 ((nb_eq0 _).mp q)
            rcases eat with ⟨-, z, -⟩ | ⟨z, -⟩
            · rw [z] at this ⊢; exact this
            · exact absurd q2 z
        have k187 : ∀ c : Bool, c = may → ∀ o4, vc_R_pairItem_187 (some (.int (nI may.toNat))) (hc_set h3 (m + 4) (.inl (0, 62, .inl Q5))) (cx hc_tt M_R_pairItem h (hc_set h3 (m + 4) (.inl (0, 62, .inl Q5))) (some (.int (nI may.toNat)))) [some (.ref m), some (.int (nI (X 1 x))), some (.int (nI a)), some (.int (nI b)), o4] [.int (nI c.toNat)] h3 := by
          intro c hc o4
          subst hc
          simp only [vc_R_pairItem_187, vc_R_pairItem_204, qi_push, qi_pushl, qi_iload, qi_lload, qi_aload, qi_istore, qi_astore, qi_lstore, qi_iinc, qi_iadd, qi_isub, qi_imul, qi_iand, qi_ior, qi_ixor, qi_ishl, qi_ishr, qi_iushr, qi_idiv, qi_irem, qi_lor, qi_lmul, qi_ladd, qi_lsub, qi_land, qi_lshl, qi_lshr, qi_i2l, qi_l2i, qi_i2c, qi_lcmp, qi_dup, qi_dup2, qi_pop, qi_if_eq, qi_icmp_eq, qi_if_ne, qi_icmp_ne, qi_if_lt, qi_icmp_lt, qi_if_ge, qi_icmp_ge, qi_if_gt, qi_icmp_gt, qi_if_le, qi_icmp_le, qi_sw, qi_get, qi_put, qi_iald, qi_lald, qi_aald, qi_iast, qi_zast, qi_cast, qi_last, qi_aast, qi_alen, qi_new, qi_newa, qi_newq, qi_obj, qi_invS, qi_invV, qi_invI, qi_iret, qi_zret, qi_lret, qi_vret, qi_acopy, qi_max, qi_min, at_o, at_i, at_l, at_q, at_a, lget, lset, lclr, lnon, lnth, spl, shrt, rpush, true_and, and_true, List.set, List.length, Nat.reduceAdd, Nat.reduceLT, Nat.reduceLeDiff, Nat.reduceEqDiff, Nat.reduceSub, p0]
          rw [nI_eq (by omega) (by omega)]
          refine ⟨fun q => ?_, fun q => ?_⟩
          · rcases eat with ⟨z, -⟩ | ⟨-, z, -⟩
            · exact absurd z q
            · have := k206; rw [z] at this; exact this
          · rcases eat with ⟨-, z, -⟩ | ⟨z, -⟩
            · have := k206; rw [z] at this; exact this
            · exact absurd q z
        simp only [vc_R_pairItem_79, qi_push, qi_pushl, qi_iload, qi_lload, qi_aload, qi_istore, qi_astore, qi_lstore, qi_iinc, qi_iadd, qi_isub, qi_imul, qi_iand, qi_ior, qi_ixor, qi_ishl, qi_ishr, qi_iushr, qi_idiv, qi_irem, qi_lor, qi_lmul, qi_ladd, qi_lsub, qi_land, qi_lshl, qi_lshr, qi_i2l, qi_l2i, qi_i2c, qi_lcmp, qi_dup, qi_dup2, qi_pop, qi_if_eq, qi_icmp_eq, qi_if_ne, qi_icmp_ne, qi_if_lt, qi_icmp_lt, qi_if_ge, qi_icmp_ge, qi_if_gt, qi_icmp_gt, qi_if_le, qi_icmp_le, qi_sw, qi_get, qi_put, qi_iald, qi_lald, qi_aald, qi_iast, qi_zast, qi_cast, qi_last, qi_aast, qi_alen, qi_new, qi_newa, qi_newq, qi_obj, qi_invS, qi_invV, qi_invI, qi_iret, qi_zret, qi_lret, qi_vret, qi_acopy, qi_max, qi_min, at_o, at_i, at_l, at_q, at_a, lget, lset, lclr, lnon, lnth, spl, shrt, rpush, true_and, and_true, List.set, List.length, Nat.reduceAdd, Nat.reduceLT, Nat.reduceLeDiff, Nat.reduceEqDiff, Nat.reduceSub]
        refine ⟨fun _ => ?_, fun q => absurd q k112⟩
        simp only [vc_R_pairItem_150, qi_push, qi_pushl, qi_iload, qi_lload, qi_aload, qi_istore, qi_astore, qi_lstore, qi_iinc, qi_iadd, qi_isub, qi_imul, qi_iand, qi_ior, qi_ixor, qi_ishl, qi_ishr, qi_iushr, qi_idiv, qi_irem, qi_lor, qi_lmul, qi_ladd, qi_lsub, qi_land, qi_lshl, qi_lshr, qi_i2l, qi_l2i, qi_i2c, qi_lcmp, qi_dup, qi_dup2, qi_pop, qi_if_eq, qi_icmp_eq, qi_if_ne, qi_icmp_ne, qi_if_lt, qi_icmp_lt, qi_if_ge, qi_icmp_ge, qi_if_gt, qi_icmp_gt, qi_if_le, qi_icmp_le, qi_sw, qi_get, qi_put, qi_iald, qi_lald, qi_aald, qi_iast, qi_zast, qi_cast, qi_last, qi_aast, qi_alen, qi_new, qi_newa, qi_newq, qi_obj, qi_invS, qi_invV, qi_invI, qi_iret, qi_zret, qi_lret, qi_vret, qi_acopy, qi_max, qi_min, at_o, at_i, at_l, at_q, at_a, lget, lset, lclr, lnon, lnth, spl, shrt, rpush, true_and, and_true, List.set, List.length, Nat.reduceAdd, Nat.reduceLT, Nat.reduceLeDiff, Nat.reduceEqDiff, Nat.reduceSub, p0, p4, nI_add, v26, c26, q26]
        refine ⟨_, _, c_R_has h3 (show v.2.2.2.2.1 a < 2 ^ 31 by omega) (show b < 31 by omega), ?_⟩
        simp only [vc_R_pairItem_186, qi_push, qi_pushl, qi_iload, qi_lload, qi_aload, qi_istore, qi_astore, qi_lstore, qi_iinc, qi_iadd, qi_isub, qi_imul, qi_iand, qi_ior, qi_ixor, qi_ishl, qi_ishr, qi_iushr, qi_idiv, qi_irem, qi_lor, qi_lmul, qi_ladd, qi_lsub, qi_land, qi_lshl, qi_lshr, qi_i2l, qi_l2i, qi_i2c, qi_lcmp, qi_dup, qi_dup2, qi_pop, qi_if_eq, qi_icmp_eq, qi_if_ne, qi_icmp_ne, qi_if_lt, qi_icmp_lt, qi_if_ge, qi_icmp_ge, qi_if_gt, qi_icmp_gt, qi_if_le, qi_icmp_le, qi_sw, qi_get, qi_put, qi_iald, qi_lald, qi_aald, qi_iast, qi_zast, qi_cast, qi_last, qi_aast, qi_alen, qi_new, qi_newa, qi_newq, qi_obj, qi_invS, qi_invV, qi_invI, qi_iret, qi_zret, qi_lret, qi_vret, qi_acopy, qi_max, qi_min, at_o, at_i, at_l, at_q, at_a, lget, lset, lclr, lnon, lnth, spl, shrt, rpush, true_and, and_true, List.set, List.length, Nat.reduceAdd, Nat.reduceLT, Nat.reduceLeDiff, Nat.reduceEqDiff, Nat.reduceSub, p0, p4, nI_add, v38, c38, q38]
        refine ⟨fun q => k187 false ?_ _, fun q => ⟨_, _, c_R_has h3 (show v.2.2.2.2.2.1 a < 2 ^ 31 by omega) (show b < 31 by omega), ?_⟩⟩
        · cases z : may
          · rfl
          · exact absurd (Or.inl ((nb_ne0 _).mp q)) (hmay.mp z)
        · simp only [qi_push, qi_pushl, qi_iload, qi_lload, qi_aload, qi_istore, qi_astore, qi_lstore, qi_iinc, qi_iadd, qi_isub, qi_imul, qi_iand, qi_ior, qi_ixor, qi_ishl, qi_ishr, qi_iushr, qi_idiv, qi_irem, qi_lor, qi_lmul, qi_ladd, qi_lsub, qi_land, qi_lshl, qi_lshr, qi_i2l, qi_l2i, qi_i2c, qi_lcmp, qi_dup, qi_dup2, qi_pop, qi_if_eq, qi_icmp_eq, qi_if_ne, qi_icmp_ne, qi_if_lt, qi_icmp_lt, qi_if_ge, qi_icmp_ge, qi_if_gt, qi_icmp_gt, qi_if_le, qi_icmp_le, qi_sw, qi_get, qi_put, qi_iald, qi_lald, qi_aald, qi_iast, qi_zast, qi_cast, qi_last, qi_aast, qi_alen, qi_new, qi_newa, qi_newq, qi_obj, qi_invS, qi_invV, qi_invI, qi_iret, qi_zret, qi_lret, qi_vret, qi_acopy, qi_max, qi_min, at_o, at_i, at_l, at_q, at_a, lget, lset, lclr, lnon, lnth, spl, shrt, rpush, true_and, and_true, List.set, List.length, Nat.reduceAdd, Nat.reduceLT, Nat.reduceLeDiff, Nat.reduceEqDiff, Nat.reduceSub]
          refine ⟨fun q2 => k187 false ?_ _, fun q2 => k187 true ?_ _⟩
          · cases z : may
            · rfl
            · exact absurd (Or.inr ((nb_ne0 _).mp q2)) (hmay.mp z)
          · symm
            rw [hmay]
            rintro (z | z)
            · rw [(nb_eq0 _).mp q] at z; cases z
            · rw [(nb_eq0 _).mp q2] at z; cases z
      · rw [hmay, hit]
        constructor
        · intro q
          rw [if_neg q]
          exact ⟨x2, _, rfl⟩
        · rintro ⟨-, w, hw'⟩ q
          rw [if_pos q] at hw'; cases hw'
      · have nn := hmay.mp hm
        rw [hit, if_neg nn] at hw'
        cases hw'
        have ar : are = true := by rw [← hare, hm]; rfl
        rw [ar] at eQ5
        have nA : ¬ (v.2.2.2.2.1 a).testBit b = true := fun z => nn (Or.inl z)
        have nJ : ¬ (v.2.2.2.2.2.1 a).testBit b = true := fun z => nn (Or.inr z)
        rcases eat with ⟨z, z1, z2, z3⟩ | ⟨z, z1, z2, z3⟩
        · rw [decide_eq_true z, decide_eq_false (fun q => q z), prs_no hab nJ (fun q => nJ (hsJ b a q)), ← eQ5, z1, z2, z3]
          exact rdR_A hq a12 b12 hab
        · rw [decide_eq_false z, decide_eq_true (show ¬ X 1 x = 120 from z), prs_no hab nA (fun q => nA (hsA b a q)), ← eQ5, z1, z2, z3]
          exact rdR_J hq a12 b12 hab
  · refine ⟨h3, Q, x + 3, false, start (by rw [← eh3]; exact ⟨Nat.le_refl _, Nat.le_refl _⟩) (fun _ => ⟨rfl, rfl⟩) (fun z => absurd z cc), r3, f3, ⟨fun q => (by cases q), ?_⟩, fun q => (by cases q)⟩
    rintro ⟨q1, w, q2⟩
    exfalso
    unfold itP at q2
    have el1 : X 1 (x + 1) = l1 := by unfold ltr at e1; rw [if_pos (by omega)] at e1; exact e1
    have el2 : X 1 (x + 2) = l2 := by unfold ltr at e2; rw [if_pos q1] at e2; exact e2
    rw [el1, el2, if_neg cc] at q2
    cases q2
end MO
