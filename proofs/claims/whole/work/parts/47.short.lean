/-! STUDY: the shortest cycle. -/
/-- the Lines have measured the trial, nothing is fixed -/
def tri (h : hc_H) (ln N n : Nat) (T B A J : Nat → Nat) (G : Nat → Nat → Nat) : Prop := ∃ cc us F, isLn h ln N 0 (2 ^ n - 1) cc us F G ∧ lnG F G ∧ mP n T B A J F G ∧ F 2 = fun _ => 0
/-- a line of at most m stations by the cycle c -/
def linC (n : Nat) (T B A J : Nat → Nat) (m c : Nat) : Prop := ∃ k, k ≤ m ∧ lin n c T B A J k
section ST
variable {h : hc_H} {y p q z0 sl ln N me so bo lc bp bc n C : Nat} {st : Int32} {H K T B A J S : Nat → Nat} {G : Nat → Nat → Nat}
theorem c_Y_hasLineBy (hl : layY p q y z0) (hy : isY h y p q z0 sl ln N me so bo st lc bp bc H K) (ht : tri h ln N n T B A J G) (hN : 2 ^ n ≤ N) (hn : 1 ≤ n ∧ n ≤ 12) (hB : ∀ x, B x < 4096) {c m : Nat} (hc : c < 2000) (hm : m ≤ 12) :
    ∃ h' b, MA M_Y_hasLineBy [.ref y, .int (nI c), .int (nI m)] h (some (.int (nI (Bool.toNat b)))) h' ∧ tri h' ln N n T B A J G ∧ frm h h' ln 13 ∧ (b = true ↔ linC n T B A J m c) := by
  obtain ⟨b1, b2, b3⟩ := hy.le hl
  obtain ⟨cc, us, F, t1, t2, t3, t4⟩ := ht
  have hpn := Nat.two_pow_pos n
  obtain ⟨h1, c1, c2, c3⟩ := c_L_fit t1 b3 (by omega) t2.2.1 hc
  rw [show 2 ^ n - 1 + 1 = 2 ^ n by omega] at c2
  have hM : lnM n c T B A J (fitU F c (2 ^ n - 1)) (va_up F 7 (fitN F c (2 ^ n))) G := lnM_of t3
  have fN : ∀ s, fitN F c (2 ^ n) s ≤ 2000000 := fun s => by
    by_cases w : s < 2 ^ n
    · have := hM.2.1 s w
      rw [show va_up F 7 (fitN F c (2 ^ n)) 7 s = fitN F c (2 ^ n) s from rfl] at this
      rw [this]
      exact nd_le hB s
    · unfold fitN
      rw [if_neg (by omega), if_neg w]
      exact t2.2.1 7 s
  have hg := up_G t2 (show 7 ≤ 7 by omega) fN
  have e2 : va_up F 7 (fitN F c (2 ^ n)) 2 = fun _ => 0 := t4
  obtain ⟨h2, l, b, d1, d2, d3, d4, d5⟩ := m_hasLine c2 hM hg b3 hN hn hc (by rw [e2]; exact okF_free _) hm
  refine ⟨h2, b, MX.of (lv := [some (.ref y), some (.int (nI c)), some (.int (nI m))]) 0 rfl (by decide) (Nat.le_of_ble_eq_true rfl) (sn_Y_hasLineBy_0 _ _ _ ?_), ⟨_, _, _, d2, up_G hg (by omega) (fun s => Nat.le_trans (d4 s) (by omega)), t3, t4⟩, c3.trans (d3.mono (by omega) (by omega)), ?_⟩
  · have o1 := hy.1
    have o2 := t1.1
    have y1 := hy.keep c3 (by omega)
    have o3 := y1.1
    have o4 := c2.1
    simp only [vc_Y_hasLineBy_0, qi_push, qi_pushl, qi_iload, qi_lload, qi_aload, qi_istore, qi_astore, qi_lstore, qi_iinc, qi_iadd, qi_isub, qi_imul, qi_iand, qi_ior, qi_ixor, qi_ishl, qi_ishr, qi_iushr, qi_idiv, qi_irem, qi_lor, qi_lmul, qi_ladd, qi_lsub, qi_land, qi_lshl, qi_lshr, qi_i2l, qi_l2i, qi_i2c, qi_lcmp, qi_dup, qi_dup2, qi_pop, qi_if_eq, qi_icmp_eq, qi_if_ne, qi_icmp_ne, qi_if_lt, qi_icmp_lt, qi_if_ge, qi_icmp_ge, qi_if_gt, qi_icmp_gt, qi_if_le, qi_icmp_le, qi_sw, qi_get, qi_put, qi_iald, qi_lald, qi_aald, qi_iast, qi_zast, qi_cast, qi_last, qi_aast, qi_alen, qi_new, qi_newa, qi_newq, qi_obj, qi_invS, qi_invV, qi_invI, qi_iret, qi_zret, qi_lret, qi_vret, qi_acopy, qi_max, qi_min, at_o, at_i, at_l, at_q, at_a, lget, lset, lclr, lnon, lnth, spl, shrt, rpush, true_and, and_true, List.set, List.length, Nat.reduceAdd, Nat.reduceLT, Nat.reduceLeDiff, Nat.reduceEqDiff, Nat.reduceSub, o1, o2]
    refine ⟨_, _, c1, ?_⟩
    simp only [qi_push, qi_pushl, qi_iload, qi_lload, qi_aload, qi_istore, qi_astore, qi_lstore, qi_iinc, qi_iadd, qi_isub, qi_imul, qi_iand, qi_ior, qi_ixor, qi_ishl, qi_ishr, qi_iushr, qi_idiv, qi_irem, qi_lor, qi_lmul, qi_ladd, qi_lsub, qi_land, qi_lshl, qi_lshr, qi_i2l, qi_l2i, qi_i2c, qi_lcmp, qi_dup, qi_dup2, qi_pop, qi_if_eq, qi_icmp_eq, qi_if_ne, qi_icmp_ne, qi_if_lt, qi_icmp_lt, qi_if_ge, qi_icmp_ge, qi_if_gt, qi_icmp_gt, qi_if_le, qi_icmp_le, qi_sw, qi_get, qi_put, qi_iald, qi_lald, qi_aald, qi_iast, qi_zast, qi_cast, qi_last, qi_aast, qi_alen, qi_new, qi_newa, qi_newq, qi_obj, qi_invS, qi_invV, qi_invI, qi_iret, qi_zret, qi_lret, qi_vret, qi_acopy, qi_max, qi_min, at_o, at_i, at_l, at_q, at_a, lget, lset, lclr, lnon, lnth, spl, shrt, rpush, true_and, and_true, List.set, List.length, Nat.reduceAdd, Nat.reduceLT, Nat.reduceLeDiff, Nat.reduceEqDiff, Nat.reduceSub, o3, o4]
    refine ⟨_, _, d1, ?_⟩
    simp only [qi_push, qi_pushl, qi_iload, qi_lload, qi_aload, qi_istore, qi_astore, qi_lstore, qi_iinc, qi_iadd, qi_isub, qi_imul, qi_iand, qi_ior, qi_ixor, qi_ishl, qi_ishr, qi_iushr, qi_idiv, qi_irem, qi_lor, qi_lmul, qi_ladd, qi_lsub, qi_land, qi_lshl, qi_lshr, qi_i2l, qi_l2i, qi_i2c, qi_lcmp, qi_dup, qi_dup2, qi_pop, qi_if_eq, qi_icmp_eq, qi_if_ne, qi_icmp_ne, qi_if_lt, qi_icmp_lt, qi_if_ge, qi_icmp_ge, qi_if_gt, qi_icmp_gt, qi_if_le, qi_icmp_le, qi_sw, qi_get, qi_put, qi_iald, qi_lald, qi_aald, qi_iast, qi_zast, qi_cast, qi_last, qi_aast, qi_alen, qi_new, qi_newa, qi_newq, qi_obj, qi_invS, qi_invV, qi_invI, qi_iret, qi_zret, qi_lret, qi_vret, qi_acopy, qi_max, qi_min, at_o, at_i, at_l, at_q, at_a, lget, lset, lclr, lnon, lnth, spl, shrt, rpush, true_and, and_true, List.set, List.length, Nat.reduceAdd, Nat.reduceLT, Nat.reduceLeDiff, Nat.reduceEqDiff, Nat.reduceSub]
    exact nb_01 b
  · rw [d5, e2]
    unfold linC
    constructor
    · rintro ⟨k, k1, k2⟩; exact ⟨k, k1, (rch_c hM.ne (fun _ _ _ => rfl) k (by omega) _).mp k2⟩
    · rintro ⟨k, k1, k2⟩; exact ⟨k, k1, (rch_c hM.ne (fun _ _ _ => rfl) k (by omega) _).mpr k2⟩
theorem linC_mono (hn : n ≤ 12) {m c c' : Nat} (hc : c ≤ c') (h : linC n T B A J m c) : linC n T B A J m c' := by
  obtain ⟨k, k1, k2⟩ := h
  exact ⟨k, k1, rch_mono hn hc k2⟩
theorem linC_all (hn : n ≤ 12) {m c : Nat} (h : linC n T B A J m c) : linC n T B A J m (tsum T (2 ^ n - 1) n) := by
  obtain ⟨k, k1, k2⟩ := h
  exact ⟨k, k1, rch_all hn k2⟩
theorem linC_low (hn : n ≤ 12) {m c : Nat} (hm : 0 < m) (h : linC n T B A J m c) : max (mx T n) (ru (tsum T (2 ^ n - 1) n) m) ≤ c := by
  obtain ⟨k, k1, k2⟩ := h
  have h1 := rch_long hn k2
  have h2 : ru (tsum T (2 ^ n - 1) n) m ≤ c := by
    rw [ru_iff hm]
    have := rch_total hn k2
    have := Nat.mul_le_mul_right c k1
    rw [Nat.mul_comm c m]
    omega
  omega
theorem two_lt9 {g f : Nat} (hg : 1 ≤ g) (h : g * 2 ^ (f - 9) ≤ 720) : f ≤ 18 := by
  apply Nat.le_of_not_lt
  intro w
  have : 2 ^ 10 ≤ 2 ^ (f - 9) := Nat.pow_le_pow_right (by omega) (by omega)
  have := Nat.mul_le_mul_right (2 ^ (f - 9)) hg
  omega
theorem stride_ok {low high f g : Nat} (hg : g = min (low + 2 ^ f - 1) ((low + high) / 2)) (h1 : low < high) (h2 : (high - low) * 2 ^ (f - 9) ≤ 720) : (low ≤ g ∧ g < high) ∧ (high - (g + 1)) * 2 ^ (f + 1 - 9) ≤ 720 ∧ (g - low) * 2 ^ (f - 9) ≤ 720 := by
  have hp := Nat.two_pow_pos f
  have a1 : low ≤ g ∧ g < high := by omega
  refine ⟨a1, ?_, ?_⟩
  · by_cases w : f ≤ 8
    · rw [show f + 1 - 9 = 0 by omega, Nat.pow_zero, Nat.mul_one]
      rw [show f - 9 = 0 by omega, Nat.pow_zero, Nat.mul_one] at h2
      omega
    · have e1 : f + 1 - 9 = (f - 9) + 1 := by omega
      have p9 : 2 ^ 9 ≤ 2 ^ f := Nat.pow_le_pow_right (by omega) (by omega)
      have p0 := Nat.two_pow_pos (f - 9)
      have hh : high - low ≤ 720 := Nat.le_trans (Nat.le_mul_of_pos_right _ p0) h2
      have a2 : 2 * (high - (g + 1)) ≤ high - low := by omega
      rw [e1, Nat.pow_succ]
      calc (high - (g + 1)) * (2 ^ (f - 9) * 2) = (2 * (high - (g + 1))) * 2 ^ (f - 9) := by rw [Nat.mul_comm (2 ^ (f - 9)) 2, ← Nat.mul_assoc, Nat.mul_comm (high - (g + 1)) 2]
        _ ≤ (high - low) * 2 ^ (f - 9) := Nat.mul_le_mul_right _ a2
        _ ≤ 720 := h2
  · exact Nat.le_trans (Nat.mul_le_mul_right _ (by omega)) h2
set_option maxRecDepth 8000 in
theorem c_Y_shortestCycle (hl : layY p q y z0) (hS : SI h y p q z0 sl n C T B A J so bo st lc bp bc H K) {n2 : Nat} {c2 : Int32} {T2 B2 A2 J2 S2 : Nat → Nat} (hq : isPl h q n2 c2 T2 B2 A2 J2 S2) (hr : isPl h p n (nI C) T B A J S) (hw : pw n T B A J S) (hC : C < 1000) (hn : 1 ≤ n) {m : Nat} (hm : 1 ≤ m ∧ m ≤ 12) :
    ∃ h' r, MA M_Y_shortestCycle [.ref y, .int (nI m)] h (some (.int r)) h' ∧ SI h' y p q z0 sl n C T B A J so bo st lc bp bc H K ∧ frY h h' q y z0 ∧ isPl h' q n (nI C) T B A J S ∧ ((r = -4 ∧ ∀ c, ¬ linC n T B A J m c) ∨ ∃ c, r = nI c ∧ linC n T B A J m c ∧ ∀ c', c' < c → ¬ linC n T B A J m c') := by
  obtain ⟨l1, l2, l3⟩ := id hl
  have hn12 := hw.1
  obtain ⟨h1, c1, c2, c3⟩ := c_P_copy hq hr (by omega)
  have S1 := hS.keep hl c3 (by omega)
  obtain ⟨ln, N, me, hy, hm1, hm0⟩ := id S1
  obtain ⟨h2, ln', N', fx, us, F, G, d1, d2, d3, d4, d5, d6, d7⟩ := c_Y_measure hl hy hm0.S c2 hw hC (by omega)
  obtain ⟨b1, b2, b3⟩ := d2.le hl
  obtain ⟨h3, e1, e2, e3⟩ := c_L_freeAll d3
  have y3 := d2.keep e3 (by omega)
  have g3 : lnG (va_up F 2 (fun _ => 0)) G := by
    obtain ⟨g1, g2, g3, g4, g5⟩ := d4
    exact ⟨g1, up_le g2 (fun _ => Nat.zero_le _), g3, fun _ => by show 0 < 4096; omega, rfl⟩
  have t3 : tri h3 ln' N' n T B A J G := ⟨_, _, _, e2, g3, d5.1, rfl⟩
  have ht := tsum_small hw (2 ^ n - 1)
  obtain ⟨tot, etot⟩ : ∃ x, tsum T (2 ^ n - 1) n = x := ⟨_, rfl⟩
  have f3 : frY h h3 q y z0 := (c3.toY.trans d7.toY).trans (e3.toW (by omega)).toY
  have q3 : isPl h3 q n (nI C) T B A J S := (c2.keepW d7 (by omega) (by omega)).keep e3 (by omega)
  have fin : ∀ h' : hc_H, isY h' y p q z0 sl ln' N' 0 so bo st lc bp bc H K → tri h' ln' N' n T B A J G → SI h' y p q z0 sl n C T B A J so bo st lc bp bc H K := by
    rintro h' x1 ⟨cc, us, F, x2, x3, x4, x5⟩
    exact ⟨ln', N', 0, x1, Nat.zero_le _, _, _, _, _, _, _, x2, x3, fun z => absurd z (by decide)⟩
  have lowT : mx T n ≤ 60 := mx_le hw.2.1 n
  have lowR := ru_le (s := tot) (d := m) (by omega)
  obtain ⟨lo, elo⟩ : ∃ x, max (mx T n) (ru tot m) = x := ⟨_, rfl⟩
  have hmt : mx T n ≤ tot := by
    rw [mx_iff, ← etot]
    intro x hx
    exact tsum_mem (by rw [all_bit]; exact decide_eq_true hx) n hx
  have hlo : ∀ c, linC n T B A J m c → lo ≤ c := fun c hc => by
    have := linC_low hn12 (show 0 < m by omega) hc
    rw [etot, elo] at this
    exact this
  let Z : hc_H → Int32 → Prop := fun h' r => SI h' y p q z0 sl n C T B A J so bo st lc bp bc H K ∧ frY h h' q y z0 ∧ isPl h' q n (nI C) T B A J S ∧ ((r = -4 ∧ ∀ c, ¬ linC n T B A J m c) ∨ ∃ c, r = nI c ∧ linC n T B A J m c ∧ ∀ c', c' < c → ¬ linC n T B A J m c')
  have loop : ∀ k low high f, k ≤ 720 → low ≤ high → high ≤ 720 → high - low ≤ k → (high - low) * 2 ^ (f - 9) ≤ 720 → f ≤ 19 → linC n T B A J m high → (∀ c, c < low → ¬ linC n T B A J m c) → ∀ h4, isY h4 y p q z0 sl ln' N' 0 so bo st lc bp bc H K → tri h4 ln' N' n T B A J G → frY h h4 q y z0 → isPl h4 q n (nI C) T B A J S → ∃ h' r, Z h' r ∧ ∀ o6, cx hc_tt M_Y_shortestCycle h h' (some (.int r)) 74 [some (.ref y), some (.int (nI m)), some (.int (nI low)), some (.int (nI high)), some (.int (nI (2 ^ f))), some (.int (nI (720 - k))), o6] [] h4 := by
    intro k
    induction k with
    | zero =>
      intro low high f _ i1 i2 i3 i4 i5 i6 i7 h4 j1 j2 j3 j4
      have e : low = high := by omega
      refine ⟨h4, nI low, ⟨fin h4 j1 j2, j3, j4, Or.inr ⟨low, rfl, by rw [e]; exact i6, i7⟩⟩, fun o6 => sn_Y_shortestCycle_74 _ _ _ ?_⟩
      simp only [vc_Y_shortestCycle_74, vc_Y_shortestCycle_136, qi_push, qi_pushl, qi_iload, qi_lload, qi_aload, qi_istore, qi_astore, qi_lstore, qi_iinc, qi_iadd, qi_isub, qi_imul, qi_iand, qi_ior, qi_ixor, qi_ishl, qi_ishr, qi_iushr, qi_idiv, qi_irem, qi_lor, qi_lmul, qi_ladd, qi_lsub, qi_land, qi_lshl, qi_lshr, qi_i2l, qi_l2i, qi_i2c, qi_lcmp, qi_dup, qi_dup2, qi_pop, qi_if_eq, qi_icmp_eq, qi_if_ne, qi_icmp_ne, qi_if_lt, qi_icmp_lt, qi_if_ge, qi_icmp_ge, qi_if_gt, qi_icmp_gt, qi_if_le, qi_icmp_le, qi_sw, qi_get, qi_put, qi_iald, qi_lald, qi_aald, qi_iast, qi_zast, qi_cast, qi_last, qi_aast, qi_alen, qi_new, qi_newa, qi_newq, qi_obj, qi_invS, qi_invV, qi_invI, qi_iret, qi_zret, qi_lret, qi_vret, qi_acopy, qi_max, qi_min, at_o, at_i, at_l, at_q, at_a, lget, lset, lclr, lnon, lnth, spl, shrt, rpush, true_and, and_true, List.set, List.length, Nat.reduceAdd, Nat.reduceLT, Nat.reduceLeDiff, Nat.reduceEqDiff, Nat.reduceSub]
      exact ⟨fun _ => trivial, fun z => absurd (by decide) z⟩
    | succ k ih =>
      intro low high f hk i1 i2 i3 i4 i5 i6 i7 h4 j1 j2 j3 j4
      by_cases w : high ≤ low
      · have e : low = high := by omega
        refine ⟨h4, nI low, ⟨fin h4 j1 j2, j3, j4, Or.inr ⟨low, rfl, by rw [e]; exact i6, i7⟩⟩, fun o6 => sn_Y_shortestCycle_74 _ _ _ ?_⟩
        simp only [vc_Y_shortestCycle_74, vc_Y_shortestCycle_136, qi_push, qi_pushl, qi_iload, qi_lload, qi_aload, qi_istore, qi_astore, qi_lstore, qi_iinc, qi_iadd, qi_isub, qi_imul, qi_iand, qi_ior, qi_ixor, qi_ishl, qi_ishr, qi_iushr, qi_idiv, qi_irem, qi_lor, qi_lmul, qi_ladd, qi_lsub, qi_land, qi_lshl, qi_lshr, qi_i2l, qi_l2i, qi_i2c, qi_lcmp, qi_dup, qi_dup2, qi_pop, qi_if_eq, qi_icmp_eq, qi_if_ne, qi_icmp_ne, qi_if_lt, qi_icmp_lt, qi_if_ge, qi_icmp_ge, qi_if_gt, qi_icmp_gt, qi_if_le, qi_icmp_le, qi_sw, qi_get, qi_put, qi_iald, qi_lald, qi_aald, qi_iast, qi_zast, qi_cast, qi_last, qi_aast, qi_alen, qi_new, qi_newa, qi_newq, qi_obj, qi_invS, qi_invV, qi_invI, qi_iret, qi_zret, qi_lret, qi_vret, qi_acopy, qi_max, qi_min, at_o, at_i, at_l, at_q, at_a, lget, lset, lclr, lnon, lnth, spl, shrt, rpush, true_and, and_true, List.set, List.length, Nat.reduceAdd, Nat.reduceLT, Nat.reduceLeDiff, Nat.reduceEqDiff, Nat.reduceSub]
        exact ⟨fun _ => trivial, fun _ => ⟨fun _ => trivial, fun z => absurd (nI_le w (by omega)) z⟩⟩
      · obtain ⟨g, eg⟩ : ∃ x, min (low + 2 ^ f - 1) ((low + high) / 2) = x := ⟨_, rfl⟩
        obtain ⟨s1, s2, s3⟩ := stride_ok eg.symm (by omega) i4
        have f18 := two_lt9 (show 1 ≤ high - low by omega) i4
        have pf : 2 ^ f ≤ 2 ^ 19 := Nat.pow_le_pow_right (by omega) (by omega)
        have pf0 := Nat.two_pow_pos f
        obtain ⟨h5, b, x1, x2, x3, x4⟩ := c_Y_hasLineBy hl j1 j2 d6 ⟨hn, hn12⟩ hw.2.2.1 (show g < 2000 by omega) hm.2
        have y5 := j1.keep x3 (by omega)
        have f5 : frY h h5 q y z0 := j3.trans (x3.toW (by omega)).toY
        have q5 := j4.keep x3 (by omega)
        have o1 := j1.1
        have pre : ∀ h' r, (b = true → cx hc_tt M_Y_shortestCycle h h' (some (.int r)) 74 [some (.ref y), some (.int (nI m)), some (.int (nI low)), some (.int (nI g)), some (.int (nI (2 ^ f))), some (.int (nI (720 - k))), some (.int (nI g))] [] h5) → (b = false → cx hc_tt M_Y_shortestCycle h h' (some (.int r)) 74 [some (.ref y), some (.int (nI m)), some (.int (nI (g + 1))), some (.int (nI high)), some (.int (nI (2 ^ (f + 1)))), some (.int (nI (720 - k))), some (.int (nI g))] [] h5) → ∀ o6, cx hc_tt M_Y_shortestCycle h h' (some (.int r)) 74 [some (.ref y), some (.int (nI m)), some (.int (nI low)), some (.int (nI high)), some (.int (nI (2 ^ f))), some (.int (nI (720 - (k + 1)))), o6] [] h4 := by
          intro h' r k1 k2 o6
          refine sn_Y_shortestCycle_74 _ _ _ ?_
          simp only [vc_Y_shortestCycle_74, vc_Y_shortestCycle_119, vc_Y_shortestCycle_130, qi_push, qi_pushl, qi_iload, qi_lload, qi_aload, qi_istore, qi_astore, qi_lstore, qi_iinc, qi_iadd, qi_isub, qi_imul, qi_iand, qi_ior, qi_ixor, qi_ishl, qi_ishr, qi_iushr, qi_idiv, qi_irem, qi_lor, qi_lmul, qi_ladd, qi_lsub, qi_land, qi_lshl, qi_lshr, qi_i2l, qi_l2i, qi_i2c, qi_lcmp, qi_dup, qi_dup2, qi_pop, qi_if_eq, qi_icmp_eq, qi_if_ne, qi_icmp_ne, qi_if_lt, qi_icmp_lt, qi_if_ge, qi_icmp_ge, qi_if_gt, qi_icmp_gt, qi_if_le, qi_icmp_le, qi_sw, qi_get, qi_put, qi_iald, qi_lald, qi_aald, qi_iast, qi_zast, qi_cast, qi_last, qi_aast, qi_alen, qi_new, qi_newa, qi_newq, qi_obj, qi_invS, qi_invV, qi_invI, qi_iret, qi_zret, qi_lret, qi_vret, qi_acopy, qi_max, qi_min, at_o, at_i, at_l, at_q, at_a, lget, lset, lclr, lnon, lnth, spl, shrt, rpush, true_and, and_true, List.set, List.length, Nat.reduceAdd, Nat.reduceLT, Nat.reduceLeDiff, Nat.reduceEqDiff, Nat.reduceSub, o1]
          rw [nI_add, nI_add, pk_sub (by omega), pk_div (by omega) (by omega) (by omega), ni_min (by omega) (by omega), eg]
          refine ⟨fun z => absurd z (nI_ge (by omega) (by omega)), fun _ => ⟨fun z => absurd z (nI_ge (by omega) (by omega)), fun _ => ⟨by decide, _, _, x1, ?_⟩⟩⟩
          simp only [qi_push, qi_pushl, qi_iload, qi_lload, qi_aload, qi_istore, qi_astore, qi_lstore, qi_iinc, qi_iadd, qi_isub, qi_imul, qi_iand, qi_ior, qi_ixor, qi_ishl, qi_ishr, qi_iushr, qi_idiv, qi_irem, qi_lor, qi_lmul, qi_ladd, qi_lsub, qi_land, qi_lshl, qi_lshr, qi_i2l, qi_l2i, qi_i2c, qi_lcmp, qi_dup, qi_dup2, qi_pop, qi_if_eq, qi_icmp_eq, qi_if_ne, qi_icmp_ne, qi_if_lt, qi_icmp_lt, qi_if_ge, qi_icmp_ge, qi_if_gt, qi_icmp_gt, qi_if_le, qi_icmp_le, qi_sw, qi_get, qi_put, qi_iald, qi_lald, qi_aald, qi_iast, qi_zast, qi_cast, qi_last, qi_aast, qi_alen, qi_new, qi_newa, qi_newq, qi_obj, qi_invS, qi_invV, qi_invI, qi_iret, qi_zret, qi_lret, qi_vret, qi_acopy, qi_max, qi_min, at_o, at_i, at_l, at_q, at_a, lget, lset, lclr, lnon, lnth, spl, shrt, rpush, true_and, and_true, List.set, List.length, Nat.reduceAdd, Nat.reduceLT, Nat.reduceLeDiff, Nat.reduceEqDiff, Nat.reduceSub]
          rw [nb_eq0, nI_add, nI_add, pk_mul, ← Nat.pow_succ, show 720 - (k + 1) + 1 = 720 - k by omega]
          refine ⟨fun z => k2 z, fun z => k1 ?_⟩
          cases b
          · exact absurd rfl z
          · rfl
        cases hb : b
        · have nl : ¬ linC n T B A J m g := fun z => by rw [x4.mpr z] at hb; cases hb
          obtain ⟨h', r, z1, z2⟩ := ih (g + 1) high (f + 1) (by omega) (by omega) i2 (by omega) s2 (by omega) i6 (fun c hc z => nl (linC_mono hn12 (by omega) z)) h5 y5 x2 f5 q5
          exact ⟨h', r, z1, pre h' r (fun z => by rw [hb] at z; cases z) (fun _ => z2 _)⟩
        · have il : linC n T B A J m g := x4.mp hb
          obtain ⟨h', r, z1, z2⟩ := ih low g f (by omega) s1.1 (by omega) (by omega) s3 i5 il i7 h5 y5 x2 f5 q5
          exact ⟨h', r, z1, pre h' r (fun _ => z2 _) (fun z => by rw [hb] at z; cases z)⟩
  obtain ⟨h4, b, x1, x2, x3, x4⟩ := c_Y_hasLineBy hl y3 t3 d6 ⟨hn, hn12⟩ hw.2.2.1 (show tot < 2000 by omega) hm.2
  have y4 := y3.keep x3 (by omega)
  have f4 : frY h h4 q y z0 := f3.trans (x3.toW (by omega)).toY
  have q4 := q3.keep x3 (by omega)
  obtain ⟨ln0, N0, me0, hy0, -⟩ := id hS
  have o1 := hy0.1
  have o2 := hr.1
  have o3 := hy.1
  have o4 := hq.1
  have o5 := d2.1
  have o6 := y3.1
  have o7 := d3.1
  have pre : ∀ h' r, (b = true → cx hc_tt M_Y_shortestCycle h h' (some (.int r)) 74 [some (.ref y), some (.int (nI m)), some (.int (nI lo)), some (.int (nI tot)), some (.int (nI 1)), some (.int (nI 0)), none] [] h4) → (b = false → r = -4 ∧ h' = h4) → MA M_Y_shortestCycle [.ref y, .int (nI m)] h (some (.int r)) h' := by
    intro h' r k1 k2
    refine MX.of (lv := [some (.ref y), some (.int (nI m)), none, none, none, none, none]) 5 rfl (by decide) (Nat.le_of_ble_eq_true rfl) (sn_Y_shortestCycle_0 _ _ _ ?_)
    simp only [vc_Y_shortestCycle_0, vc_Y_shortestCycle_68, qi_push, qi_pushl, qi_iload, qi_lload, qi_aload, qi_istore, qi_astore, qi_lstore, qi_iinc, qi_iadd, qi_isub, qi_imul, qi_iand, qi_ior, qi_ixor, qi_ishl, qi_ishr, qi_iushr, qi_idiv, qi_irem, qi_lor, qi_lmul, qi_ladd, qi_lsub, qi_land, qi_lshl, qi_lshr, qi_i2l, qi_l2i, qi_i2c, qi_lcmp, qi_dup, qi_dup2, qi_pop, qi_if_eq, qi_icmp_eq, qi_if_ne, qi_icmp_ne, qi_if_lt, qi_icmp_lt, qi_if_ge, qi_icmp_ge, qi_if_gt, qi_icmp_gt, qi_if_le, qi_icmp_le, qi_sw, qi_get, qi_put, qi_iald, qi_lald, qi_aald, qi_iast, qi_zast, qi_cast, qi_last, qi_aast, qi_alen, qi_new, qi_newa, qi_newq, qi_obj, qi_invS, qi_invV, qi_invI, qi_iret, qi_zret, qi_lret, qi_vret, qi_acopy, qi_max, qi_min, at_o, at_i, at_l, at_q, at_a, lget, lset, lclr, lnon, lnth, spl, shrt, rpush, true_and, and_true, List.set, List.length, Nat.reduceAdd, Nat.reduceLT, Nat.reduceLeDiff, Nat.reduceEqDiff, Nat.reduceSub, o1, o2]
    refine ⟨_, _, c_P_longestTime hr hw, ?_⟩
    simp only [qi_push, qi_pushl, qi_iload, qi_lload, qi_aload, qi_istore, qi_astore, qi_lstore, qi_iinc, qi_iadd, qi_isub, qi_imul, qi_iand, qi_ior, qi_ixor, qi_ishl, qi_ishr, qi_iushr, qi_idiv, qi_irem, qi_lor, qi_lmul, qi_ladd, qi_lsub, qi_land, qi_lshl, qi_lshr, qi_i2l, qi_l2i, qi_i2c, qi_lcmp, qi_dup, qi_dup2, qi_pop, qi_if_eq, qi_icmp_eq, qi_if_ne, qi_icmp_ne, qi_if_lt, qi_icmp_lt, qi_if_ge, qi_icmp_ge, qi_if_gt, qi_icmp_gt, qi_if_le, qi_icmp_le, qi_sw, qi_get, qi_put, qi_iald, qi_lald, qi_aald, qi_iast, qi_zast, qi_cast, qi_last, qi_aast, qi_alen, qi_new, qi_newa, qi_newq, qi_obj, qi_invS, qi_invV, qi_invI, qi_iret, qi_zret, qi_lret, qi_vret, qi_acopy, qi_max, qi_min, at_o, at_i, at_l, at_q, at_a, lget, lset, lclr, lnon, lnth, spl, shrt, rpush, true_and, and_true, List.set, List.length, Nat.reduceAdd, Nat.reduceLT, Nat.reduceLeDiff, Nat.reduceEqDiff, Nat.reduceSub, o1, o2]
    refine ⟨_, _, c_P_total hr hn12, ?_⟩
    simp only [qi_push, qi_pushl, qi_iload, qi_lload, qi_aload, qi_istore, qi_astore, qi_lstore, qi_iinc, qi_iadd, qi_isub, qi_imul, qi_iand, qi_ior, qi_ixor, qi_ishl, qi_ishr, qi_iushr, qi_idiv, qi_irem, qi_lor, qi_lmul, qi_ladd, qi_lsub, qi_land, qi_lshl, qi_lshr, qi_i2l, qi_l2i, qi_i2c, qi_lcmp, qi_dup, qi_dup2, qi_pop, qi_if_eq, qi_icmp_eq, qi_if_ne, qi_icmp_ne, qi_if_lt, qi_icmp_lt, qi_if_ge, qi_icmp_ge, qi_if_gt, qi_icmp_gt, qi_if_le, qi_icmp_le, qi_sw, qi_get, qi_put, qi_iald, qi_lald, qi_aald, qi_iast, qi_zast, qi_cast, qi_last, qi_aast, qi_alen, qi_new, qi_newa, qi_newq, qi_obj, qi_invS, qi_invV, qi_invI, qi_iret, qi_zret, qi_lret, qi_vret, qi_acopy, qi_max, qi_min, at_o, at_i, at_l, at_q, at_a, lget, lset, lclr, lnon, lnth, spl, shrt, rpush, true_and, and_true, List.set, List.length, Nat.reduceAdd, Nat.reduceLT, Nat.reduceLeDiff, Nat.reduceEqDiff, Nat.reduceSub]
    rw [etot]
    refine ⟨_, _, c_P_roundedUp (by omega) (by omega) (by omega), ?_⟩
    simp only [qi_push, qi_pushl, qi_iload, qi_lload, qi_aload, qi_istore, qi_astore, qi_lstore, qi_iinc, qi_iadd, qi_isub, qi_imul, qi_iand, qi_ior, qi_ixor, qi_ishl, qi_ishr, qi_iushr, qi_idiv, qi_irem, qi_lor, qi_lmul, qi_ladd, qi_lsub, qi_land, qi_lshl, qi_lshr, qi_i2l, qi_l2i, qi_i2c, qi_lcmp, qi_dup, qi_dup2, qi_pop, qi_if_eq, qi_icmp_eq, qi_if_ne, qi_icmp_ne, qi_if_lt, qi_icmp_lt, qi_if_ge, qi_icmp_ge, qi_if_gt, qi_icmp_gt, qi_if_le, qi_icmp_le, qi_sw, qi_get, qi_put, qi_iald, qi_lald, qi_aald, qi_iast, qi_zast, qi_cast, qi_last, qi_aast, qi_alen, qi_new, qi_newa, qi_newq, qi_obj, qi_invS, qi_invV, qi_invI, qi_iret, qi_zret, qi_lret, qi_vret, qi_acopy, qi_max, qi_min, at_o, at_i, at_l, at_q, at_a, lget, lset, lclr, lnon, lnth, spl, shrt, rpush, true_and, and_true, List.set, List.length, Nat.reduceAdd, Nat.reduceLT, Nat.reduceLeDiff, Nat.reduceEqDiff, Nat.reduceSub, o1, o2]
    rw [ni_max (by omega) (by omega), elo]
    refine ⟨_, _, c_P_total hr hn12, ?_⟩
    simp only [qi_push, qi_pushl, qi_iload, qi_lload, qi_aload, qi_istore, qi_astore, qi_lstore, qi_iinc, qi_iadd, qi_isub, qi_imul, qi_iand, qi_ior, qi_ixor, qi_ishl, qi_ishr, qi_iushr, qi_idiv, qi_irem, qi_lor, qi_lmul, qi_ladd, qi_lsub, qi_land, qi_lshl, qi_lshr, qi_i2l, qi_l2i, qi_i2c, qi_lcmp, qi_dup, qi_dup2, qi_pop, qi_if_eq, qi_icmp_eq, qi_if_ne, qi_icmp_ne, qi_if_lt, qi_icmp_lt, qi_if_ge, qi_icmp_ge, qi_if_gt, qi_icmp_gt, qi_if_le, qi_icmp_le, qi_sw, qi_get, qi_put, qi_iald, qi_lald, qi_aald, qi_iast, qi_zast, qi_cast, qi_last, qi_aast, qi_alen, qi_new, qi_newa, qi_newq, qi_obj, qi_invS, qi_invV, qi_invI, qi_iret, qi_zret, qi_lret, qi_vret, qi_acopy, qi_max, qi_min, at_o, at_i, at_l, at_q, at_a, lget, lset, lclr, lnon, lnth, spl, shrt, rpush, true_and, and_true, List.set, List.length, Nat.reduceAdd, Nat.reduceLT, Nat.reduceLeDiff, Nat.reduceEqDiff, Nat.reduceSub, o1, o4]
    rw [etot]
    refine ⟨_, _, c1, ?_⟩
    simp only [qi_push, qi_pushl, qi_iload, qi_lload, qi_aload, qi_istore, qi_astore, qi_lstore, qi_iinc, qi_iadd, qi_isub, qi_imul, qi_iand, qi_ior, qi_ixor, qi_ishl, qi_ishr, qi_iushr, qi_idiv, qi_irem, qi_lor, qi_lmul, qi_ladd, qi_lsub, qi_land, qi_lshl, qi_lshr, qi_i2l, qi_l2i, qi_i2c, qi_lcmp, qi_dup, qi_dup2, qi_pop, qi_if_eq, qi_icmp_eq, qi_if_ne, qi_icmp_ne, qi_if_lt, qi_icmp_lt, qi_if_ge, qi_icmp_ge, qi_if_gt, qi_icmp_gt, qi_if_le, qi_icmp_le, qi_sw, qi_get, qi_put, qi_iald, qi_lald, qi_aald, qi_iast, qi_zast, qi_cast, qi_last, qi_aast, qi_alen, qi_new, qi_newa, qi_newq, qi_obj, qi_invS, qi_invV, qi_invI, qi_iret, qi_zret, qi_lret, qi_vret, qi_acopy, qi_max, qi_min, at_o, at_i, at_l, at_q, at_a, lget, lset, lclr, lnon, lnth, spl, shrt, rpush, true_and, and_true, List.set, List.length, Nat.reduceAdd, Nat.reduceLT, Nat.reduceLeDiff, Nat.reduceEqDiff, Nat.reduceSub, o3]
    refine ⟨_, _, d1, ?_⟩
    simp only [qi_push, qi_pushl, qi_iload, qi_lload, qi_aload, qi_istore, qi_astore, qi_lstore, qi_iinc, qi_iadd, qi_isub, qi_imul, qi_iand, qi_ior, qi_ixor, qi_ishl, qi_ishr, qi_iushr, qi_idiv, qi_irem, qi_lor, qi_lmul, qi_ladd, qi_lsub, qi_land, qi_lshl, qi_lshr, qi_i2l, qi_l2i, qi_i2c, qi_lcmp, qi_dup, qi_dup2, qi_pop, qi_if_eq, qi_icmp_eq, qi_if_ne, qi_icmp_ne, qi_if_lt, qi_icmp_lt, qi_if_ge, qi_icmp_ge, qi_if_gt, qi_icmp_gt, qi_if_le, qi_icmp_le, qi_sw, qi_get, qi_put, qi_iald, qi_lald, qi_aald, qi_iast, qi_zast, qi_cast, qi_last, qi_aast, qi_alen, qi_new, qi_newa, qi_newq, qi_obj, qi_invS, qi_invV, qi_invI, qi_iret, qi_zret, qi_lret, qi_vret, qi_acopy, qi_max, qi_min, at_o, at_i, at_l, at_q, at_a, lget, lset, lclr, lnon, lnth, spl, shrt, rpush, true_and, and_true, List.set, List.length, Nat.reduceAdd, Nat.reduceLT, Nat.reduceLeDiff, Nat.reduceEqDiff, Nat.reduceSub, o5, o7]
    refine ⟨_, _, e1, ?_⟩
    simp only [qi_push, qi_pushl, qi_iload, qi_lload, qi_aload, qi_istore, qi_astore, qi_lstore, qi_iinc, qi_iadd, qi_isub, qi_imul, qi_iand, qi_ior, qi_ixor, qi_ishl, qi_ishr, qi_iushr, qi_idiv, qi_irem, qi_lor, qi_lmul, qi_ladd, qi_lsub, qi_land, qi_lshl, qi_lshr, qi_i2l, qi_l2i, qi_i2c, qi_lcmp, qi_dup, qi_dup2, qi_pop, qi_if_eq, qi_icmp_eq, qi_if_ne, qi_icmp_ne, qi_if_lt, qi_icmp_lt, qi_if_ge, qi_icmp_ge, qi_if_gt, qi_icmp_gt, qi_if_le, qi_icmp_le, qi_sw, qi_get, qi_put, qi_iald, qi_lald, qi_aald, qi_iast, qi_zast, qi_cast, qi_last, qi_aast, qi_alen, qi_new, qi_newa, qi_newq, qi_obj, qi_invS, qi_invV, qi_invI, qi_iret, qi_zret, qi_lret, qi_vret, qi_acopy, qi_max, qi_min, at_o, at_i, at_l, at_q, at_a, lget, lset, lclr, lnon, lnth, spl, shrt, rpush, true_and, and_true, List.set, List.length, Nat.reduceAdd, Nat.reduceLT, Nat.reduceLeDiff, Nat.reduceEqDiff, Nat.reduceSub, o6]
    refine ⟨_, _, x1, ?_⟩
    simp only [qi_push, qi_pushl, qi_iload, qi_lload, qi_aload, qi_istore, qi_astore, qi_lstore, qi_iinc, qi_iadd, qi_isub, qi_imul, qi_iand, qi_ior, qi_ixor, qi_ishl, qi_ishr, qi_iushr, qi_idiv, qi_irem, qi_lor, qi_lmul, qi_ladd, qi_lsub, qi_land, qi_lshl, qi_lshr, qi_i2l, qi_l2i, qi_i2c, qi_lcmp, qi_dup, qi_dup2, qi_pop, qi_if_eq, qi_icmp_eq, qi_if_ne, qi_icmp_ne, qi_if_lt, qi_icmp_lt, qi_if_ge, qi_icmp_ge, qi_if_gt, qi_icmp_gt, qi_if_le, qi_icmp_le, qi_sw, qi_get, qi_put, qi_iald, qi_lald, qi_aald, qi_iast, qi_zast, qi_cast, qi_last, qi_aast, qi_alen, qi_new, qi_newa, qi_newq, qi_obj, qi_invS, qi_invV, qi_invI, qi_iret, qi_zret, qi_lret, qi_vret, qi_acopy, qi_max, qi_min, at_o, at_i, at_l, at_q, at_a, lget, lset, lclr, lnon, lnth, spl, shrt, rpush, true_and, and_true, List.set, List.length, Nat.reduceAdd, Nat.reduceLT, Nat.reduceLeDiff, Nat.reduceEqDiff, Nat.reduceSub]
    rw [nb_eq0]
    refine ⟨fun z => k1 ?_, fun z => ?_⟩
    · cases b
      · exact absurd rfl z
      · rfl
    · obtain ⟨k3, k4⟩ := k2 z
      rw [k3, k4]
      exact ⟨rfl, rfl⟩
  cases hb : b
  · refine ⟨h4, -4, pre h4 (-4) (fun z => by rw [hb] at z; cases z) (fun _ => ⟨rfl, rfl⟩), fin h4 y4 x2, f4, q4, Or.inl ⟨rfl, fun c hc => ?_⟩⟩
    have := linC_all hn12 hc
    rw [etot] at this
    rw [x4.mpr this] at hb
    cases hb
  · have il := x4.mp hb
    obtain ⟨h', r, z1, z2⟩ := loop 720 lo tot 0 (Nat.le_refl _) (by omega) (by omega) (by omega) (by rw [show 0 - 9 = 0 from rfl, Nat.pow_zero]; omega) (by omega) il (fun c hc z => absurd (hlo c z) (by omega)) h4 y4 x2 f4 q4
    exact ⟨h', r, pre h' r (fun _ => z2 _) (fun z => by rw [hb] at z; cases z), z1⟩
end ST
