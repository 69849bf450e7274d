/-! THE MODEL: the best line, where a task may be, adopting. -/
abbrev dgt (bp t : Nat) : Nat := bp / 2 ^ (4 * (11 - t)) % 16
theorem dgt_lt (bp t : Nat) : dgt bp t < 16 := Nat.mod_lt _ (by omega)
/-- bp is the least code of all lines -/
def isMc (n K : Nat) (ne : Nat → Nat) (bp : Nat) : Prop := (∃ D, bln (2 ^ n - 1) ne K D ∧ bp = cdf n D K 0) ∧ ∀ D, bln (2 ^ n - 1) ne K D → bp ≤ cdf n D K 0
section GR
variable {n K bp : Nat} {ne : Nat → Nat}
theorem mc_dgt (hn : n ≤ 12) (hK : K ≤ 12) {D : Nat → Nat} (h : bln (2 ^ n - 1) ne K D) {x : Nat} (hx : x < n) : ∃ i, i < K ∧ (sdf (D (i + 1)) (D i)).testBit x = true ∧ dgt (cdf n D K 0) x = i + 1 := by
  obtain ⟨i, i1, i2⟩ := bln_st h (x := x) (by rw [all_bit]; exact decide_eq_true hx)
  exact ⟨i, i1, i2, cdf_dig hn hK h i1 hx i2⟩
theorem mc_pos (hn : n ≤ 12) (hK : K ≤ 12) (h : isMc n K ne bp) {x : Nat} (hx : x < n) : 1 ≤ dgt bp x ∧ dgt bp x ≤ 12 := by
  obtain ⟨⟨D, d1, rfl⟩, -⟩ := h
  obtain ⟨i, i1, -, i3⟩ := mc_dgt hn hK d1 hx
  omega
theorem mc_csn (hn : n ≤ 12) (hK : K ≤ 12) {D : Nat → Nat} (h : bln (2 ^ n - 1) ne K D) {t : Nat} {f : Nat → Nat} (ht : t ≤ n) : csn n K (2 ^ t - 1) f D ↔ ∀ x, x < t → f x = dgt (cdf n D K 0) x := by
  constructor
  · intro hc x hx
    obtain ⟨i, i1, i2, i3⟩ := mc_dgt hn hK h (show x < n by omega)
    rw [i3]
    exact (hc x (by omega) (by rw [all_bit]; exact decide_eq_true hx) i i1).mp i2
  · intro hf x hx hF i hi
    rw [all_bit, decide_eq_true_eq] at hF
    obtain ⟨j, j1, j2, j3⟩ := mc_dgt hn hK h hx
    rw [hf x hF, j3]
    constructor
    · intro q
      have := bln_uniq h hi j1 q j2
      omega
    · intro q
      rw [show i = j by omega]; exact j2
/-- task by task -/
theorem mc_next (hn : n ≤ 12) (hK : K ≤ 12) (h : isMc n K ne bp) {t b : Nat} {f : Nat → Nat} (ht : t < n) (hf : ∀ x, x < t → f x = dgt bp x) (hb : ∀ k, b.testBit k = true ↔ ∃ D i, bln (2 ^ n - 1) ne K D ∧ csn n K (2 ^ t - 1) f D ∧ i < K ∧ k = i + 1 ∧ (sdf (D (i + 1)) (D i)).testBit t = true) : b.testBit (dgt bp t) = true ∧ ∀ k, k < dgt bp t → ¬ b.testBit k = true := by
  obtain ⟨⟨D, d1, d2⟩, h2⟩ := h
  constructor
  · obtain ⟨i, i1, i2, i3⟩ := mc_dgt hn hK d1 ht
    rw [hb]
    exact ⟨D, i, d1, (mc_csn hn hK d1 (by omega)).mpr (fun x hx => by rw [hf x hx, d2]), i1, by rw [d2]; exact i3, i2⟩
  · intro k hk hbk
    obtain ⟨D', i, e1, e2, e3, rfl, e5⟩ := (hb k).mp hbk
    have dg := cdf_dig hn hK e1 e3 ht e5
    have cs := (mc_csn hn hK e1 (by omega)).mp e2
    have := dig_least (t := t) (cdf_lt (D := D') hn K 0 (by omega)) (by rw [d2]; exact cdf_lt (D := D) hn K 0 (by omega)) (by omega) (h2 D' e1) (fun x hx => by
      have := cs x hx
      rw [hf x hx] at this
      exact this.symm)
    have : dgt bp t ≤ i + 1 := by
      show bp / 2 ^ (4 * (11 - t)) % 16 ≤ i + 1
      rw [← dg]; exact this
    omega
end GR
theorem few_K {n c K r : Nat} {T B A J : Nat → Nat} (h : rOk n (2 ^ n - 1) (nd n c T B A J) 0 r) (hK : isK (2 ^ n - 1) (nd n c T B A J) K) : r = K := by
  rcases h with ⟨-, q⟩ | ⟨-, q2, q3⟩
  · exact absurd hK.1 (q K)
  · have := hK.2 r q2
    have := q3 K hK.1
    omega
theorem few_no {n c r : Nat} {T B A J : Nat → Nat} (h : rOk n (2 ^ n - 1) (nd n c T B A J) 0 r) (hno : ∀ k, k ≤ n → ¬ lin n c T B A J k) : r = 100 := by
  rcases h with ⟨q, -⟩ | ⟨q1, q2, -⟩
  · exact q
  · rw [cn_0] at q1
    exact absurd (lin_go.mpr q2) (hno r (by omega))
theorem all_up (t : Nat) : (2 ^ t - 1) ||| 2 ^ t = 2 ^ (t + 1) - 1 := by
  apply tb_ext
  intro i
  rw [bit_or, all_bit, all_bit, Nat.testBit_two_pow, decide_eq_true_eq, decide_eq_true_eq, decide_eq_true_eq]
  omega
section MO
variable {h : hc_H} {m len um sp fs n C : Nat} {X : Nat → Nat → Nat} {Q : Nat → Int32} {T B A J S : Nat → Nat}
theorem c_R_fixAll (hr : isR h m len um sp fs X Q) (h0 : X 2 0 = n) (hn1 : 1 ≤ n) (hn : n ≤ 12) (hB : ∀ x, B x < 4096) (hg : frP n C T B A J X) {K bp : Nat} (hiK : isK (2 ^ n - 1) (nd n C T B A J) K) (hK12 : K ≤ 12) (hK : X 7 0 = K) (hf : ∀ x, x < 12 → X 11 x ≤ 12) (hb : isMc n K (nd n C T B A J) bp) : ∃ h' X', MA M_R_fixAll [.ref m] h none h' ∧ isR h' m len um sp (2 ^ n - 1) X' Q ∧ (∀ j, ¬ j = 9 → ¬ j = 10 → ¬ j = 11 → X' j = X j) ∧ frm h h' m 12 ∧ (∀ x, x < 12 → X' 11 x ≤ 12) ∧ ∀ x, x < n → X' 11 x = dgt bp x := by
  have l12 := pow_12 hn
  have w0 : vp_in (nI 0) 62 := vp_in_nI (by omega) (by omega)
  have lqF := lp_up (P := fun t => ∀ h2 X2, isR h2 m len um sp (2 ^ t - 1) X2 Q → (∀ j, ¬ j = 9 → ¬ j = 10 → ¬ j = 11 → X2 j = X j) → frm h h2 m 12 → (∀ x, x < 12 → X2 11 x ≤ 12) → (∀ x, x < t → X2 11 x = dgt bp x) → ∃ h' X', (∀ o2 o3, cx hc_tt M_R_fixAll h h' none 7 [some (.ref m), some (.int (nI t)), o2, o3] [] h2) ∧ isR h' m len um sp (2 ^ n - 1) X' Q ∧ (∀ j, ¬ j = 9 → ¬ j = 10 → ¬ j = 11 → X' j = X j) ∧ frm h h' m 12 ∧ (∀ x, x < 12 → X' 11 x ≤ 12) ∧ ∀ x, x < n → X' 11 x = dgt bp x) (n := n)
    (by
      intro h2 X2 r2 q2 f2 u2 g2
      refine ⟨h2, X2, fun o2 o3 => sn_R_fixAll_7 _ _ _ ?_, r2, q2, f2, u2, g2⟩
      have p0 := r2.1
      have p2 := r2.2.2.1
      have x0 : X2 2 0 = n := by rw [q2 2 (by omega) (by omega) (by omega)]; exact h0
      simp only [vc_R_fixAll_7, vc_R_fixAll_64, qi_push, qi_pushl, qi_iload, qi_lload, qi_aload, qi_istore, qi_astore, qi_lstore, qi_iinc, qi_iadd, qi_isub, qi_imul, qi_iand, qi_ior, qi_ixor, qi_ishl, qi_ishr, qi_iushr, qi_idiv, qi_irem, qi_lor, qi_lmul, qi_ladd, qi_lsub, qi_land, qi_lshl, qi_lshr, qi_i2l, qi_l2i, qi_i2c, qi_lcmp, qi_dup, qi_dup2, qi_pop, qi_if_eq, qi_icmp_eq, qi_if_ne, qi_icmp_ne, qi_if_lt, qi_icmp_lt, qi_if_ge, qi_icmp_ge, qi_if_gt, qi_icmp_gt, qi_if_le, qi_icmp_le, qi_sw, qi_get, qi_put, qi_iald, qi_lald, qi_aald, qi_iast, qi_zast, qi_cast, qi_last, qi_aast, qi_alen, qi_new, qi_newa, qi_newq, qi_obj, qi_invS, qi_invV, qi_invI, qi_iret, qi_zret, qi_lret, qi_vret, qi_acopy, qi_max, qi_min, at_o, at_i, at_l, at_q, at_a, lget, lset, lclr, lnon, lnth, spl, shrt, rpush, true_and, and_true, List.set, List.length, Nat.reduceAdd, Nat.reduceLT, Nat.reduceLeDiff, Nat.reduceEqDiff, Nat.reduceSub, p0, p2, r0, x0, w0]
      exact ⟨fun _ => (by first | trivial | exact ⟨rfl, rfl⟩), fun c => absurd (nI_le (Nat.le_refl _) (by omega)) c⟩)
    (fun t ht ih h2 X2 r2 q2 f2 u2 g2 => by
      have x0 : X2 2 0 = n := by rw [q2 2 (by omega) (by omega) (by omega)]; exact h0
      have fg : frP n C T B A J X2 := ⟨fun x hx => by rw [q2 5 (by omega) (by omega) (by omega), q2 6 (by omega) (by omega) (by omega)]; exact hg.1 x hx, fun d hd => by rw [q2 7 (by omega) (by omega) (by omega)]; exact hg.2 d hd⟩
      have pt : 2 ^ t - 1 < 4096 := by
        have : 2 ^ t ≤ 2 ^ n := Nat.pow_le_pow_right (by omega) (by omega)
        have := Nat.two_pow_pos t
        omega
      obtain ⟨h3, X3, b, a1, a2, a3, a4, a5, a6⟩ := c_R_stationsOf r2 x0 hn1 hn hB fg hiK hK12 (by rw [q2 7 (by omega) (by omega) (by omega)]; exact hK) u2 pt (t := t) (by omega)
      obtain ⟨m1, m2⟩ := mc_next hn hK12 hb ht g2 a6
      have dp := mc_pos hn hK12 hb ht
      obtain ⟨g, eg⟩ : ∃ z, dgt bp t = z := ⟨_, rfl⟩
      rw [eg] at m1 m2 dp
      have x11 : X3 11 = X2 11 := a3 11 (by omega) (by omega)
      have r4 := (a2.set11 (f := va_up (X3 11) t g)).setO (len' := len) (um' := um) (sp' := sp) (fs' := 2 ^ (t + 1) - 1)
      obtain ⟨h', X', z1, z2⟩ := ih _ _ r4 (fun j j9 j10 j11 => by rw [up_ne j11, a3 j j9 j10]; exact q2 j j9 j10 j11) (((f2.trans a4).set (by omega)).set (by omega)) (fun x hx => by
        show va_up (X3 11) t g x ≤ 12
        by_cases e : x = t
        · rw [e, up_eq]; omega
        · rw [up_ne e, x11]; exact u2 x hx) (fun x hx => by
        show va_up (X3 11) t g x = dgt bp x
        by_cases e : x = t
        · rw [e, up_eq, eg]
        · rw [up_ne e, x11]; exact g2 x (by omega))
      refine ⟨h', X', fun o2 o3 => sn_R_fixAll_7 _ _ _ ?_, z2⟩
      have p0 := r2.1
      have p2 := r2.2.2.1
      have s0 := a2.1
      have s11 := a2.2.2.2.2.2.2.2.2.2.2.2
      have vt : vp_in (nI t) 12 := vp_in_nI (by omega) (by omega)
      have ct : (nI t).toNatClampNeg = t := nI_clamp (by omega)
      have lqW : ∀ k, k ≤ g → 1 ≤ k → cx hc_tt M_R_fixAll h h' none 25 [some (.ref m), some (.int (nI t)), some (.int (nI b)), some (.int (nI k))] [] h3 := by
        refine lp_up (n := g) (P := fun k => 1 ≤ k → cx hc_tt M_R_fixAll h h' none 25 [some (.ref m), some (.int (nI t)), some (.int (nI b)), some (.int (nI k))] [] h3) (fun _ => ?_) (fun k hk ihk hk1 => ?_)
        · refine sn_R_fixAll_25 _ _ _ ?_
          simp only [vc_R_fixAll_25, qi_push, qi_pushl, qi_iload, qi_lload, qi_aload, qi_istore, qi_astore, qi_lstore, qi_iinc, qi_iadd, qi_isub, qi_imul, qi_iand, qi_ior, qi_ixor, qi_ishl, qi_ishr, qi_iushr, qi_idiv, qi_irem, qi_lor, qi_lmul, qi_ladd, qi_lsub, qi_land, qi_lshl, qi_lshr, qi_i2l, qi_l2i, qi_i2c, qi_lcmp, qi_dup, qi_dup2, qi_pop, qi_if_eq, qi_icmp_eq, qi_if_ne, qi_icmp_ne, qi_if_lt, qi_icmp_lt, qi_if_ge, qi_icmp_ge, qi_if_gt, qi_icmp_gt, qi_if_le, qi_icmp_le, qi_sw, qi_get, qi_put, qi_iald, qi_lald, qi_aald, qi_iast, qi_zast, qi_cast, qi_last, qi_aast, qi_alen, qi_new, qi_newa, qi_newq, qi_obj, qi_invS, qi_invV, qi_invI, qi_iret, qi_zret, qi_lret, qi_vret, qi_acopy, qi_max, qi_min, at_o, at_i, at_l, at_q, at_a, lget, lset, lclr, lnon, lnth, spl, shrt, rpush, true_and, and_true, List.set, List.length, Nat.reduceAdd, Nat.reduceLT, Nat.reduceLeDiff, Nat.reduceEqDiff, Nat.reduceSub]
          refine ⟨_, _, c_R_has h3 (show b < 2 ^ 31 by omega) (show g < 31 by omega), ?_⟩
          rw [m1]
          have sn : (hc_set h3 (m + 11) (.inl (0, 12, .inl (fun j => nI (va_up (X3 11) t g j))))).1 m = some (rfO m len um sp (2 ^ t - 1)) := (a2.set11 (f := va_up (X3 11) t g)).1
          simp only [vc_R_fixAll_39, qi_push, qi_pushl, qi_iload, qi_lload, qi_aload, qi_istore, qi_astore, qi_lstore, qi_iinc, qi_iadd, qi_isub, qi_imul, qi_iand, qi_ior, qi_ixor, qi_ishl, qi_ishr, qi_iushr, qi_idiv, qi_irem, qi_lor, qi_lmul, qi_ladd, qi_lsub, qi_land, qi_lshl, qi_lshr, qi_i2l, qi_l2i, qi_i2c, qi_lcmp, qi_dup, qi_dup2, qi_pop, qi_if_eq, qi_icmp_eq, qi_if_ne, qi_icmp_ne, qi_if_lt, qi_icmp_lt, qi_if_ge, qi_icmp_ge, qi_if_gt, qi_icmp_gt, qi_if_le, qi_icmp_le, qi_sw, qi_get, qi_put, qi_iald, qi_lald, qi_aald, qi_iast, qi_zast, qi_cast, qi_last, qi_aast, qi_alen, qi_new, qi_newa, qi_newq, qi_obj, qi_invS, qi_invV, qi_invI, qi_iret, qi_zret, qi_lret, qi_vret, qi_acopy, qi_max, qi_min, at_o, at_i, at_l, at_q, at_a, lget, lset, lclr, lnon, lnth, spl, shrt, rpush, true_and, and_true, List.set, List.length, Nat.reduceAdd, Nat.reduceLT, Nat.reduceLeDiff, Nat.reduceEqDiff, Nat.reduceSub, s0, s11, vt, ct]
          rw [upd_nI]
          simp only [qi_push, qi_pushl, qi_iload, qi_lload, qi_aload, qi_istore, qi_astore, qi_lstore, qi_iinc, qi_iadd, qi_isub, qi_imul, qi_iand, qi_ior, qi_ixor, qi_ishl, qi_ishr, qi_iushr, qi_idiv, qi_irem, qi_lor, qi_lmul, qi_ladd, qi_lsub, qi_land, qi_lshl, qi_lshr, qi_i2l, qi_l2i, qi_i2c, qi_lcmp, qi_dup, qi_dup2, qi_pop, qi_if_eq, qi_icmp_eq, qi_if_ne, qi_icmp_ne, qi_if_lt, qi_icmp_lt, qi_if_ge, qi_icmp_ge, qi_if_gt, qi_icmp_gt, qi_if_le, qi_icmp_le, qi_sw, qi_get, qi_put, qi_iald, qi_lald, qi_aald, qi_iast, qi_zast, qi_cast, qi_last, qi_aast, qi_alen, qi_new, qi_newa, qi_newq, qi_obj, qi_invS, qi_invV, qi_invI, qi_iret, qi_zret, qi_lret, qi_vret, qi_acopy, qi_max, qi_min, at_o, at_i, at_l, at_q, at_a, lget, lset, lclr, lnon, lnth, spl, shrt, rpush, true_and, and_true, List.set, List.length, Nat.reduceAdd, Nat.reduceLT, Nat.reduceLeDiff, Nat.reduceEqDiff, Nat.reduceSub, nI_add, sn]
          rw [ni_1shl (by omega), ni_or, all_up]
          exact ⟨fun _ => ⟨hc_fit_i, z1 _ _⟩, fun q => absurd q c10⟩
        · refine sn_R_fixAll_25 _ _ _ ?_
          simp only [vc_R_fixAll_25, qi_push, qi_pushl, qi_iload, qi_lload, qi_aload, qi_istore, qi_astore, qi_lstore, qi_iinc, qi_iadd, qi_isub, qi_imul, qi_iand, qi_ior, qi_ixor, qi_ishl, qi_ishr, qi_iushr, qi_idiv, qi_irem, qi_lor, qi_lmul, qi_ladd, qi_lsub, qi_land, qi_lshl, qi_lshr, qi_i2l, qi_l2i, qi_i2c, qi_lcmp, qi_dup, qi_dup2, qi_pop, qi_if_eq, qi_icmp_eq, qi_if_ne, qi_icmp_ne, qi_if_lt, qi_icmp_lt, qi_if_ge, qi_icmp_ge, qi_if_gt, qi_icmp_gt, qi_if_le, qi_icmp_le, qi_sw, qi_get, qi_put, qi_iald, qi_lald, qi_aald, qi_iast, qi_zast, qi_cast, qi_last, qi_aast, qi_alen, qi_new, qi_newa, qi_newq, qi_obj, qi_invS, qi_invV, qi_invI, qi_iret, qi_zret, qi_lret, qi_vret, qi_acopy, qi_max, qi_min, at_o, at_i, at_l, at_q, at_a, lget, lset, lclr, lnon, lnth, spl, shrt, rpush, true_and, and_true, List.set, List.length, Nat.reduceAdd, Nat.reduceLT, Nat.reduceLeDiff, Nat.reduceEqDiff, Nat.reduceSub]
          refine ⟨_, _, c_R_has h3 (show b < 2 ^ 31 by omega) (show k < 31 by omega), ?_⟩
          have e0 : b.testBit k = false := by
            cases z : b.testBit k
            · rfl
            · exact absurd z (m2 k hk)
          rw [e0]
          simp only [qi_push, qi_pushl, qi_iload, qi_lload, qi_aload, qi_istore, qi_astore, qi_lstore, qi_iinc, qi_iadd, qi_isub, qi_imul, qi_iand, qi_ior, qi_ixor, qi_ishl, qi_ishr, qi_iushr, qi_idiv, qi_irem, qi_lor, qi_lmul, qi_ladd, qi_lsub, qi_land, qi_lshl, qi_lshr, qi_i2l, qi_l2i, qi_i2c, qi_lcmp, qi_dup, qi_dup2, qi_pop, qi_if_eq, qi_icmp_eq, qi_if_ne, qi_icmp_ne, qi_if_lt, qi_icmp_lt, qi_if_ge, qi_icmp_ge, qi_if_gt, qi_icmp_gt, qi_if_le, qi_icmp_le, qi_sw, qi_get, qi_put, qi_iald, qi_lald, qi_aald, qi_iast, qi_zast, qi_cast, qi_last, qi_aast, qi_alen, qi_new, qi_newa, qi_newq, qi_obj, qi_invS, qi_invV, qi_invI, qi_iret, qi_zret, qi_lret, qi_vret, qi_acopy, qi_max, qi_min, at_o, at_i, at_l, at_q, at_a, lget, lset, lclr, lnon, lnth, spl, shrt, rpush, true_and, and_true, List.set, List.length, Nat.reduceAdd, Nat.reduceLT, Nat.reduceLeDiff, Nat.reduceEqDiff, Nat.reduceSub, nI_add]
          exact ⟨fun q => absurd rfl q, fun _ => ihk (by omega)⟩
      simp only [vc_R_fixAll_7, qi_push, qi_pushl, qi_iload, qi_lload, qi_aload, qi_istore, qi_astore, qi_lstore, qi_iinc, qi_iadd, qi_isub, qi_imul, qi_iand, qi_ior, qi_ixor, qi_ishl, qi_ishr, qi_iushr, qi_idiv, qi_irem, qi_lor, qi_lmul, qi_ladd, qi_lsub, qi_land, qi_lshl, qi_lshr, qi_i2l, qi_l2i, qi_i2c, qi_lcmp, qi_dup, qi_dup2, qi_pop, qi_if_eq, qi_icmp_eq, qi_if_ne, qi_icmp_ne, qi_if_lt, qi_icmp_lt, qi_if_ge, qi_icmp_ge, qi_if_gt, qi_icmp_gt, qi_if_le, qi_icmp_le, qi_sw, qi_get, qi_put, qi_iald, qi_lald, qi_aald, qi_iast, qi_zast, qi_cast, qi_last, qi_aast, qi_alen, qi_new, qi_newa, qi_newq, qi_obj, qi_invS, qi_invV, qi_invI, qi_iret, qi_zret, qi_lret, qi_vret, qi_acopy, qi_max, qi_min, at_o, at_i, at_l, at_q, at_a, lget, lset, lclr, lnon, lnth, spl, shrt, rpush, true_and, and_true, List.set, List.length, Nat.reduceAdd, Nat.reduceLT, Nat.reduceLeDiff, Nat.reduceEqDiff, Nat.reduceSub, p0, p2, r0, x0, w0]
      refine ⟨fun c => absurd c (nI_ge ht (by omega)), fun _ => ⟨_, _, a1, ?_⟩⟩
      simp only [qi_push, qi_pushl, qi_iload, qi_lload, qi_aload, qi_istore, qi_astore, qi_lstore, qi_iinc, qi_iadd, qi_isub, qi_imul, qi_iand, qi_ior, qi_ixor, qi_ishl, qi_ishr, qi_iushr, qi_idiv, qi_irem, qi_lor, qi_lmul, qi_ladd, qi_lsub, qi_land, qi_lshl, qi_lshr, qi_i2l, qi_l2i, qi_i2c, qi_lcmp, qi_dup, qi_dup2, qi_pop, qi_if_eq, qi_icmp_eq, qi_if_ne, qi_icmp_ne, qi_if_lt, qi_icmp_lt, qi_if_ge, qi_icmp_ge, qi_if_gt, qi_icmp_gt, qi_if_le, qi_icmp_le, qi_sw, qi_get, qi_put, qi_iald, qi_lald, qi_aald, qi_iast, qi_zast, qi_cast, qi_last, qi_aast, qi_alen, qi_new, qi_newa, qi_newq, qi_obj, qi_invS, qi_invV, qi_invI, qi_iret, qi_zret, qi_lret, qi_vret, qi_acopy, qi_max, qi_min, at_o, at_i, at_l, at_q, at_a, lget, lset, lclr, lnon, lnth, spl, shrt, rpush, true_and, and_true, List.set, List.length, Nat.reduceAdd, Nat.reduceLT, Nat.reduceLeDiff, Nat.reduceEqDiff, Nat.reduceSub]
      exact lqW 1 dp.1 (Nat.le_refl _))
  have r1' := hr.setO (len' := len) (um' := um) (sp' := sp) (fs' := 2 ^ 0 - 1)
  obtain ⟨h', X', z1, z2⟩ := lqF 0 (Nat.zero_le _) _ X r1' (fun _ _ _ _ => rfl) (frm.rfl'.set (by omega)) hf (fun x hx => by omega)
  refine ⟨h', X', MX.of (lv := [some (.ref m), none, none, none]) 3 rfl (by decide) (Nat.le_of_ble_eq_true rfl) (sn_R_fixAll_0 _ _ _ ?_), z2⟩
  have o0 := hr.1
  simp only [vc_R_fixAll_0, qi_push, qi_pushl, qi_iload, qi_lload, qi_aload, qi_istore, qi_astore, qi_lstore, qi_iinc, qi_iadd, qi_isub, qi_imul, qi_iand, qi_ior, qi_ixor, qi_ishl, qi_ishr, qi_iushr, qi_idiv, qi_irem, qi_lor, qi_lmul, qi_ladd, qi_lsub, qi_land, qi_lshl, qi_lshr, qi_i2l, qi_l2i, qi_i2c, qi_lcmp, qi_dup, qi_dup2, qi_pop, qi_if_eq, qi_icmp_eq, qi_if_ne, qi_icmp_ne, qi_if_lt, qi_icmp_lt, qi_if_ge, qi_icmp_ge, qi_if_gt, qi_icmp_gt, qi_if_le, qi_icmp_le, qi_sw, qi_get, qi_put, qi_iald, qi_lald, qi_aald, qi_iast, qi_zast, qi_cast, qi_last, qi_aast, qi_alen, qi_new, qi_newa, qi_newq, qi_obj, qi_invS, qi_invV, qi_invI, qi_iret, qi_zret, qi_lret, qi_vret, qi_acopy, qi_max, qi_min, at_o, at_i, at_l, at_q, at_a, lget, lset, lclr, lnon, lnth, spl, shrt, rpush, true_and, and_true, List.set, List.length, Nat.reduceAdd, Nat.reduceLT, Nat.reduceLeDiff, Nat.reduceEqDiff, Nat.reduceSub, o0]
  exact ⟨hc_fit_i, z1 _ _⟩
theorem c_R_best_bad (hr : isR h m len um sp fs X Q) (h0 : X 2 0 = n) (hn : 1 ≤ n ∧ n ≤ 12) {t : Int32} (hx : ¬ (0 ≤ t ∧ t < nI n)) : MA M_R_best [.ref m, .int t] h (some (.int (-1))) h := by
  have o0 := hr.1
  refine MX.of (lv := [some (.ref m), some (.int t)]) 0 rfl (by decide) (Nat.le_of_ble_eq_true rfl) (sn_R_best_0 _ _ _ ?_)
  simp only [vc_R_best_0, qi_push, qi_pushl, qi_iload, qi_lload, qi_aload, qi_istore, qi_astore, qi_lstore, qi_iinc, qi_iadd, qi_isub, qi_imul, qi_iand, qi_ior, qi_ixor, qi_ishl, qi_ishr, qi_iushr, qi_idiv, qi_irem, qi_lor, qi_lmul, qi_ladd, qi_lsub, qi_land, qi_lshl, qi_lshr, qi_i2l, qi_l2i, qi_i2c, qi_lcmp, qi_dup, qi_dup2, qi_pop, qi_if_eq, qi_icmp_eq, qi_if_ne, qi_icmp_ne, qi_if_lt, qi_icmp_lt, qi_if_ge, qi_icmp_ge, qi_if_gt, qi_icmp_gt, qi_if_le, qi_icmp_le, qi_sw, qi_get, qi_put, qi_iald, qi_lald, qi_aald, qi_iast, qi_zast, qi_cast, qi_last, qi_aast, qi_alen, qi_new, qi_newa, qi_newq, qi_obj, qi_invS, qi_invV, qi_invI, qi_iret, qi_zret, qi_lret, qi_vret, qi_acopy, qi_max, qi_min, at_o, at_i, at_l, at_q, at_a, lget, lset, lclr, lnon, lnth, spl, shrt, rpush, true_and, and_true, List.set, List.length, Nat.reduceAdd, Nat.reduceLT, Nat.reduceLeDiff, Nat.reduceEqDiff, Nat.reduceSub, o0]
  refine ⟨_, _, c_R_isTask hr h0 hn t, ?_⟩
  rw [dF hx]
  simp only [qi_push, qi_pushl, qi_iload, qi_lload, qi_aload, qi_istore, qi_astore, qi_lstore, qi_iinc, qi_iadd, qi_isub, qi_imul, qi_iand, qi_ior, qi_ixor, qi_ishl, qi_ishr, qi_iushr, qi_idiv, qi_irem, qi_lor, qi_lmul, qi_ladd, qi_lsub, qi_land, qi_lshl, qi_lshr, qi_i2l, qi_l2i, qi_i2c, qi_lcmp, qi_dup, qi_dup2, qi_pop, qi_if_eq, qi_icmp_eq, qi_if_ne, qi_icmp_ne, qi_if_lt, qi_icmp_lt, qi_if_ge, qi_icmp_ge, qi_if_gt, qi_icmp_gt, qi_if_le, qi_icmp_le, qi_sw, qi_get, qi_put, qi_iald, qi_lald, qi_aald, qi_iast, qi_zast, qi_cast, qi_last, qi_aast, qi_alen, qi_new, qi_newa, qi_newq, qi_obj, qi_invS, qi_invV, qi_invI, qi_iret, qi_zret, qi_lret, qi_vret, qi_acopy, qi_max, qi_min, at_o, at_i, at_l, at_q, at_a, lget, lset, lclr, lnon, lnth, spl, shrt, rpush, true_and, and_true, List.set, List.length, Nat.reduceAdd, Nat.reduceLT, Nat.reduceLeDiff, Nat.reduceEqDiff, Nat.reduceSub]
  exact ⟨fun c => absurd rfl c, fun _ => (by first | trivial | exact ⟨rfl, rfl⟩)⟩
theorem c_R_may_bad (hr : isR h m len um sp fs X Q) (h0 : X 2 0 = n) (hn : 1 ≤ n ∧ n ≤ 12) {t : Int32} (hx : ¬ (0 ≤ t ∧ t < nI n)) : MA M_R_may [.ref m, .int t] h (some (.int (-1))) h := by
  have o0 := hr.1
  refine MX.of (lv := [some (.ref m), some (.int t)]) 0 rfl (by decide) (Nat.le_of_ble_eq_true rfl) (sn_R_may_0 _ _ _ ?_)
  simp only [vc_R_may_0, qi_push, qi_pushl, qi_iload, qi_lload, qi_aload, qi_istore, qi_astore, qi_lstore, qi_iinc, qi_iadd, qi_isub, qi_imul, qi_iand, qi_ior, qi_ixor, qi_ishl, qi_ishr, qi_iushr, qi_idiv, qi_irem, qi_lor, qi_lmul, qi_ladd, qi_lsub, qi_land, qi_lshl, qi_lshr, qi_i2l, qi_l2i, qi_i2c, qi_lcmp, qi_dup, qi_dup2, qi_pop, qi_if_eq, qi_icmp_eq, qi_if_ne, qi_icmp_ne, qi_if_lt, qi_icmp_lt, qi_if_ge, qi_icmp_ge, qi_if_gt, qi_icmp_gt, qi_if_le, qi_icmp_le, qi_sw, qi_get, qi_put, qi_iald, qi_lald, qi_aald, qi_iast, qi_zast, qi_cast, qi_last, qi_aast, qi_alen, qi_new, qi_newa, qi_newq, qi_obj, qi_invS, qi_invV, qi_invI, qi_iret, qi_zret, qi_lret, qi_vret, qi_acopy, qi_max, qi_min, at_o, at_i, at_l, at_q, at_a, lget, lset, lclr, lnon, lnth, spl, shrt, rpush, true_and, and_true, List.set, List.length, Nat.reduceAdd, Nat.reduceLT, Nat.reduceLeDiff, Nat.reduceEqDiff, Nat.reduceSub, o0]
  refine ⟨_, _, c_R_isTask hr h0 hn t, ?_⟩
  rw [dF hx]
  simp only [qi_push, qi_pushl, qi_iload, qi_lload, qi_aload, qi_istore, qi_astore, qi_lstore, qi_iinc, qi_iadd, qi_isub, qi_imul, qi_iand, qi_ior, qi_ixor, qi_ishl, qi_ishr, qi_iushr, qi_idiv, qi_irem, qi_lor, qi_lmul, qi_ladd, qi_lsub, qi_land, qi_lshl, qi_lshr, qi_i2l, qi_l2i, qi_i2c, qi_lcmp, qi_dup, qi_dup2, qi_pop, qi_if_eq, qi_icmp_eq, qi_if_ne, qi_icmp_ne, qi_if_lt, qi_icmp_lt, qi_if_ge, qi_icmp_ge, qi_if_gt, qi_icmp_gt, qi_if_le, qi_icmp_le, qi_sw, qi_get, qi_put, qi_iald, qi_lald, qi_aald, qi_iast, qi_zast, qi_cast, qi_last, qi_aast, qi_alen, qi_new, qi_newa, qi_newq, qi_obj, qi_invS, qi_invV, qi_invI, qi_iret, qi_zret, qi_lret, qi_vret, qi_acopy, qi_max, qi_min, at_o, at_i, at_l, at_q, at_a, lget, lset, lclr, lnon, lnth, spl, shrt, rpush, true_and, and_true, List.set, List.length, Nat.reduceAdd, Nat.reduceLT, Nat.reduceLeDiff, Nat.reduceEqDiff, Nat.reduceSub]
  exact ⟨fun c => absurd rfl c, fun _ => (by first | trivial | exact ⟨rfl, rfl⟩)⟩
/-- up to the question whether there is a line -/
theorem R_fewest (hr : isR h m len um sp fs X Q) (hX : X 2 = rowP n C T B A J S) (hw : pw n T B A J S) (hn1 : 1 ≤ n) (hC : C ≤ 120) : ∃ h' X', isR h' m len um sp fs X' Q ∧ (∀ j, ¬ j = 5 → ¬ j = 6 → ¬ j = 7 → X' j = X j) ∧ frP n C T B A J X' ∧ frm h h' m 12 ∧ ((∀ k, k ≤ n → ¬ lin n C T B A J k) → MA M_R_fewest [.ref m] h (some (.int (-4))) h') ∧ ∀ K, K ≤ 12 → isK (2 ^ n - 1) (nd n C T B A J) K → MA M_R_fewest [.ref m] h (some (.int (nI K))) h' ∧ X' 7 0 = K := by
  obtain ⟨h1, X1, a1, a2, a3, a4, a5⟩ := c_R_fewest hr hX hw hn1 hC
  refine ⟨h1, X1, a2, a3, a4, a5, fun hno => ?_, fun K hK hiK => ?_⟩
  · rw [if_pos (few_no (a4.2 0 (Nat.zero_le _)) hno)] at a1; exact a1
  · have e := few_K (a4.2 0 (Nat.zero_le _)) hiK
    rw [if_neg (by omega), e] at a1
    exact ⟨a1, e⟩
theorem nK_4 {K : Nat} (h : K ≤ 12) : ¬ nI K = -4 := by
  intro q
  have := congrArg Int32.toInt q
  rw [nI_toInt (by omega)] at this
  have e : (-4 : Int32).toInt = -4 := by decide
  rw [e] at this
  omega
theorem c_R_best_no (hr : isR h m len um sp fs X Q) (hX : X 2 = rowP n C T B A J S) (hw : pw n T B A J S) (hC : C ≤ 120) {t : Nat} (ht : t < n) (hno : ∀ k, k ≤ n → ¬ lin n C T B A J k) : ∃ h' X', MA M_R_best [.ref m, .int (nI t)] h (some (.int (-4))) h' ∧ isR h' m len um sp fs X' Q ∧ (∀ j, ¬ j = 5 → ¬ j = 6 → ¬ j = 7 → X' j = X j) ∧ frm h h' m 12 := by
  have h0 : X 2 0 = n := by rw [hX]; rfl
  obtain ⟨h1, X1, a2, a3, -, a5, a6, -⟩ := R_fewest hr hX hw (by omega) hC
  refine ⟨h1, X1, ?_, a2, a3, a5⟩
  have o0 := hr.1
  refine MX.of (lv := [some (.ref m), some (.int (nI t))]) 0 rfl (by decide) (Nat.le_of_ble_eq_true rfl) (sn_R_best_0 _ _ _ ?_)
  simp only [vc_R_best_0, vc_R_best_10, qi_push, qi_pushl, qi_iload, qi_lload, qi_aload, qi_istore, qi_astore, qi_lstore, qi_iinc, qi_iadd, qi_isub, qi_imul, qi_iand, qi_ior, qi_ixor, qi_ishl, qi_ishr, qi_iushr, qi_idiv, qi_irem, qi_lor, qi_lmul, qi_ladd, qi_lsub, qi_land, qi_lshl, qi_lshr, qi_i2l, qi_l2i, qi_i2c, qi_lcmp, qi_dup, qi_dup2, qi_pop, qi_if_eq, qi_icmp_eq, qi_if_ne, qi_icmp_ne, qi_if_lt, qi_icmp_lt, qi_if_ge, qi_icmp_ge, qi_if_gt, qi_icmp_gt, qi_if_le, qi_icmp_le, qi_sw, qi_get, qi_put, qi_iald, qi_lald, qi_aald, qi_iast, qi_zast, qi_cast, qi_last, qi_aast, qi_alen, qi_new, qi_newa, qi_newq, qi_obj, qi_invS, qi_invV, qi_invI, qi_iret, qi_zret, qi_lret, qi_vret, qi_acopy, qi_max, qi_min, at_o, at_i, at_l, at_q, at_a, lget, lset, lclr, lnon, lnth, spl, shrt, rpush, true_and, and_true, List.set, List.length, Nat.reduceAdd, Nat.reduceLT, Nat.reduceLeDiff, Nat.reduceEqDiff, Nat.reduceSub, o0]
  refine ⟨_, _, c_R_isTask hr h0 ⟨by omega, hw.1⟩ (nI t), ?_⟩
  rw [dT (has_i hw.1 ht)]
  simp only [qi_push, qi_pushl, qi_iload, qi_lload, qi_aload, qi_istore, qi_astore, qi_lstore, qi_iinc, qi_iadd, qi_isub, qi_imul, qi_iand, qi_ior, qi_ixor, qi_ishl, qi_ishr, qi_iushr, qi_idiv, qi_irem, qi_lor, qi_lmul, qi_ladd, qi_lsub, qi_land, qi_lshl, qi_lshr, qi_i2l, qi_l2i, qi_i2c, qi_lcmp, qi_dup, qi_dup2, qi_pop, qi_if_eq, qi_icmp_eq, qi_if_ne, qi_icmp_ne, qi_if_lt, qi_icmp_lt, qi_if_ge, qi_icmp_ge, qi_if_gt, qi_icmp_gt, qi_if_le, qi_icmp_le, qi_sw, qi_get, qi_put, qi_iald, qi_lald, qi_aald, qi_iast, qi_zast, qi_cast, qi_last, qi_aast, qi_alen, qi_new, qi_newa, qi_newq, qi_obj, qi_invS, qi_invV, qi_invI, qi_iret, qi_zret, qi_lret, qi_vret, qi_acopy, qi_max, qi_min, at_o, at_i, at_l, at_q, at_a, lget, lset, lclr, lnon, lnth, spl, shrt, rpush, true_and, and_true, List.set, List.length, Nat.reduceAdd, Nat.reduceLT, Nat.reduceLeDiff, Nat.reduceEqDiff, Nat.reduceSub, o0]
  refine ⟨fun _ => ⟨_, _, a6 hno, ?_⟩, fun c => absurd c c10⟩
  simp only [qi_push, qi_pushl, qi_iload, qi_lload, qi_aload, qi_istore, qi_astore, qi_lstore, qi_iinc, qi_iadd, qi_isub, qi_imul, qi_iand, qi_ior, qi_ixor, qi_ishl, qi_ishr, qi_iushr, qi_idiv, qi_irem, qi_lor, qi_lmul, qi_ladd, qi_lsub, qi_land, qi_lshl, qi_lshr, qi_i2l, qi_l2i, qi_i2c, qi_lcmp, qi_dup, qi_dup2, qi_pop, qi_if_eq, qi_icmp_eq, qi_if_ne, qi_icmp_ne, qi_if_lt, qi_icmp_lt, qi_if_ge, qi_icmp_ge, qi_if_gt, qi_icmp_gt, qi_if_le, qi_icmp_le, qi_sw, qi_get, qi_put, qi_iald, qi_lald, qi_aald, qi_iast, qi_zast, qi_cast, qi_last, qi_aast, qi_alen, qi_new, qi_newa, qi_newq, qi_obj, qi_invS, qi_invV, qi_invI, qi_iret, qi_zret, qi_lret, qi_vret, qi_acopy, qi_max, qi_min, at_o, at_i, at_l, at_q, at_a, lget, lset, lclr, lnon, lnth, spl, shrt, rpush, true_and, and_true, List.set, List.length, Nat.reduceAdd, Nat.reduceLT, Nat.reduceLeDiff, Nat.reduceEqDiff, Nat.reduceSub]
  exact ⟨fun q => absurd (by first | trivial | rfl) q, fun _ => (by first | trivial | exact ⟨rfl, rfl⟩)⟩
theorem c_R_may_no (hr : isR h m len um sp fs X Q) (hX : X 2 = rowP n C T B A J S) (hw : pw n T B A J S) (hC : C ≤ 120) {t : Nat} (ht : t < n) (hno : ∀ k, k ≤ n → ¬ lin n C T B A J k) : ∃ h' X', MA M_R_may [.ref m, .int (nI t)] h (some (.int (-4))) h' ∧ isR h' m len um sp fs X' Q ∧ (∀ j, ¬ j = 5 → ¬ j = 6 → ¬ j = 7 → X' j = X j) ∧ frm h h' m 12 := by
  have h0 : X 2 0 = n := by rw [hX]; rfl
  obtain ⟨h1, X1, a2, a3, -, a5, a6, -⟩ := R_fewest hr hX hw (by omega) hC
  refine ⟨h1, X1, ?_, a2, a3, a5⟩
  have o0 := hr.1
  refine MX.of (lv := [some (.ref m), some (.int (nI t))]) 0 rfl (by decide) (Nat.le_of_ble_eq_true rfl) (sn_R_may_0 _ _ _ ?_)
  simp only [vc_R_may_0, vc_R_may_10, qi_push, qi_pushl, qi_iload, qi_lload, qi_aload, qi_istore, qi_astore, qi_lstore, qi_iinc, qi_iadd, qi_isub, qi_imul, qi_iand, qi_ior, qi_ixor, qi_ishl, qi_ishr, qi_iushr, qi_idiv, qi_irem, qi_lor, qi_lmul, qi_ladd, qi_lsub, qi_land, qi_lshl, qi_lshr, qi_i2l, qi_l2i, qi_i2c, qi_lcmp, qi_dup, qi_dup2, qi_pop, qi_if_eq, qi_icmp_eq, qi_if_ne, qi_icmp_ne, qi_if_lt, qi_icmp_lt, qi_if_ge, qi_icmp_ge, qi_if_gt, qi_icmp_gt, qi_if_le, qi_icmp_le, qi_sw, qi_get, qi_put, qi_iald, qi_lald, qi_aald, qi_iast, qi_zast, qi_cast, qi_last, qi_aast, qi_alen, qi_new, qi_newa, qi_newq, qi_obj, qi_invS, qi_invV, qi_invI, qi_iret, qi_zret, qi_lret, qi_vret, qi_acopy, qi_max, qi_min, at_o, at_i, at_l, at_q, at_a, lget, lset, lclr, lnon, lnth, spl, shrt, rpush, true_and, and_true, List.set, List.length, Nat.reduceAdd, Nat.reduceLT, Nat.reduceLeDiff, Nat.reduceEqDiff, Nat.reduceSub, o0]
  refine ⟨_, _, c_R_isTask hr h0 ⟨by omega, hw.1⟩ (nI t), ?_⟩
  rw [dT (has_i hw.1 ht)]
  simp only [qi_push, qi_pushl, qi_iload, qi_lload, qi_aload, qi_istore, qi_astore, qi_lstore, qi_iinc, qi_iadd, qi_isub, qi_imul, qi_iand, qi_ior, qi_ixor, qi_ishl, qi_ishr, qi_iushr, qi_idiv, qi_irem, qi_lor, qi_lmul, qi_ladd, qi_lsub, qi_land, qi_lshl, qi_lshr, qi_i2l, qi_l2i, qi_i2c, qi_lcmp, qi_dup, qi_dup2, qi_pop, qi_if_eq, qi_icmp_eq, qi_if_ne, qi_icmp_ne, qi_if_lt, qi_icmp_lt, qi_if_ge, qi_icmp_ge, qi_if_gt, qi_icmp_gt, qi_if_le, qi_icmp_le, qi_sw, qi_get, qi_put, qi_iald, qi_lald, qi_aald, qi_iast, qi_zast, qi_cast, qi_last, qi_aast, qi_alen, qi_new, qi_newa, qi_newq, qi_obj, qi_invS, qi_invV, qi_invI, qi_iret, qi_zret, qi_lret, qi_vret, qi_acopy, qi_max, qi_min, at_o, at_i, at_l, at_q, at_a, lget, lset, lclr, lnon, lnth, spl, shrt, rpush, true_and, and_true, List.set, List.length, Nat.reduceAdd, Nat.reduceLT, Nat.reduceLeDiff, Nat.reduceEqDiff, Nat.reduceSub, o0]
  refine ⟨fun _ => ⟨_, _, a6 hno, ?_⟩, fun c => absurd c c10⟩
  simp only [qi_push, qi_pushl, qi_iload, qi_lload, qi_aload, qi_istore, qi_astore, qi_lstore, qi_iinc, qi_iadd, qi_isub, qi_imul, qi_iand, qi_ior, qi_ixor, qi_ishl, qi_ishr, qi_iushr, qi_idiv, qi_irem, qi_lor, qi_lmul, qi_ladd, qi_lsub, qi_land, qi_lshl, qi_lshr, qi_i2l, qi_l2i, qi_i2c, qi_lcmp, qi_dup, qi_dup2, qi_pop, qi_if_eq, qi_icmp_eq, qi_if_ne, qi_icmp_ne, qi_if_lt, qi_icmp_lt, qi_if_ge, qi_icmp_ge, qi_if_gt, qi_icmp_gt, qi_if_le, qi_icmp_le, qi_sw, qi_get, qi_put, qi_iald, qi_lald, qi_aald, qi_iast, qi_zast, qi_cast, qi_last, qi_aast, qi_alen, qi_new, qi_newa, qi_newq, qi_obj, qi_invS, qi_invV, qi_invI, qi_iret, qi_zret, qi_lret, qi_vret, qi_acopy, qi_max, qi_min, at_o, at_i, at_l, at_q, at_a, lget, lset, lclr, lnon, lnth, spl, shrt, rpush, true_and, and_true, List.set, List.length, Nat.reduceAdd, Nat.reduceLT, Nat.reduceLeDiff, Nat.reduceEqDiff, Nat.reduceSub]
  exact ⟨fun q => absurd (by first | trivial | rfl) q, fun _ => (by first | trivial | exact ⟨rfl, rfl⟩)⟩
theorem c_R_best (hr : isR h m len um sp fs X Q) (hX : X 2 = rowP n C T B A J S) (hw : pw n T B A J S) (hC : C ≤ 120) (hf : ∀ x, x < 12 → X 11 x ≤ 12) {t K bp : Nat} (ht : t < n) (hK12 : K ≤ 12) (hiK : isK (2 ^ n - 1) (nd n C T B A J) K) (hb : isMc n K (nd n C T B A J) bp) : ∃ h' X', MA M_R_best [.ref m, .int (nI t)] h (some (.int (nI (dgt bp t)))) h' ∧ isR h' m len um sp (2 ^ n - 1) X' Q ∧ (∀ j, ¬ (5 ≤ j ∧ j ≤ 11) → X' j = X j) ∧ (∀ x, x < 12 → X' 11 x ≤ 12) ∧ frm h h' m 12 := by
  have h0 : X 2 0 = n := by rw [hX]; rfl
  obtain ⟨h1, X1, a2, a3, a4, a5, -, a6⟩ := R_fewest hr hX hw (by omega) hC
  obtain ⟨a1, a7⟩ := a6 K hK12 hiK
  obtain ⟨h2, X2, b1, b2, b3, b4, b5, b6⟩ := c_R_fixAll a2 (by rw [a3 2 (by omega) (by omega) (by omega)]; exact h0) (by omega) hw.1 hw.2.2.1 a4 hiK hK12 a7 (fun x hx => by rw [a3 11 (by omega) (by omega) (by omega)]; exact hf x hx) hb
  refine ⟨h2, X2, ?_, b2, fun j hj => by rw [b3 j (by omega) (by omega) (by omega)]; exact a3 j (by omega) (by omega) (by omega), b5, a5.trans b4⟩
  have hn := hw.1
  have o0 := hr.1
  have p0 := a2.1
  have s0 := b2.1
  have s11 := b2.2.2.2.2.2.2.2.2.2.2.2
  refine MX.of (lv := [some (.ref m), some (.int (nI t))]) 0 rfl (by decide) (Nat.le_of_ble_eq_true rfl) (sn_R_best_0 _ _ _ ?_)
  simp only [vc_R_best_0, vc_R_best_10, vc_R_best_22, qi_push, qi_pushl, qi_iload, qi_lload, qi_aload, qi_istore, qi_astore, qi_lstore, qi_iinc, qi_iadd, qi_isub, qi_imul, qi_iand, qi_ior, qi_ixor, qi_ishl, qi_ishr, qi_iushr, qi_idiv, qi_irem, qi_lor, qi_lmul, qi_ladd, qi_lsub, qi_land, qi_lshl, qi_lshr, qi_i2l, qi_l2i, qi_i2c, qi_lcmp, qi_dup, qi_dup2, qi_pop, qi_if_eq, qi_icmp_eq, qi_if_ne, qi_icmp_ne, qi_if_lt, qi_icmp_lt, qi_if_ge, qi_icmp_ge, qi_if_gt, qi_icmp_gt, qi_if_le, qi_icmp_le, qi_sw, qi_get, qi_put, qi_iald, qi_lald, qi_aald, qi_iast, qi_zast, qi_cast, qi_last, qi_aast, qi_alen, qi_new, qi_newa, qi_newq, qi_obj, qi_invS, qi_invV, qi_invI, qi_iret, qi_zret, qi_lret, qi_vret, qi_acopy, qi_max, qi_min, at_o, at_i, at_l, at_q, at_a, lget, lset, lclr, lnon, lnth, spl, shrt, rpush, true_and, and_true, List.set, List.length, Nat.reduceAdd, Nat.reduceLT, Nat.reduceLeDiff, Nat.reduceEqDiff, Nat.reduceSub, o0]
  refine ⟨_, _, c_R_isTask hr h0 ⟨by omega, hw.1⟩ (nI t), ?_⟩
  rw [dT (has_i hw.1 ht)]
  simp only [qi_push, qi_pushl, qi_iload, qi_lload, qi_aload, qi_istore, qi_astore, qi_lstore, qi_iinc, qi_iadd, qi_isub, qi_imul, qi_iand, qi_ior, qi_ixor, qi_ishl, qi_ishr, qi_iushr, qi_idiv, qi_irem, qi_lor, qi_lmul, qi_ladd, qi_lsub, qi_land, qi_lshl, qi_lshr, qi_i2l, qi_l2i, qi_i2c, qi_lcmp, qi_dup, qi_dup2, qi_pop, qi_if_eq, qi_icmp_eq, qi_if_ne, qi_icmp_ne, qi_if_lt, qi_icmp_lt, qi_if_ge, qi_icmp_ge, qi_if_gt, qi_icmp_gt, qi_if_le, qi_icmp_le, qi_sw, qi_get, qi_put, qi_iald, qi_lald, qi_aald, qi_iast, qi_zast, qi_cast, qi_last, qi_aast, qi_alen, qi_new, qi_newa, qi_newq, qi_obj, qi_invS, qi_invV, qi_invI, qi_iret, qi_zret, qi_lret, qi_vret, qi_acopy, qi_max, qi_min, at_o, at_i, at_l, at_q, at_a, lget, lset, lclr, lnon, lnth, spl, shrt, rpush, true_and, and_true, List.set, List.length, Nat.reduceAdd, Nat.reduceLT, Nat.reduceLeDiff, Nat.reduceEqDiff, Nat.reduceSub, o0]
  refine ⟨fun _ => ⟨_, _, a1, ?_⟩, fun c => absurd c c10⟩
  simp only [qi_push, qi_pushl, qi_iload, qi_lload, qi_aload, qi_istore, qi_astore, qi_lstore, qi_iinc, qi_iadd, qi_isub, qi_imul, qi_iand, qi_ior, qi_ixor, qi_ishl, qi_ishr, qi_iushr, qi_idiv, qi_irem, qi_lor, qi_lmul, qi_ladd, qi_lsub, qi_land, qi_lshl, qi_lshr, qi_i2l, qi_l2i, qi_i2c, qi_lcmp, qi_dup, qi_dup2, qi_pop, qi_if_eq, qi_icmp_eq, qi_if_ne, qi_icmp_ne, qi_if_lt, qi_icmp_lt, qi_if_ge, qi_icmp_ge, qi_if_gt, qi_icmp_gt, qi_if_le, qi_icmp_le, qi_sw, qi_get, qi_put, qi_iald, qi_lald, qi_aald, qi_iast, qi_zast, qi_cast, qi_last, qi_aast, qi_alen, qi_new, qi_newa, qi_newq, qi_obj, qi_invS, qi_invV, qi_invI, qi_iret, qi_zret, qi_lret, qi_vret, qi_acopy, qi_max, qi_min, at_o, at_i, at_l, at_q, at_a, lget, lset, lclr, lnon, lnth, spl, shrt, rpush, true_and, and_true, List.set, List.length, Nat.reduceAdd, Nat.reduceLT, Nat.reduceLeDiff, Nat.reduceEqDiff, Nat.reduceSub, p0]
  refine ⟨fun _ => ⟨_, _, b1, ?_⟩, fun q => absurd q (nK_4 hK12)⟩
  simp only [qi_push, qi_pushl, qi_iload, qi_lload, qi_aload, qi_istore, qi_astore, qi_lstore, qi_iinc, qi_iadd, qi_isub, qi_imul, qi_iand, qi_ior, qi_ixor, qi_ishl, qi_ishr, qi_iushr, qi_idiv, qi_irem, qi_lor, qi_lmul, qi_ladd, qi_lsub, qi_land, qi_lshl, qi_lshr, qi_i2l, qi_l2i, qi_i2c, qi_lcmp, qi_dup, qi_dup2, qi_pop, qi_if_eq, qi_icmp_eq, qi_if_ne, qi_icmp_ne, qi_if_lt, qi_icmp_lt, qi_if_ge, qi_icmp_ge, qi_if_gt, qi_icmp_gt, qi_if_le, qi_icmp_le, qi_sw, qi_get, qi_put, qi_iald, qi_lald, qi_aald, qi_iast, qi_zast, qi_cast, qi_last, qi_aast, qi_alen, qi_new, qi_newa, qi_newq, qi_obj, qi_invS, qi_invV, qi_invI, qi_iret, qi_zret, qi_lret, qi_vret, qi_acopy, qi_max, qi_min, at_o, at_i, at_l, at_q, at_a, lget, lset, lclr, lnon, lnth, spl, shrt, rpush, true_and, and_true, List.set, List.length, Nat.reduceAdd, Nat.reduceLT, Nat.reduceLeDiff, Nat.reduceEqDiff, Nat.reduceSub, s0, s11]
  rw [nI_clamp (by omega), b6 t ht]
  exact ⟨vp_in_nI (by omega) (by omega), (by first | trivial | exact ⟨rfl, rfl⟩)⟩
theorem c_R_may (hr : isR h m len um sp fs X Q) (hX : X 2 = rowP n C T B A J S) (hw : pw n T B A J S) (hC : C ≤ 120) (hf : ∀ x, x < 12 → X 11 x ≤ 12) {t K : Nat} (ht : t < n) (hK12 : K ≤ 12) (hiK : isK (2 ^ n - 1) (nd n C T B A J) K) : ∃ h' X' b, MA M_R_may [.ref m, .int (nI t)] h (some (.int (nI b))) h' ∧ isR h' m len um sp 0 X' Q ∧ (∀ j, ¬ (5 ≤ j ∧ j ≤ 10) → X' j = X j) ∧ frm h h' m 12 ∧ ∀ k, b.testBit k = true ↔ ∃ D i, bln (2 ^ n - 1) (nd n C T B A J) K D ∧ i < K ∧ k = i + 1 ∧ (sdf (D (i + 1)) (D i)).testBit t = true := by
  have h0 : X 2 0 = n := by rw [hX]; rfl
  have hn := hw.1
  obtain ⟨h1, X1, a2, a3, a4, a5, -, a6⟩ := R_fewest hr hX hw (by omega) hC
  obtain ⟨a1, a7⟩ := a6 K hK12 hiK
  have r2 := a2.setO (len' := len) (um' := um) (sp' := sp) (fs' := 0)
  obtain ⟨h2, X2, b, b1, b2, b3, b4, b5, b6⟩ := c_R_stationsOf r2 (by rw [a3 2 (by omega) (by omega) (by omega)]; exact h0) (by omega) hn hw.2.2.1 a4 hiK hK12 a7 (fun x hx => by rw [a3 11 (by omega) (by omega) (by omega)]; exact hf x hx) (by omega) (t := t) (by omega)
  refine ⟨h2, X2, b, ?_, b2, fun j hj => by rw [b3 j (by omega) (by omega)]; exact a3 j (by omega) (by omega) (by omega), (a5.set (by omega)).trans b4, fun k => ?_⟩
  · have o0 := hr.1
    have p0 := a2.1
    have s0 := r2.1
    refine MX.of (lv := [some (.ref m), some (.int (nI t))]) 0 rfl (by decide) (Nat.le_of_ble_eq_true rfl) (sn_R_may_0 _ _ _ ?_)
    simp only [vc_R_may_0, vc_R_may_10, vc_R_may_22, qi_push, qi_pushl, qi_iload, qi_lload, qi_aload, qi_istore, qi_astore, qi_lstore, qi_iinc, qi_iadd, qi_isub, qi_imul, qi_iand, qi_ior, qi_ixor, qi_ishl, qi_ishr, qi_iushr, qi_idiv, qi_irem, qi_lor, qi_lmul, qi_ladd, qi_lsub, qi_land, qi_lshl, qi_lshr, qi_i2l, qi_l2i, qi_i2c, qi_lcmp, qi_dup, qi_dup2, qi_pop, qi_if_eq, qi_icmp_eq, qi_if_ne, qi_icmp_ne, qi_if_lt, qi_icmp_lt, qi_if_ge, qi_icmp_ge, qi_if_gt, qi_icmp_gt, qi_if_le, qi_icmp_le, qi_sw, qi_get, qi_put, qi_iald, qi_lald, qi_aald, qi_iast, qi_zast, qi_cast, qi_last, qi_aast, qi_alen, qi_new, qi_newa, qi_newq, qi_obj, qi_invS, qi_invV, qi_invI, qi_iret, qi_zret, qi_lret, qi_vret, qi_acopy, qi_max, qi_min, at_o, at_i, at_l, at_q, at_a, lget, lset, lclr, lnon, lnth, spl, shrt, rpush, true_and, and_true, List.set, List.length, Nat.reduceAdd, Nat.reduceLT, Nat.reduceLeDiff, Nat.reduceEqDiff, Nat.reduceSub, o0]
    refine ⟨_, _, c_R_isTask hr h0 ⟨by omega, hw.1⟩ (nI t), ?_⟩
    rw [dT (has_i hw.1 ht)]
    simp only [qi_push, qi_pushl, qi_iload, qi_lload, qi_aload, qi_istore, qi_astore, qi_lstore, qi_iinc, qi_iadd, qi_isub, qi_imul, qi_iand, qi_ior, qi_ixor, qi_ishl, qi_ishr, qi_iushr, qi_idiv, qi_irem, qi_lor, qi_lmul, qi_ladd, qi_lsub, qi_land, qi_lshl, qi_lshr, qi_i2l, qi_l2i, qi_i2c, qi_lcmp, qi_dup, qi_dup2, qi_pop, qi_if_eq, qi_icmp_eq, qi_if_ne, qi_icmp_ne, qi_if_lt, qi_icmp_lt, qi_if_ge, qi_icmp_ge, qi_if_gt, qi_icmp_gt, qi_if_le, qi_icmp_le, qi_sw, qi_get, qi_put, qi_iald, qi_lald, qi_aald, qi_iast, qi_zast, qi_cast, qi_last, qi_aast, qi_alen, qi_new, qi_newa, qi_newq, qi_obj, qi_invS, qi_invV, qi_invI, qi_iret, qi_zret, qi_lret, qi_vret, qi_acopy, qi_max, qi_min, at_o, at_i, at_l, at_q, at_a, lget, lset, lclr, lnon, lnth, spl, shrt, rpush, true_and, and_true, List.set, List.length, Nat.reduceAdd, Nat.reduceLT, Nat.reduceLeDiff, Nat.reduceEqDiff, Nat.reduceSub, o0]
    refine ⟨fun _ => ⟨_, _, a1, ?_⟩, fun c => absurd c c10⟩
    simp only [qi_push, qi_pushl, qi_iload, qi_lload, qi_aload, qi_istore, qi_astore, qi_lstore, qi_iinc, qi_iadd, qi_isub, qi_imul, qi_iand, qi_ior, qi_ixor, qi_ishl, qi_ishr, qi_iushr, qi_idiv, qi_irem, qi_lor, qi_lmul, qi_ladd, qi_lsub, qi_land, qi_lshl, qi_lshr, qi_i2l, qi_l2i, qi_i2c, qi_lcmp, qi_dup, qi_dup2, qi_pop, qi_if_eq, qi_icmp_eq, qi_if_ne, qi_icmp_ne, qi_if_lt, qi_icmp_lt, qi_if_ge, qi_icmp_ge, qi_if_gt, qi_icmp_gt, qi_if_le, qi_icmp_le, qi_sw, qi_get, qi_put, qi_iald, qi_lald, qi_aald, qi_iast, qi_zast, qi_cast, qi_last, qi_aast, qi_alen, qi_new, qi_newa, qi_newq, qi_obj, qi_invS, qi_invV, qi_invI, qi_iret, qi_zret, qi_lret, qi_vret, qi_acopy, qi_max, qi_min, at_o, at_i, at_l, at_q, at_a, lget, lset, lclr, lnon, lnth, spl, shrt, rpush, true_and, and_true, List.set, List.length, Nat.reduceAdd, Nat.reduceLT, Nat.reduceLeDiff, Nat.reduceEqDiff, Nat.reduceSub, p0, s0]
    exact ⟨fun _ => ⟨hc_fit_i, _, _, b1, (by simp only [qi_push, qi_pushl, qi_iload, qi_lload, qi_aload, qi_istore, qi_astore, qi_lstore, qi_iinc, qi_iadd, qi_isub, qi_imul, qi_iand, qi_ior, qi_ixor, qi_ishl, qi_ishr, qi_iushr, qi_idiv, qi_irem, qi_lor, qi_lmul, qi_ladd, qi_lsub, qi_land, qi_lshl, qi_lshr, qi_i2l, qi_l2i, qi_i2c, qi_lcmp, qi_dup, qi_dup2, qi_pop, qi_if_eq, qi_icmp_eq, qi_if_ne, qi_icmp_ne, qi_if_lt, qi_icmp_lt, qi_if_ge, qi_icmp_ge, qi_if_gt, qi_icmp_gt, qi_if_le, qi_icmp_le, qi_sw, qi_get, qi_put, qi_iald, qi_lald, qi_aald, qi_iast, qi_zast, qi_cast, qi_last, qi_aast, qi_alen, qi_new, qi_newa, qi_newq, qi_obj, qi_invS, qi_invV, qi_invI, qi_iret, qi_zret, qi_lret, qi_vret, qi_acopy, qi_max, qi_min, at_o, at_i, at_l, at_q, at_a, lget, lset, lclr, lnon, lnth, spl, shrt, rpush, true_and, and_true, List.set, List.length, Nat.reduceAdd, Nat.reduceLT, Nat.reduceLeDiff, Nat.reduceEqDiff, Nat.reduceSub])⟩, fun q => absurd q (nK_4 hK12)⟩
  · rw [b6 k]
    constructor
    · rintro ⟨D, i, d1, -, d3⟩; exact ⟨D, i, d1, d3⟩
    · rintro ⟨D, i, d1, d3⟩; exact ⟨D, i, d1, fun x _ hF => by simp at hF, d3⟩
theorem c_R_adopt_no (hr : isR h m len um sp fs X Q) (hX : X 2 = rowP n C T B A J S) (hw : pw n T B A J S) (hn1 : 1 ≤ n) (hC : C ≤ 120) (hno : ∀ k, k ≤ n → ¬ lin n C T B A J k) : ∃ h' X', MA M_R_adopt [.ref m] h (some (.int (-4))) h' ∧ isR h' m len um sp fs X' Q ∧ (∀ j, ¬ j = 5 → ¬ j = 6 → ¬ j = 7 → X' j = X j) ∧ frm h h' m 12 := by
  obtain ⟨h1, X1, a2, a3, -, a5, a6, -⟩ := R_fewest hr hX hw hn1 hC
  refine ⟨h1, X1, ?_, a2, a3, a5⟩
  have o0 := hr.1
  refine MX.of (lv := [some (.ref m), none, none]) 2 rfl (by decide) (Nat.le_of_ble_eq_true rfl) (sn_R_adopt_0 _ _ _ ?_)
  simp only [vc_R_adopt_0, qi_push, qi_pushl, qi_iload, qi_lload, qi_aload, qi_istore, qi_astore, qi_lstore, qi_iinc, qi_iadd, qi_isub, qi_imul, qi_iand, qi_ior, qi_ixor, qi_ishl, qi_ishr, qi_iushr, qi_idiv, qi_irem, qi_lor, qi_lmul, qi_ladd, qi_lsub, qi_land, qi_lshl, qi_lshr, qi_i2l, qi_l2i, qi_i2c, qi_lcmp, qi_dup, qi_dup2, qi_pop, qi_if_eq, qi_icmp_eq, qi_if_ne, qi_icmp_ne, qi_if_lt, qi_icmp_lt, qi_if_ge, qi_icmp_ge, qi_if_gt, qi_icmp_gt, qi_if_le, qi_icmp_le, qi_sw, qi_get, qi_put, qi_iald, qi_lald, qi_aald, qi_iast, qi_zast, qi_cast, qi_last, qi_aast, qi_alen, qi_new, qi_newa, qi_newq, qi_obj, qi_invS, qi_invV, qi_invI, qi_iret, qi_zret, qi_lret, qi_vret, qi_acopy, qi_max, qi_min, at_o, at_i, at_l, at_q, at_a, lget, lset, lclr, lnon, lnth, spl, shrt, rpush, true_and, and_true, List.set, List.length, Nat.reduceAdd, Nat.reduceLT, Nat.reduceLeDiff, Nat.reduceEqDiff, Nat.reduceSub, o0]
  refine ⟨_, _, a6 hno, ?_⟩
  simp only [qi_push, qi_pushl, qi_iload, qi_lload, qi_aload, qi_istore, qi_astore, qi_lstore, qi_iinc, qi_iadd, qi_isub, qi_imul, qi_iand, qi_ior, qi_ixor, qi_ishl, qi_ishr, qi_iushr, qi_idiv, qi_irem, qi_lor, qi_lmul, qi_ladd, qi_lsub, qi_land, qi_lshl, qi_lshr, qi_i2l, qi_l2i, qi_i2c, qi_lcmp, qi_dup, qi_dup2, qi_pop, qi_if_eq, qi_icmp_eq, qi_if_ne, qi_icmp_ne, qi_if_lt, qi_icmp_lt, qi_if_ge, qi_icmp_ge, qi_if_gt, qi_icmp_gt, qi_if_le, qi_icmp_le, qi_sw, qi_get, qi_put, qi_iald, qi_lald, qi_aald, qi_iast, qi_zast, qi_cast, qi_last, qi_aast, qi_alen, qi_new, qi_newa, qi_newq, qi_obj, qi_invS, qi_invV, qi_invI, qi_iret, qi_zret, qi_lret, qi_vret, qi_acopy, qi_max, qi_min, at_o, at_i, at_l, at_q, at_a, lget, lset, lclr, lnon, lnth, spl, shrt, rpush, true_and, and_true, List.set, List.length, Nat.reduceAdd, Nat.reduceLT, Nat.reduceLeDiff, Nat.reduceEqDiff, Nat.reduceSub]
  exact ⟨fun q => absurd (by first | trivial | rfl) q, fun _ => (by first | trivial | exact ⟨rfl, rfl⟩)⟩
theorem bsp_up {n bp k : Nat} {S : Nat → Nat} : va_up (bsp n bp S k) k (dgt bp k) = bsp n bp S (k + 1) := by
  funext j
  show (if j = k then dgt bp k else if j < k then bp / 2 ^ (4 * (11 - j)) % 16 else S j) = if j < k + 1 then bp / 2 ^ (4 * (11 - j)) % 16 else S j
  by_cases e : j = k
  · rw [if_pos e, if_pos (by omega), e]
  · rw [if_neg e]
    by_cases e2 : j < k
    · rw [if_pos e2, if_pos (by omega)]
    · rw [if_neg e2, if_neg (by omega)]
theorem c_R_adopt (hr : isR h m len um sp fs X Q) (hX : X 2 = rowP n C T B A J S) (hw : pw n T B A J S) (hn1 : 1 ≤ n) (hC : C ≤ 120) (hu : um ≤ 6) (hf : ∀ x, x < 12 → X 11 x ≤ 12) {K bp : Nat} (hK12 : K ≤ 12) (hiK : isK (2 ^ n - 1) (nd n C T B A J) K) (hb : isMc n K (nd n C T B A J) bp) : ∃ h' X', MA M_R_adopt [.ref m] h (some (.int (nI K))) h' ∧ isR h' m len (kz um) sp (2 ^ n - 1) X' Q ∧ X' 1 = X 1 ∧ X' 2 = rowP n C T B A J (bsp n bp S n) ∧ X' 3 = ntB um (X 3) (rowP n C T B A J S) ∧ (∀ x, x < 12 → X' 11 x ≤ 12) ∧ frm h h' m 12 := by
  have h0 : X 2 0 = n := by rw [hX]; rfl
  have hn := hw.1
  obtain ⟨h1, X1, a2, a3, a4, a5, -, a6⟩ := R_fewest hr hX hw hn1 hC
  obtain ⟨a1, a7⟩ := a6 K hK12 hiK
  obtain ⟨h2, X2, b1, b2, b3, b4, b5, b6⟩ := c_R_fixAll a2 (by rw [a3 2 (by omega) (by omega) (by omega)]; exact h0) hn1 hn hw.2.2.1 a4 hiK hK12 a7 (fun x hx => by rw [a3 11 (by omega) (by omega) (by omega)]; exact hf x hx) hb
  have q2 : ∀ j, ¬ (5 ≤ j ∧ j ≤ 11) → X2 j = X j := fun j hj => by rw [b3 j (by omega) (by omega) (by omega)]; exact a3 j (by omega) (by omega) (by omega)
  obtain ⟨h3, n1, n2, n3⟩ := c_R_note b2 hu
  obtain ⟨X3, e3⟩ : ∃ z, va_up X2 3 (ntB um (X2 3) (X2 2)) = z := ⟨_, rfl⟩
  rw [e3] at n2
  have x32 : X3 2 = rowP n C T B A J S := by rw [← e3, up_ne (by omega), q2 2 (by omega), hX]
  have x311 : X3 11 = X2 11 := by rw [← e3, up_ne (by omega)]
  have w0 : vp_in (nI 0) 62 := vp_in_nI (by omega) (by omega)
  let hx : Nat → hc_H := fun k => hc_set h3 (m + 2) (.inl (0, 62, .inl (fun j => nI (rowP n C T B A J (bsp n bp S k) j))))
  have rx : ∀ k, isR (hx k) m len (kz um) sp (2 ^ n - 1) (va_up X3 2 (rowP n C T B A J (bsp n bp S k))) Q := fun k => n2.setN
  have lqK := lp_up (P := fun k => cx hc_tt M_R_adopt h (hx n) (some (.int (nI K))) 24 [some (.ref m), some (.int (nI K)), some (.int (nI k))] [] (hx k)) (n := n)
    (by have p0 := (rx n).1
        have p2 : (hx n).1 (m + 2) = ii 62 (rowP n C T B A J (bsp n bp S n)) := (rx n).2.2.1
        refine sn_R_adopt_24 _ _ _ ?_
        simp only [vc_R_adopt_24, vc_R_adopt_55, qi_push, qi_pushl, qi_iload, qi_lload, qi_aload, qi_istore, qi_astore, qi_lstore, qi_iinc, qi_iadd, qi_isub, qi_imul, qi_iand, qi_ior, qi_ixor, qi_ishl, qi_ishr, qi_iushr, qi_idiv, qi_irem, qi_lor, qi_lmul, qi_ladd, qi_lsub, qi_land, qi_lshl, qi_lshr, qi_i2l, qi_l2i, qi_i2c, qi_lcmp, qi_dup, qi_dup2, qi_pop, qi_if_eq, qi_icmp_eq, qi_if_ne, qi_icmp_ne, qi_if_lt, qi_icmp_lt, qi_if_ge, qi_icmp_ge, qi_if_gt, qi_icmp_gt, qi_if_le, qi_icmp_le, qi_sw, qi_get, qi_put, qi_iald, qi_lald, qi_aald, qi_iast, qi_zast, qi_cast, qi_last, qi_aast, qi_alen, qi_new, qi_newa, qi_newq, qi_obj, qi_invS, qi_invV, qi_invI, qi_iret, qi_zret, qi_lret, qi_vret, qi_acopy, qi_max, qi_min, at_o, at_i, at_l, at_q, at_a, lget, lset, lclr, lnon, lnth, spl, shrt, rpush, true_and, and_true, List.set, List.length, Nat.reduceAdd, Nat.reduceLT, Nat.reduceLeDiff, Nat.reduceEqDiff, Nat.reduceSub, p0, p2, r0, rp_0, w0]
        exact ⟨fun _ => (by first | trivial | exact ⟨rfl, rfl⟩), fun c => absurd (nI_le (Nat.le_refl _) (by omega)) c⟩)
    (fun k hk ih => by
        have p0 := (rx k).1
        have p2 : (hx k).1 (m + 2) = ii 62 (rowP n C T B A J (bsp n bp S k)) := (rx k).2.2.1
        have p11 : (hx k).1 (m + 11) = ii 12 (X3 11) := (rx k).2.2.2.2.2.2.2.2.2.2.2
        refine sn_R_adopt_24 _ _ _ ?_
        simp only [vc_R_adopt_24, qi_push, qi_pushl, qi_iload, qi_lload, qi_aload, qi_istore, qi_astore, qi_lstore, qi_iinc, qi_iadd, qi_isub, qi_imul, qi_iand, qi_ior, qi_ixor, qi_ishl, qi_ishr, qi_iushr, qi_idiv, qi_irem, qi_lor, qi_lmul, qi_ladd, qi_lsub, qi_land, qi_lshl, qi_lshr, qi_i2l, qi_l2i, qi_i2c, qi_lcmp, qi_dup, qi_dup2, qi_pop, qi_if_eq, qi_icmp_eq, qi_if_ne, qi_icmp_ne, qi_if_lt, qi_icmp_lt, qi_if_ge, qi_icmp_ge, qi_if_gt, qi_icmp_gt, qi_if_le, qi_icmp_le, qi_sw, qi_get, qi_put, qi_iald, qi_lald, qi_aald, qi_iast, qi_zast, qi_cast, qi_last, qi_aast, qi_alen, qi_new, qi_newa, qi_newq, qi_obj, qi_invS, qi_invV, qi_invI, qi_iret, qi_zret, qi_lret, qi_vret, qi_acopy, qi_max, qi_min, at_o, at_i, at_l, at_q, at_a, lget, lset, lclr, lnon, lnth, spl, shrt, rpush, true_and, and_true, List.set, List.length, Nat.reduceAdd, Nat.reduceLT, Nat.reduceLeDiff, Nat.reduceEqDiff, Nat.reduceSub, p0, p2, p11, r0, rp_0, w0, nI_add]
        rw [nI_clamp (by omega), nI_clamp (by omega), x311, b6 k hk, upd_nI, rp_upS, bsp_up]
        refine ⟨fun c => absurd c (nI_ge hk (by omega)), fun _ => ⟨vp_in_nI (by omega) (by omega), vp_in_nI (by omega) (by omega), ?_⟩⟩
        have e9 : hc_set (hx k) (m + 2) (.inl (0, 62, .inl (fun j => nI (rowP n C T B A J (bsp n bp S (k + 1)) j)))) = hx (k + 1) := hs_hs _ _ _ _
        rw [e9]
        exact ih)
  refine ⟨hx n, _, ?_, rx n, ?_, rfl, ?_, fun x hx' => ?_, (((a5.trans b4).trans (n3.mono (by omega) (by omega))).set (by omega))⟩
  · have l0 := lqK 0 (Nat.zero_le _)
    have e0 : hx 0 = h3 := by
      show hc_set _ _ _ = h3
      have : (fun j => nI (rowP n C T B A J (bsp n bp S 0) j)) = fun j => nI (X3 2 j) := by
        rw [x32]
        rfl
      rw [this]
      exact hs_self h3 n2.2.2.1
    rw [e0] at l0
    have o0 := hr.1
    have p0 := a2.1
    have s0 := b2.1
    refine MX.of (lv := [some (.ref m), none, none]) 2 rfl (by decide) (Nat.le_of_ble_eq_true rfl) (sn_R_adopt_0 _ _ _ ?_)
    simp only [vc_R_adopt_0, vc_R_adopt_14, qi_push, qi_pushl, qi_iload, qi_lload, qi_aload, qi_istore, qi_astore, qi_lstore, qi_iinc, qi_iadd, qi_isub, qi_imul, qi_iand, qi_ior, qi_ixor, qi_ishl, qi_ishr, qi_iushr, qi_idiv, qi_irem, qi_lor, qi_lmul, qi_ladd, qi_lsub, qi_land, qi_lshl, qi_lshr, qi_i2l, qi_l2i, qi_i2c, qi_lcmp, qi_dup, qi_dup2, qi_pop, qi_if_eq, qi_icmp_eq, qi_if_ne, qi_icmp_ne, qi_if_lt, qi_icmp_lt, qi_if_ge, qi_icmp_ge, qi_if_gt, qi_icmp_gt, qi_if_le, qi_icmp_le, qi_sw, qi_get, qi_put, qi_iald, qi_lald, qi_aald, qi_iast, qi_zast, qi_cast, qi_last, qi_aast, qi_alen, qi_new, qi_newa, qi_newq, qi_obj, qi_invS, qi_invV, qi_invI, qi_iret, qi_zret, qi_lret, qi_vret, qi_acopy, qi_max, qi_min, at_o, at_i, at_l, at_q, at_a, lget, lset, lclr, lnon, lnth, spl, shrt, rpush, true_and, and_true, List.set, List.length, Nat.reduceAdd, Nat.reduceLT, Nat.reduceLeDiff, Nat.reduceEqDiff, Nat.reduceSub, o0]
    refine ⟨_, _, a1, ?_⟩
    simp only [qi_push, qi_pushl, qi_iload, qi_lload, qi_aload, qi_istore, qi_astore, qi_lstore, qi_iinc, qi_iadd, qi_isub, qi_imul, qi_iand, qi_ior, qi_ixor, qi_ishl, qi_ishr, qi_iushr, qi_idiv, qi_irem, qi_lor, qi_lmul, qi_ladd, qi_lsub, qi_land, qi_lshl, qi_lshr, qi_i2l, qi_l2i, qi_i2c, qi_lcmp, qi_dup, qi_dup2, qi_pop, qi_if_eq, qi_icmp_eq, qi_if_ne, qi_icmp_ne, qi_if_lt, qi_icmp_lt, qi_if_ge, qi_icmp_ge, qi_if_gt, qi_icmp_gt, qi_if_le, qi_icmp_le, qi_sw, qi_get, qi_put, qi_iald, qi_lald, qi_aald, qi_iast, qi_zast, qi_cast, qi_last, qi_aast, qi_alen, qi_new, qi_newa, qi_newq, qi_obj, qi_invS, qi_invV, qi_invI, qi_iret, qi_zret, qi_lret, qi_vret, qi_acopy, qi_max, qi_min, at_o, at_i, at_l, at_q, at_a, lget, lset, lclr, lnon, lnth, spl, shrt, rpush, true_and, and_true, List.set, List.length, Nat.reduceAdd, Nat.reduceLT, Nat.reduceLeDiff, Nat.reduceEqDiff, Nat.reduceSub, p0]
    refine ⟨fun _ => ⟨_, _, b1, ?_⟩, fun q => absurd q (nK_4 hK12)⟩
    simp only [qi_push, qi_pushl, qi_iload, qi_lload, qi_aload, qi_istore, qi_astore, qi_lstore, qi_iinc, qi_iadd, qi_isub, qi_imul, qi_iand, qi_ior, qi_ixor, qi_ishl, qi_ishr, qi_iushr, qi_idiv, qi_irem, qi_lor, qi_lmul, qi_ladd, qi_lsub, qi_land, qi_lshl, qi_lshr, qi_i2l, qi_l2i, qi_i2c, qi_lcmp, qi_dup, qi_dup2, qi_pop, qi_if_eq, qi_icmp_eq, qi_if_ne, qi_icmp_ne, qi_if_lt, qi_icmp_lt, qi_if_ge, qi_icmp_ge, qi_if_gt, qi_icmp_gt, qi_if_le, qi_icmp_le, qi_sw, qi_get, qi_put, qi_iald, qi_lald, qi_aald, qi_iast, qi_zast, qi_cast, qi_last, qi_aast, qi_alen, qi_new, qi_newa, qi_newq, qi_obj, qi_invS, qi_invV, qi_invI, qi_iret, qi_zret, qi_lret, qi_vret, qi_acopy, qi_max, qi_min, at_o, at_i, at_l, at_q, at_a, lget, lset, lclr, lnon, lnth, spl, shrt, rpush, true_and, and_true, List.set, List.length, Nat.reduceAdd, Nat.reduceLT, Nat.reduceLeDiff, Nat.reduceEqDiff, Nat.reduceSub, s0]
    refine ⟨_, _, n1, ?_⟩
    simp only [qi_push, qi_pushl, qi_iload, qi_lload, qi_aload, qi_istore, qi_astore, qi_lstore, qi_iinc, qi_iadd, qi_isub, qi_imul, qi_iand, qi_ior, qi_ixor, qi_ishl, qi_ishr, qi_iushr, qi_idiv, qi_irem, qi_lor, qi_lmul, qi_ladd, qi_lsub, qi_land, qi_lshl, qi_lshr, qi_i2l, qi_l2i, qi_i2c, qi_lcmp, qi_dup, qi_dup2, qi_pop, qi_if_eq, qi_icmp_eq, qi_if_ne, qi_icmp_ne, qi_if_lt, qi_icmp_lt, qi_if_ge, qi_icmp_ge, qi_if_gt, qi_icmp_gt, qi_if_le, qi_icmp_le, qi_sw, qi_get, qi_put, qi_iald, qi_lald, qi_aald, qi_iast, qi_zast, qi_cast, qi_last, qi_aast, qi_alen, qi_new, qi_newa, qi_newq, qi_obj, qi_invS, qi_invV, qi_invI, qi_iret, qi_zret, qi_lret, qi_vret, qi_acopy, qi_max, qi_min, at_o, at_i, at_l, at_q, at_a, lget, lset, lclr, lnon, lnth, spl, shrt, rpush, true_and, and_true, List.set, List.length, Nat.reduceAdd, Nat.reduceLT, Nat.reduceLeDiff, Nat.reduceEqDiff, Nat.reduceSub]
    exact l0
  · rw [up_ne (by omega), ← e3, up_ne (by omega)]; exact q2 1 (by omega)
  · rw [up_ne (by omega), ← e3, up_eq, q2 3 (by omega), q2 2 (by omega), hX]
  · rw [up_ne (by omega), x311]; exact b5 x hx'
end MO
