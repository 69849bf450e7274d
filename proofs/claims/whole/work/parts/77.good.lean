/-! THE MODEL: which sets can be a station. -/
/-- a set can be a station, as far as its first t tasks tell -/
def gdk (n c : Nat) (T A J : Nat → Nat) (s : Nat) : Nat → Bool
  | 0 => decide (0 < s ∧ tsum T s n ≤ c)
  | t + 1 => gdk n c T A J s t && (!s.testBit t || decide (A t &&& s = 0 ∧ sdf (J t) s = 0))
theorem gdk_f {n c s : Nat} {T A J : Nat → Nat} {k : Nat} (h : gdk n c T A J s k = false) : ∀ x, gdk n c T A J s (k + x) = false := by
  intro x
  induction x with
  | zero => exact h
  | succ x ih =>
    show (gdk n c T A J s (k + x) && _) = false
    rw [ih]; rfl
theorem gdk_iff {n c s : Nat} {T A J : Nat → Nat} : ∀ k, gdk n c T A J s k = true ↔ (0 < s ∧ tsum T s n ≤ c) ∧ ∀ t, t < k → s.testBit t = true → A t &&& s = 0 ∧ sdf (J t) s = 0 := by
  intro k
  induction k with
  | zero =>
    simp only [gdk]
    rw [decide_eq_true_eq]
    exact ⟨fun q => ⟨q, fun t ht => by omega⟩, fun q => q.1⟩
  | succ k ih =>
    simp only [gdk]
    rw [Bool.and_eq_true, ih, Bool.or_eq_true, decide_eq_true_eq, Bool.not_eq_true']
    constructor
    · rintro ⟨⟨h1, h2⟩, h3⟩
      refine ⟨h1, fun t ht hs => ?_⟩
      by_cases e : t = k
      · subst e
        rcases h3 with q | q
        · rw [hs] at q; cases q
        · exact q
      · exact h2 t (by omega) hs
    · rintro ⟨h1, h2⟩
      refine ⟨⟨h1, fun t ht hs => h2 t (by omega) hs⟩, ?_⟩
      cases q : s.testBit k
      · exact Or.inl rfl
      · exact Or.inr (h2 k (by omega) q)
/-- s can be the next station behind d -/
def nxb (n c : Nat) (T B A J : Nat → Nat) (d s : Nat) : Bool := gdk n c T A J s n && decide (sdf (bor B s n) (d ||| s) = 0)
theorem gd_nd {n c s : Nat} {T A J : Nat → Nat} : gdk n c T A J s n = true ↔ 0 < s ∧ tsum T s n ≤ c ∧ sdf (bor J s n) s = 0 ∧ bor A s n &&& s = 0 := by
  rw [gdk_iff]
  constructor
  · rintro ⟨⟨h1, h2⟩, h3⟩
    refine ⟨h1, h2, sdf_eq0.mpr (sub_iff.mpr fun i hi => ?_), and_0.mpr fun i hi hs => ?_⟩
    · obtain ⟨x, x1, x2, x3⟩ := (bor_bit n).mp hi
      exact sub_iff.mp (sdf_eq0.mp (h3 x x1 x2).2) i x3
    · obtain ⟨x, x1, x2, x3⟩ := (bor_bit n).mp hi
      exact and_0.mp (h3 x x1 x2).1 i x3 hs
  · rintro ⟨h1, h2, h3, h4⟩
    refine ⟨⟨h1, h2⟩, fun t ht hs => ⟨and_0.mpr fun i hi hs2 => ?_, sdf_eq0.mpr (sub_iff.mpr fun i hi => ?_)⟩⟩
    · exact and_0.mp h4 i ((bor_bit n).mpr ⟨t, ht, hs, hi⟩) hs2
    · exact sub_iff.mp (sdf_eq0.mp h3) i ((bor_bit n).mpr ⟨t, ht, hs, hi⟩)
theorem nx_ed {n c d s : Nat} {T B A J : Nat → Nat} (hn : n ≤ 12) (hd : d < 2 ^ n) (hs : s < 2 ^ n) (hds : d &&& s = 0) : nxb n c T B A J d s = true ↔ ed (2 ^ n - 1) (nd n c T B A J) d s := by
  unfold nxb
  rw [Bool.and_eq_true, decide_eq_true_eq, gd_nd]
  constructor
  · rintro ⟨⟨h1, h2, h3, h4⟩, h5⟩
    refine ⟨sub_all.mpr hs, hds, h1, ?_⟩
    unfold nd
    rw [if_neg (by omega), if_pos ⟨h2, h3, h4⟩, sdf_eq0, sub_iff]
    intro i hi
    rw [bit_sdf] at hi
    rcases bit_or.mp (sub_iff.mp (sdf_eq0.mp h5) i hi.1) with q | q
    · exact q
    · exact absurd q hi.2
  · intro h
    obtain ⟨h1, h2, h3, h4, h5⟩ := ed_fits hn (sub_all.mpr hd) h
    exact ⟨⟨h.2.2.1, h2, h3, h4⟩, sdf_eq0.mpr h5⟩
theorem nx_0 {n c s : Nat} {T B A J : Nat → Nat} (hn : n ≤ 12) (hs : s < 2 ^ n) : nxb n c T B A J 0 s = true ↔ nd n c T B A J s = 0 := by
  rw [nx_ed hn (Nat.two_pow_pos n) hs (Nat.zero_and s)]
  constructor
  · rintro ⟨-, -, -, h⟩
    have := sdf_eq0.mp h
    exact eq0_bit.mpr fun i hi => by have := sub_iff.mp this i hi; simp at this
  · intro h
    refine ⟨sub_all.mpr hs, Nat.zero_and s, ?_, by rw [h]; rfl⟩
    apply Nat.pos_of_ne_zero
    intro q
    rw [q] at h
    unfold nd at h
    rw [if_pos rfl] at h
    omega
theorem isR.set5 {h : hc_H} {m len um sp fs : Nat} {X : Nat → Nat → Nat} {Q : Nat → Int32} {f : Nat → Nat} (hr : isR h m len um sp fs X Q) : isR (hc_set h (m + 5) (.inl (0, 4096, .inl (fun j => nI (f j))))) m len um sp fs (va_up X 5 f) Q := by
  obtain ⟨e0, e1, e2, e3, e4, e5, e6, e7, e8, e9, e10, e11⟩ := hr
  refine ⟨?_, ?_, ?_, ?_, ?_, hs_eq _ _ _, ?_, ?_, ?_, ?_, ?_, ?_⟩ <;> rw [hs_ne _ _ (by omega)] <;> assumption
theorem isR.set6 {h : hc_H} {m len um sp fs : Nat} {X : Nat → Nat → Nat} {Q : Nat → Int32} {f : Nat → Nat} (hr : isR h m len um sp fs X Q) : isR (hc_set h (m + 6) (.inl (1, 4096, .inl (fun j => nI (f j))))) m len um sp fs (va_up X 6 f) Q := by
  obtain ⟨e0, e1, e2, e3, e4, e5, e6, e7, e8, e9, e10, e11⟩ := hr
  refine ⟨?_, ?_, ?_, ?_, ?_, ?_, hs_eq _ _ _, ?_, ?_, ?_, ?_, ?_⟩ <;> rw [hs_ne _ _ (by omega)] <;> assumption
theorem isR.set7 {h : hc_H} {m len um sp fs : Nat} {X : Nat → Nat → Nat} {Q : Nat → Int32} {f : Nat → Nat} (hr : isR h m len um sp fs X Q) : isR (hc_set h (m + 7) (.inl (0, 4096, .inl (fun j => nI (f j))))) m len um sp fs (va_up X 7 f) Q := by
  obtain ⟨e0, e1, e2, e3, e4, e5, e6, e7, e8, e9, e10, e11⟩ := hr
  refine ⟨?_, ?_, ?_, ?_, ?_, ?_, ?_, hs_eq _ _ _, ?_, ?_, ?_, ?_⟩ <;> rw [hs_ne _ _ (by omega)] <;> assumption
theorem isR.set8 {h : hc_H} {m len um sp fs : Nat} {X : Nat → Nat → Nat} {Q : Nat → Int32} {f : Nat → Nat} (hr : isR h m len um sp fs X Q) : isR (hc_set h (m + 8) (.inl (0, 4096, .inl (fun j => nI (f j))))) m len um sp fs (va_up X 8 f) Q := by
  obtain ⟨e0, e1, e2, e3, e4, e5, e6, e7, e8, e9, e10, e11⟩ := hr
  refine ⟨?_, ?_, ?_, ?_, ?_, ?_, ?_, ?_, hs_eq _ _ _, ?_, ?_, ?_⟩ <;> rw [hs_ne _ _ (by omega)] <;> assumption
theorem isR.set9 {h : hc_H} {m len um sp fs : Nat} {X : Nat → Nat → Nat} {Q : Nat → Int32} {f : Nat → Nat} (hr : isR h m len um sp fs X Q) : isR (hc_set h (m + 9) (.inl (1, 4096, .inl (fun j => nI (f j))))) m len um sp fs (va_up X 9 f) Q := by
  obtain ⟨e0, e1, e2, e3, e4, e5, e6, e7, e8, e9, e10, e11⟩ := hr
  refine ⟨?_, ?_, ?_, ?_, ?_, ?_, ?_, ?_, ?_, hs_eq _ _ _, ?_, ?_⟩ <;> rw [hs_ne _ _ (by omega)] <;> assumption
theorem isR.set10 {h : hc_H} {m len um sp fs : Nat} {X : Nat → Nat → Nat} {Q : Nat → Int32} {f : Nat → Nat} (hr : isR h m len um sp fs X Q) : isR (hc_set h (m + 10) (.inl (1, 4096, .inl (fun j => nI (f j))))) m len um sp fs (va_up X 10 f) Q := by
  obtain ⟨e0, e1, e2, e3, e4, e5, e6, e7, e8, e9, e10, e11⟩ := hr
  refine ⟨?_, ?_, ?_, ?_, ?_, ?_, ?_, ?_, ?_, ?_, hs_eq _ _ _, ?_⟩ <;> rw [hs_ne _ _ (by omega)] <;> assumption
theorem isR.set11 {h : hc_H} {m len um sp fs : Nat} {X : Nat → Nat → Nat} {Q : Nat → Int32} {f : Nat → Nat} (hr : isR h m len um sp fs X Q) : isR (hc_set h (m + 11) (.inl (0, 12, .inl (fun j => nI (f j))))) m len um sp fs (va_up X 11 f) Q := by
  obtain ⟨e0, e1, e2, e3, e4, e5, e6, e7, e8, e9, e10, e11⟩ := hr
  refine ⟨?_, ?_, ?_, ?_, ?_, ?_, ?_, ?_, ?_, ?_, ?_, hs_eq _ _ _⟩ <;> rw [hs_ne _ _ (by omega)] <;> assumption
theorem updZ (f : Nat → Nat) (k : Nat) (b : Bool) : upd (fun j => nI (f j)) k (nI b.toNat &&& 1) = fun j => nI (va_up f k b.toNat j) := by
  rw [show nI b.toNat &&& 1 = nI b.toNat by cases b <;> decide]
  exact upd_nI f k b.toNat
/-- what findGood leaves -/
def fgP (n c : Nat) (T B A J : Nat → Nat) (X : Nat → Nat → Nat) : Prop := ∀ s, s < 2 ^ n → X 5 s = bor B s n ∧ X 6 s = (gdk n c T A J s n).toNat
section MO
variable {h : hc_H} {m len um sp fs n C : Nat} {X : Nat → Nat → Nat} {Q : Nat → Int32} {T B A J S : Nat → Nat}
theorem c_R_isGood (hr : isR h m len um sp fs X Q) (hX : X 2 = rowP n C T B A J S) (hw : pw n T B A J S) {s c : Nat} (hs : s < 4096) (hc : c < 2000) : MA M_R_isGood [.ref m, .int (nI s), .int (nI c)] h (some (.int (nI (gdk n c T A J s n).toNat))) h := by
  have o0 := hr.1
  have o2 := hr.2.2.1
  rw [hX] at o2
  have hn := hw.1
  have v0 : vp_in (nI 0) 62 := vp_in_nI (by omega) (by omega)
  have ts := tsum_small hw s
  have loop := lp_up (P := fun k => cx hc_tt M_R_isGood h h (some (.int (nI (gdk n c T A J s n).toNat))) 22 [some (.ref m), some (.int (nI s)), some (.int (nI c)), some (.int (nI (gdk n c T A J s k).toNat)), some (.int (nI k))] [] h) (n := n)
    (by refine sn_R_isGood_22 _ _ _ ?_
        simp only [vc_R_isGood_22, vc_R_isGood_90, qi_push, qi_pushl, qi_iload, qi_lload, qi_aload, qi_istore, qi_astore, qi_lstore, qi_iinc, qi_iadd, qi_isub, qi_imul, qi_iand, qi_ior, qi_ixor, qi_ishl, qi_ishr, qi_iushr, qi_idiv, qi_irem, qi_lor, qi_lmul, qi_ladd, qi_lsub, qi_land, qi_lshl, qi_lshr, qi_i2l, qi_l2i, qi_i2c, qi_lcmp, qi_dup, qi_dup2, qi_pop, qi_if_eq, qi_icmp_eq, qi_if_ne, qi_icmp_ne, qi_if_lt, qi_icmp_lt, qi_if_ge, qi_icmp_ge, qi_if_gt, qi_icmp_gt, qi_if_le, qi_icmp_le, qi_sw, qi_get, qi_put, qi_iald, qi_lald, qi_aald, qi_iast, qi_zast, qi_cast, qi_last, qi_aast, qi_alen, qi_new, qi_newa, qi_newq, qi_obj, qi_invS, qi_invV, qi_invI, qi_iret, qi_zret, qi_lret, qi_vret, qi_acopy, qi_max, qi_min, at_o, at_i, at_l, at_q, at_a, lget, lset, lclr, lnon, lnth, spl, shrt, rpush, true_and, and_true, List.set, List.length, Nat.reduceAdd, Nat.reduceLT, Nat.reduceLeDiff, Nat.reduceEqDiff, Nat.reduceSub, o0, o2, r0, rp_0, v0]
        exact ⟨fun _ => nb_01 _, fun c => absurd (nI_le (Nat.le_refl _) (by omega)) c⟩)
    (fun k hk ih => by
        have bA := hw.2.2.2.1 k
        have bJ := hw.2.2.2.2.1 k
        have v26 : vp_in (nI (26 + k)) 62 := vp_in_nI (by omega) (by omega)
        have v38 : vp_in (nI (38 + k)) 62 := vp_in_nI (by omega) (by omega)
        have q26 : (nI (26 + k)).toNatClampNeg = 26 + k := nI_clamp (by omega)
        have q38 : (nI (38 + k)).toNatClampNeg = 38 + k := nI_clamp (by omega)
        have e : gdk n c T A J s (k + 1) = (gdk n c T A J s k && (!s.testBit k || decide (A k &&& s = 0 ∧ sdf (J k) s = 0))) := rfl
        refine sn_R_isGood_22 _ _ _ ?_
        simp only [vc_R_isGood_22, vc_R_isGood_90, qi_push, qi_pushl, qi_iload, qi_lload, qi_aload, qi_istore, qi_astore, qi_lstore, qi_iinc, qi_iadd, qi_isub, qi_imul, qi_iand, qi_ior, qi_ixor, qi_ishl, qi_ishr, qi_iushr, qi_idiv, qi_irem, qi_lor, qi_lmul, qi_ladd, qi_lsub, qi_land, qi_lshl, qi_lshr, qi_i2l, qi_l2i, qi_i2c, qi_lcmp, qi_dup, qi_dup2, qi_pop, qi_if_eq, qi_icmp_eq, qi_if_ne, qi_icmp_ne, qi_if_lt, qi_icmp_lt, qi_if_ge, qi_icmp_ge, qi_if_gt, qi_icmp_gt, qi_if_le, qi_icmp_le, qi_sw, qi_get, qi_put, qi_iald, qi_lald, qi_aald, qi_iast, qi_zast, qi_cast, qi_last, qi_aast, qi_alen, qi_new, qi_newa, qi_newq, qi_obj, qi_invS, qi_invV, qi_invI, qi_iret, qi_zret, qi_lret, qi_vret, qi_acopy, qi_max, qi_min, at_o, at_i, at_l, at_q, at_a, lget, lset, lclr, lnon, lnth, spl, shrt, rpush, true_and, and_true, List.set, List.length, Nat.reduceAdd, Nat.reduceLT, Nat.reduceLeDiff, Nat.reduceEqDiff, Nat.reduceSub, o0, o2, r0, rp_0, v0]
        refine ⟨fun c => absurd c (nI_ge hk (by omega)), fun _ => ⟨fun c => ⟨nb_01 _, ?_⟩, fun c => ⟨_, _, c_R_has h (show s < 2 ^ 31 by omega) (show k < 31 by omega), ?_⟩⟩⟩
        · have := gdk_f ((nb_eq0 _).mp c) (n - k)
          rw [show k + (n - k) = n by omega] at this
          rw [this, (nb_eq0 _).mp c]
        · rw [(nb_ne0 _).mp c, Bool.true_and] at e
          simp only [vc_R_isGood_78, vc_R_isGood_82, vc_R_isGood_83, qi_push, qi_pushl, qi_iload, qi_lload, qi_aload, qi_istore, qi_astore, qi_lstore, qi_iinc, qi_iadd, qi_isub, qi_imul, qi_iand, qi_ior, qi_ixor, qi_ishl, qi_ishr, qi_iushr, qi_idiv, qi_irem, qi_lor, qi_lmul, qi_ladd, qi_lsub, qi_land, qi_lshl, qi_lshr, qi_i2l, qi_l2i, qi_i2c, qi_lcmp, qi_dup, qi_dup2, qi_pop, qi_if_eq, qi_icmp_eq, qi_if_ne, qi_icmp_ne, qi_if_lt, qi_icmp_lt, qi_if_ge, qi_icmp_ge, qi_if_gt, qi_icmp_gt, qi_if_le, qi_icmp_le, qi_sw, qi_get, qi_put, qi_iald, qi_lald, qi_aald, qi_iast, qi_zast, qi_cast, qi_last, qi_aast, qi_alen, qi_new, qi_newa, qi_newq, qi_obj, qi_invS, qi_invV, qi_invI, qi_iret, qi_zret, qi_lret, qi_vret, qi_acopy, qi_max, qi_min, at_o, at_i, at_l, at_q, at_a, lget, lset, lclr, lnon, lnth, spl, shrt, rpush, true_and, and_true, List.set, List.length, Nat.reduceAdd, Nat.reduceLT, Nat.reduceLeDiff, Nat.reduceEqDiff, Nat.reduceSub, o0, o2, nI_add, v26, v38, q26, q38, rp_A (show k < 12 by omega), rp_J (show k < 12 by omega)]
          rw [ni_and, ni_not, ← nI_0, nI_eq (and_31 (by omega)) (by omega), nI_eq (Nat.lt_of_le_of_lt (sub_le (sdf_sub _ _)) (by omega)) (by omega), nI_0, nb_eq0]
          refine ⟨fun c2 => ?_, fun c2 => ⟨fun c3 => ?_, fun c3 => ⟨fun c4 => ?_, fun c4 => ?_⟩⟩⟩
          · rw [c2] at e
            rw [e] at ih; exact ih
          · rw [decide_eq_false (fun q => c3 q.1)] at e
            have c2 : s.testBit k = true := by cases z : s.testBit k; exact absurd z c2; rfl
            rw [c2] at e
            rw [e] at ih; exact ih
          · rw [decide_eq_false (fun q => c4 q.2)] at e
            have c2 : s.testBit k = true := by cases z : s.testBit k; exact absurd z c2; rfl
            rw [c2] at e
            rw [e] at ih; exact ih
          · rw [decide_eq_true ⟨c3, c4⟩, Bool.or_true] at e
            rw [e] at ih; exact ih)
  have l0 := loop 0 (Nat.zero_le _)
  have k18 : ∀ b : Bool, b = decide (0 < s ∧ tsum T s n ≤ c) → vc_R_isGood_18 (some (.int (nI (gdk n c T A J s n).toNat))) h (cx hc_tt M_R_isGood h h (some (.int (nI (gdk n c T A J s n).toNat)))) [some (.ref m), some (.int (nI s)), some (.int (nI c)), none, none] [.int (nI b.toNat)] h := by
    intro b hb
    subst hb
    simp only [vc_R_isGood_18, qi_push, qi_pushl, qi_iload, qi_lload, qi_aload, qi_istore, qi_astore, qi_lstore, qi_iinc, qi_iadd, qi_isub, qi_imul, qi_iand, qi_ior, qi_ixor, qi_ishl, qi_ishr, qi_iushr, qi_idiv, qi_irem, qi_lor, qi_lmul, qi_ladd, qi_lsub, qi_land, qi_lshl, qi_lshr, qi_i2l, qi_l2i, qi_i2c, qi_lcmp, qi_dup, qi_dup2, qi_pop, qi_if_eq, qi_icmp_eq, qi_if_ne, qi_icmp_ne, qi_if_lt, qi_icmp_lt, qi_if_ge, qi_icmp_ge, qi_if_gt, qi_icmp_gt, qi_if_le, qi_icmp_le, qi_sw, qi_get, qi_put, qi_iald, qi_lald, qi_aald, qi_iast, qi_zast, qi_cast, qi_last, qi_aast, qi_alen, qi_new, qi_newa, qi_newq, qi_obj, qi_invS, qi_invV, qi_invI, qi_iret, qi_zret, qi_lret, qi_vret, qi_acopy, qi_max, qi_min, at_o, at_i, at_l, at_q, at_a, lget, lset, lclr, lnon, lnth, spl, shrt, rpush, true_and, and_true, List.set, List.length, Nat.reduceAdd, Nat.reduceLT, Nat.reduceLeDiff, Nat.reduceEqDiff, Nat.reduceSub]
    exact l0
  refine MX.of (lv := [some (.ref m), some (.int (nI s)), some (.int (nI c)), none, none]) 2 rfl (by decide) (Nat.le_of_ble_eq_true rfl) (sn_R_isGood_0 _ _ _ ?_)
  simp only [vc_R_isGood_0, vc_R_isGood_17, qi_push, qi_pushl, qi_iload, qi_lload, qi_aload, qi_istore, qi_astore, qi_lstore, qi_iinc, qi_iadd, qi_isub, qi_imul, qi_iand, qi_ior, qi_ixor, qi_ishl, qi_ishr, qi_iushr, qi_idiv, qi_irem, qi_lor, qi_lmul, qi_ladd, qi_lsub, qi_land, qi_lshl, qi_lshr, qi_i2l, qi_l2i, qi_i2c, qi_lcmp, qi_dup, qi_dup2, qi_pop, qi_if_eq, qi_icmp_eq, qi_if_ne, qi_icmp_ne, qi_if_lt, qi_icmp_lt, qi_if_ge, qi_icmp_ge, qi_if_gt, qi_icmp_gt, qi_if_le, qi_icmp_le, qi_sw, qi_get, qi_put, qi_iald, qi_lald, qi_aald, qi_iast, qi_zast, qi_cast, qi_last, qi_aast, qi_alen, qi_new, qi_newa, qi_newq, qi_obj, qi_invS, qi_invV, qi_invI, qi_iret, qi_zret, qi_lret, qi_vret, qi_acopy, qi_max, qi_min, at_o, at_i, at_l, at_q, at_a, lget, lset, lclr, lnon, lnth, spl, shrt, rpush, true_and, and_true, List.set, List.length, Nat.reduceAdd, Nat.reduceLT, Nat.reduceLeDiff, Nat.reduceEqDiff, Nat.reduceSub, o0]
  rw [← nI_0, nI_leI (by omega) (by omega)]
  refine ⟨fun q => k18 false (decide_eq_false (by omega)).symm, fun q => ⟨_, _, c_R_timesOf hr hX hw (by omega), ?_⟩⟩
  simp only [qi_push, qi_pushl, qi_iload, qi_lload, qi_aload, qi_istore, qi_astore, qi_lstore, qi_iinc, qi_iadd, qi_isub, qi_imul, qi_iand, qi_ior, qi_ixor, qi_ishl, qi_ishr, qi_iushr, qi_idiv, qi_irem, qi_lor, qi_lmul, qi_ladd, qi_lsub, qi_land, qi_lshl, qi_lshr, qi_i2l, qi_l2i, qi_i2c, qi_lcmp, qi_dup, qi_dup2, qi_pop, qi_if_eq, qi_icmp_eq, qi_if_ne, qi_icmp_ne, qi_if_lt, qi_icmp_lt, qi_if_ge, qi_icmp_ge, qi_if_gt, qi_icmp_gt, qi_if_le, qi_icmp_le, qi_sw, qi_get, qi_put, qi_iald, qi_lald, qi_aald, qi_iast, qi_zast, qi_cast, qi_last, qi_aast, qi_alen, qi_new, qi_newa, qi_newq, qi_obj, qi_invS, qi_invV, qi_invI, qi_iret, qi_zret, qi_lret, qi_vret, qi_acopy, qi_max, qi_min, at_o, at_i, at_l, at_q, at_a, lget, lset, lclr, lnon, lnth, spl, shrt, rpush, true_and, and_true, List.set, List.length, Nat.reduceAdd, Nat.reduceLT, Nat.reduceLeDiff, Nat.reduceEqDiff, Nat.reduceSub]
  rw [nI_ltI (by omega) (by omega)]
  exact ⟨fun q2 => k18 false (decide_eq_false (by omega)).symm, fun q2 => k18 true (decide_eq_true (by omega)).symm⟩
theorem c_R_isNext (hr : isR h m len um sp fs X Q) {c : Nat} (hg : fgP n c T B A J X) (hn : n ≤ 12) (hB : ∀ x, B x < 4096) {d s : Nat} (hd : d < 2 ^ n) (hs : s < 2 ^ n) : MA M_R_isNext [.ref m, .int (nI d), .int (nI s)] h (some (.int (nI (nxb n c T B A J d s).toNat))) h := by
  have o0 := hr.1
  have o5 := hr.2.2.2.2.2.1
  have o6 := hr.2.2.2.2.2.2.1
  have l12 : 2 ^ n ≤ 2 ^ 12 := Nat.pow_le_pow_right (by omega) hn
  obtain ⟨g1, g2⟩ := hg s hs
  have bl := bor_lt hB s n
  have vs : vp_in (nI s) 4096 := vp_in_nI (by omega) (by omega)
  have qs : (nI s).toNatClampNeg = s := nI_clamp (by omega)
  refine MX.of (lv := [some (.ref m), some (.int (nI d)), some (.int (nI s))]) 0 rfl (by decide) (Nat.le_of_ble_eq_true rfl) (sn_R_isNext_0 _ _ _ ?_)
  simp only [vc_R_isNext_0, vc_R_isNext_28, vc_R_isNext_29, qi_push, qi_pushl, qi_iload, qi_lload, qi_aload, qi_istore, qi_astore, qi_lstore, qi_iinc, qi_iadd, qi_isub, qi_imul, qi_iand, qi_ior, qi_ixor, qi_ishl, qi_ishr, qi_iushr, qi_idiv, qi_irem, qi_lor, qi_lmul, qi_ladd, qi_lsub, qi_land, qi_lshl, qi_lshr, qi_i2l, qi_l2i, qi_i2c, qi_lcmp, qi_dup, qi_dup2, qi_pop, qi_if_eq, qi_icmp_eq, qi_if_ne, qi_icmp_ne, qi_if_lt, qi_icmp_lt, qi_if_ge, qi_icmp_ge, qi_if_gt, qi_icmp_gt, qi_if_le, qi_icmp_le, qi_sw, qi_get, qi_put, qi_iald, qi_lald, qi_aald, qi_iast, qi_zast, qi_cast, qi_last, qi_aast, qi_alen, qi_new, qi_newa, qi_newq, qi_obj, qi_invS, qi_invV, qi_invI, qi_iret, qi_zret, qi_lret, qi_vret, qi_acopy, qi_max, qi_min, at_o, at_i, at_l, at_q, at_a, lget, lset, lclr, lnon, lnth, spl, shrt, rpush, true_and, and_true, List.set, List.length, Nat.reduceAdd, Nat.reduceLT, Nat.reduceLeDiff, Nat.reduceEqDiff, Nat.reduceSub, o0, o5, o6, vs, qs, g1, g2]
  rw [ni_or, ni_not, nb_eq0, ← nI_0, nI_eq (Nat.lt_of_le_of_lt (sub_le (sdf_sub _ _)) (by omega)) (by omega)]
  unfold nxb
  refine ⟨fun c1 => ⟨Or.inl rfl, ?_⟩, fun c1 => ⟨fun c2 => ⟨Or.inl rfl, ?_⟩, fun c2 => ⟨Or.inr rfl, ?_⟩⟩⟩
  · rw [c1]; rfl
  · rw [decide_eq_false c2, Bool.and_false]; rfl
  · have c1 : gdk n c T A J s n = true := by cases z : gdk n c T A J s n; exact absurd z c1; rfl
    rw [decide_eq_true c2, c1]; rfl
end MO
