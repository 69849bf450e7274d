/-! THE MODEL: items, the fault, laying. -/
theorem rdR_C {Q : Nat → Int32} {v : pv} {c : Int32} (h : rdR Q v) : rdR (upd Q 1 c) (pvC v c) := by
  refine ⟨by rw [upd_ne (by omega)]; exact h.1, upd_eq, fun x hx => ?_⟩
  obtain ⟨a1, a2, a3, a4, a5⟩ := h.2.2 x hx
  exact ⟨by rw [upd_ne (by omega)]; exact a1, by rw [upd_ne (by omega)]; exact a2, by rw [upd_ne (by omega)]; exact a3, by rw [upd_ne (by omega)]; exact a4, by rw [upd_ne (by omega)]; exact a5⟩
theorem rdR_T {Q : Nat → Int32} {v : pv} {k : Nat} (h : rdR Q v) (hn : v.1 < 12) : rdR (upd (upd Q (2 + v.1) (nI k)) 0 (nI (v.1 + 1))) (pvT v k) := by
  refine ⟨upd_eq, by rw [upd_ne (by omega), upd_ne (by omega)]; exact h.2.1, fun x hx => ?_⟩
  obtain ⟨a1, a2, a3, a4, a5⟩ := h.2.2 x hx
  refine ⟨?_, by rw [upd_ne (by omega), upd_ne (by omega)]; exact a2, by rw [upd_ne (by omega), upd_ne (by omega)]; exact a3, by rw [upd_ne (by omega), upd_ne (by omega)]; exact a4, by rw [upd_ne (by omega), upd_ne (by omega)]; exact a5⟩
  rw [upd_ne (by omega)]
  show upd Q (2 + v.1) (nI k) (2 + x) = nI (va_up v.2.2.1 v.1 k x)
  by_cases e : x = v.1
  · rw [e, upd_eq, up_eq]
  · rw [upd_ne (by omega), up_ne e]; exact a1
theorem rdR_row {Q : Nat → Int32} {n C : Nat} {T B A J S : Nat → Nat} (h : rdR Q (n, nI C, T, B, A, J, S)) : ∀ j, j < 62 → Q j = nI (rowP n C T B A J S j) := by
  intro j hj
  by_cases e0 : j = 0
  · rw [e0]; exact h.1
  · by_cases e1 : j = 1
    · rw [e1]; exact h.2.1
    · by_cases e2 : j < 14
      · have : Q (2 + (j - 2)) = nI (T (j - 2)) := (h.2.2 (j - 2) (by omega)).1
        rw [show 2 + (j - 2) = j by omega] at this
        rw [this, ← show rowP n C T B A J S (2 + (j - 2)) = T (j - 2) from rp_T (by omega), show 2 + (j - 2) = j by omega]
      · by_cases e3 : j < 26
        · have : Q (14 + (j - 14)) = nI (B (j - 14)) := (h.2.2 (j - 14) (by omega)).2.1
          rw [show 14 + (j - 14) = j by omega] at this
          rw [this, ← show rowP n C T B A J S (14 + (j - 14)) = B (j - 14) from rp_B (by omega), show 14 + (j - 14) = j by omega]
        · by_cases e4 : j < 38
          · have : Q (26 + (j - 26)) = nI (A (j - 26)) := (h.2.2 (j - 26) (by omega)).2.2.1
            rw [show 26 + (j - 26) = j by omega] at this
            rw [this, ← show rowP n C T B A J S (26 + (j - 26)) = A (j - 26) from rp_A (by omega), show 26 + (j - 26) = j by omega]
          · by_cases e5 : j < 50
            · have : Q (38 + (j - 38)) = nI (J (j - 38)) := (h.2.2 (j - 38) (by omega)).2.2.2.1
              rw [show 38 + (j - 38) = j by omega] at this
              rw [this, ← show rowP n C T B A J S (38 + (j - 38)) = J (j - 38) from rp_J (by omega), show 38 + (j - 38) = j by omega]
            · have : Q (50 + (j - 50)) = nI (S (j - 50)) := (h.2.2 (j - 50) (by omega)).2.2.2.2
              rw [show 50 + (j - 50) = j by omega] at this
              rw [this, ← show rowP n C T B A J S (50 + (j - 50)) = S (j - 50) from rp_S, show 50 + (j - 50) = j by omega]
theorem nI_m1 {k : Nat} (h : k < 2 ^ 31) : ¬ nI k = -1 := by
  intro q
  have := congrArg Int32.toInt q
  rw [nI_toInt h, show (-1 : Int32).toInt = -1 by decide] at this
  omega
theorem nI_m4 {k : Nat} (h : k < 2 ^ 31) : ¬ nI k = -4 := by
  intro q
  have := congrArg Int32.toInt q
  rw [nI_toInt h, show (-4 : Int32).toInt = -4 by decide] at this
  omega
section MO
variable {h : hc_H} {m len um sp fs : Nat} {X : Nat → Nat → Nat} {Q : Nat → Int32}
theorem c_R_item {x : Nat} {v : pv} (hr : isR h m len um (x + 1) fs X Q) (hl : len ≤ 200) (hL : ∀ j, j < len → X 1 j < 65536) (hx : x < len) (hv : rV v) (hq : rdR Q v) :
    ∃ h' Q' sp' r, MA M_R_item [.ref m, .int (nI (X 1 x)), .int (nI (decide (x = 0)).toNat)] h (some (.int (nI (r : Bool).toNat))) h' ∧ isR h' m len um sp' fs X Q' ∧ frm h h' m 12 ∧ (r = true ↔ ∃ w s, mIt (X 1) len x v = some (w, s)) ∧ (r = true → ∀ w s, mIt (X 1) len x v = some (w, s) → sp' = s ∧ rdR Q' w) := by
  have o0 := hr.1
  have o4 := hr.2.2.2.2.1
  have kl : X 1 x < 65536 := hL x hx
  have n12 := hv.1.1
  have w0 : vp_in (nI 0) 62 := vp_in_nI (by omega) (by omega)
  have w1 : vp_in (nI 1) 62 := vp_in_nI (by omega) (by omega)
  have e99 : nI (X 1 x) = nI 99 ↔ X 1 x = 99 := nI_eq (by omega) (by omega)
  have e106 : nI (X 1 x) = nI 106 ↔ X 1 x = 106 := nI_eq (by omega) (by omega)
  have e112 : nI (X 1 x) = nI 112 ↔ X 1 x = 112 := nI_eq (by omega) (by omega)
  have e116 : nI (X 1 x) = nI 116 ↔ X 1 x = 116 := nI_eq (by omega) (by omega)
  have e120 : nI (X 1 x) = nI 120 ↔ X 1 x = 120 := nI_eq (by omega) (by omega)
  have c01 : ¬ nI 0 = nI 1 := by decide
  have c10' : ¬ nI 1 = nI 0 := by decide
  have start : ∀ {r : Int32} {h' : hc_H}, (h.2.1 ≤ h'.2.1 ∧ h.2.2 ≤ h'.2.2) → (¬ (x = 0 ↔ X 1 x = 99) → r = nI 0 ∧ h' = h) → ((x = 0 ↔ X 1 x = 99) → vc_R_item_17 (some (.int r)) h' (cx hc_tt M_R_item h h' (some (.int r))) [some (.ref m), some (.int (nI (X 1 x))), some (.int (nI (decide (x = 0)).toNat)), none] [] h) → MA M_R_item [.ref m, .int (nI (X 1 x)), .int (nI (decide (x = 0)).toNat)] h (some (.int r)) h' := by
    intro r h' hh k1 k2
    refine MX.of (lv := [some (.ref m), some (.int (nI (X 1 x))), some (.int (nI (decide (x = 0)).toNat)), none]) 1 rfl (by decide) (Nat.le_of_ble_eq_true rfl) (sn_R_item_0 _ _ _ ?_)
    have k12 : ∀ c : Bool, c = decide (X 1 x = 99) → vc_R_item_12 (some (.int r)) h' (cx hc_tt M_R_item h h' (some (.int r))) [some (.ref m), some (.int (nI (X 1 x))), some (.int (nI (decide (x = 0)).toNat)), none] [.int (nI c.toNat), .int (nI (decide (x = 0)).toNat)] h := by
      intro c hc
      subst hc
      simp only [vc_R_item_12, qi_push, qi_pushl, qi_iload, qi_lload, qi_aload, qi_istore, qi_astore, qi_lstore, qi_iinc, qi_iadd, qi_isub, qi_imul, qi_iand, qi_ior, qi_ixor, qi_ishl, qi_ishr, qi_iushr, qi_idiv, qi_irem, qi_lor, qi_lmul, qi_ladd, qi_lsub, qi_land, qi_lshl, qi_lshr, qi_i2l, qi_l2i, qi_i2c, qi_lcmp, qi_dup, qi_dup2, qi_pop, qi_if_eq, qi_icmp_eq, qi_if_ne, qi_icmp_ne, qi_if_lt, qi_icmp_lt, qi_if_ge, qi_icmp_ge, qi_if_gt, qi_icmp_gt, qi_if_le, qi_icmp_le, qi_sw, qi_get, qi_put, qi_iald, qi_lald, qi_aald, qi_iast, qi_zast, qi_cast, qi_last, qi_aast, qi_alen, qi_new, qi_newa, qi_newq, qi_obj, qi_invS, qi_invV, qi_invI, qi_iret, qi_zret, qi_lret, qi_vret, qi_acopy, qi_max, qi_min, at_o, at_i, at_l, at_q, at_a, lget, lset, lclr, lnon, lnth, spl, shrt, rpush, true_and, and_true, List.set, List.length, Nat.reduceAdd, Nat.reduceLT, Nat.reduceLeDiff, Nat.reduceEqDiff, Nat.reduceSub]
      refine ⟨fun q => k2 ?_, fun q => ?_⟩
      · by_cases z1 : x = 0 <;> by_cases z2 : X 1 x = 99
        · exact ⟨fun _ => z2, fun _ => z1⟩
        · rw [decide_eq_true z1, decide_eq_false z2] at q; exact absurd q c10'
        · rw [decide_eq_false z1, decide_eq_true z2] at q; exact absurd q c01
        · exact ⟨fun q => absurd q z1, fun q => absurd q z2⟩
      · obtain ⟨z1, z2⟩ := k1 (fun z => q (by rw [decide_eq_decide.mpr z]))
        exact ⟨Or.inl rfl, by rw [z1], z2⟩
    simp only [vc_R_item_0, vc_R_item_11, qi_push, qi_pushl, qi_iload, qi_lload, qi_aload, qi_istore, qi_astore, qi_lstore, qi_iinc, qi_iadd, qi_isub, qi_imul, qi_iand, qi_ior, qi_ixor, qi_ishl, qi_ishr, qi_iushr, qi_idiv, qi_irem, qi_lor, qi_lmul, qi_ladd, qi_lsub, qi_land, qi_lshl, qi_lshr, qi_i2l, qi_l2i, qi_i2c, qi_lcmp, qi_dup, qi_dup2, qi_pop, qi_if_eq, qi_icmp_eq, qi_if_ne, qi_icmp_ne, qi_if_lt, qi_icmp_lt, qi_if_ge, qi_icmp_ge, qi_if_gt, qi_icmp_gt, qi_if_le, qi_icmp_le, qi_sw, qi_get, qi_put, qi_iald, qi_lald, qi_aald, qi_iast, qi_zast, qi_cast, qi_last, qi_aast, qi_alen, qi_new, qi_newa, qi_newq, qi_obj, qi_invS, qi_invV, qi_invI, qi_iret, qi_zret, qi_lret, qi_vret, qi_acopy, qi_max, qi_min, at_o, at_i, at_l, at_q, at_a, lget, lset, lclr, lnon, lnth, spl, shrt, rpush, true_and, and_true, List.set, List.length, Nat.reduceAdd, Nat.reduceLT, Nat.reduceLeDiff, Nat.reduceEqDiff, Nat.reduceSub]
    rw [e99]
    exact ⟨fun q => k12 false (decide_eq_false q).symm, fun q => k12 true (decide_eq_true q).symm⟩
  by_cases cc : x = 0 ↔ X 1 x = 99
  · by_cases x0 : x = 0
    · -- the cycle
      have k99 := cc.mp x0
      obtain ⟨h1, a1, a2, a3⟩ := c_R_number hr hl hL (show x + 1 ≤ len by omega) (k := 3) (lo := 1) (hi := 120) (by omega) (by omega) (by omega)
      obtain ⟨rr, er⟩ : ∃ z, mn (X 1) len 3 (x + 1) 0 = z := ⟨_, rfl⟩
      rw [er] at a1 a2
      have rb : rr.2 < 1000 ∨ ¬ (x + 1 < rr.1 ∧ 1 ≤ rr.2 ∧ rr.2 ≤ 120) := by omega
      have hmi : mIt (X 1) len x v = if x + 1 < rr.1 ∧ 1 ≤ rr.2 ∧ rr.2 ≤ 120 then some (pvC v (nI rr.2), rr.1) else none := by
        unfold mIt
        subst x0
        rw [if_pos rfl]
        rw [show mn (X 1) len 3 1 0 = rr from er]
        by_cases z : 0 + 1 < rr.1 ∧ 1 ≤ rr.2 ∧ rr.2 ≤ 120
        · rw [if_pos z, if_pos ⟨k99, z⟩]
        · rw [if_neg z, if_neg (fun q => z q.2)]
      obtain ⟨num, en⟩ : ∃ z, (if x + 1 < rr.1 ∧ 1 ≤ rr.2 ∧ rr.2 ≤ 120 then nI rr.2 else -1) = z := ⟨_, rfl⟩
      rw [en] at a1
      have r5 := a2.setQ (f := upd Q 1 num)
      have s0 := r5.1
      have s4 : (hc_set h1 (m + 4) (.inl (0, 62, .inl (upd Q 1 num)))).1 (m + 4) = some (.inl (0, 62, .inl (upd Q 1 num))) := r5.2.2.2.2.1
      have p0 := a2.1
      have p4 := a2.2.2.2.2.1
      refine ⟨_, _, rr.1, decide (x + 1 < rr.1 ∧ 1 ≤ rr.2 ∧ rr.2 ≤ 120), start (h' := hc_set h1 (m + 4) (.inl (0, 62, .inl (upd Q 1 num)))) (by show _ ≤ h1.2.1 ∧ _ ≤ h1.2.2; rw [a3.1]; exact ⟨Nat.le_refl _, Nat.le_refl _⟩) (fun z => absurd cc z) (fun _ => ?_), r5, a3.set (by omega), ?_, fun hm w s hw' => ?_⟩
      · simp only [vc_R_item_17, qi_push, qi_pushl, qi_iload, qi_lload, qi_aload, qi_istore, qi_astore, qi_lstore, qi_iinc, qi_iadd, qi_isub, qi_imul, qi_iand, qi_ior, qi_ixor, qi_ishl, qi_ishr, qi_iushr, qi_idiv, qi_irem, qi_lor, qi_lmul, qi_ladd, qi_lsub, qi_land, qi_lshl, qi_lshr, qi_i2l, qi_l2i, qi_i2c, qi_lcmp, qi_dup, qi_dup2, qi_pop, qi_if_eq, qi_icmp_eq, qi_if_ne, qi_icmp_ne, qi_if_lt, qi_icmp_lt, qi_if_ge, qi_icmp_ge, qi_if_gt, qi_icmp_gt, qi_if_le, qi_icmp_le, qi_sw, qi_get, qi_put, qi_iald, qi_lald, qi_aald, qi_iast, qi_zast, qi_cast, qi_last, qi_aast, qi_alen, qi_new, qi_newa, qi_newq, qi_obj, qi_invS, qi_invV, qi_invI, qi_iret, qi_zret, qi_lret, qi_vret, qi_acopy, qi_max, qi_min, at_o, at_i, at_l, at_q, at_a, lget, lset, lclr, lnon, lnth, spl, shrt, rpush, true_and, and_true, List.set, List.length, Nat.reduceAdd, Nat.reduceLT, Nat.reduceLeDiff, Nat.reduceEqDiff, Nat.reduceSub]
        rw [e99]
        refine ⟨fun _ => ?_, fun q => absurd k99 q⟩
        simp only [vc_R_item_68, vc_R_item_96, vc_R_item_97, qi_push, qi_pushl, qi_iload, qi_lload, qi_aload, qi_istore, qi_astore, qi_lstore, qi_iinc, qi_iadd, qi_isub, qi_imul, qi_iand, qi_ior, qi_ixor, qi_ishl, qi_ishr, qi_iushr, qi_idiv, qi_irem, qi_lor, qi_lmul, qi_ladd, qi_lsub, qi_land, qi_lshl, qi_lshr, qi_i2l, qi_l2i, qi_i2c, qi_lcmp, qi_dup, qi_dup2, qi_pop, qi_if_eq, qi_icmp_eq, qi_if_ne, qi_icmp_ne, qi_if_lt, qi_icmp_lt, qi_if_ge, qi_icmp_ge, qi_if_gt, qi_icmp_gt, qi_if_le, qi_icmp_le, qi_sw, qi_get, qi_put, qi_iald, qi_lald, qi_aald, qi_iast, qi_zast, qi_cast, qi_last, qi_aast, qi_alen, qi_new, qi_newa, qi_newq, qi_obj, qi_invS, qi_invV, qi_invI, qi_iret, qi_zret, qi_lret, qi_vret, qi_acopy, qi_max, qi_min, at_o, at_i, at_l, at_q, at_a, lget, lset, lclr, lnon, lnth, spl, shrt, rpush, true_and, and_true, List.set, List.length, Nat.reduceAdd, Nat.reduceLT, Nat.reduceLeDiff, Nat.reduceEqDiff, Nat.reduceSub, o0]
        refine ⟨_, _, a1, ?_⟩
        simp only [qi_push, qi_pushl, qi_iload, qi_lload, qi_aload, qi_istore, qi_astore, qi_lstore, qi_iinc, qi_iadd, qi_isub, qi_imul, qi_iand, qi_ior, qi_ixor, qi_ishl, qi_ishr, qi_iushr, qi_idiv, qi_irem, qi_lor, qi_lmul, qi_ladd, qi_lsub, qi_land, qi_lshl, qi_lshr, qi_i2l, qi_l2i, qi_i2c, qi_lcmp, qi_dup, qi_dup2, qi_pop, qi_if_eq, qi_icmp_eq, qi_if_ne, qi_icmp_ne, qi_if_lt, qi_icmp_lt, qi_if_ge, qi_icmp_ge, qi_if_gt, qi_icmp_gt, qi_if_le, qi_icmp_le, qi_sw, qi_get, qi_put, qi_iald, qi_lald, qi_aald, qi_iast, qi_zast, qi_cast, qi_last, qi_aast, qi_alen, qi_new, qi_newa, qi_newq, qi_obj, qi_invS, qi_invV, qi_invI, qi_iret, qi_zret, qi_lret, qi_vret, qi_acopy, qi_max, qi_min, at_o, at_i, at_l, at_q, at_a, lget, lset, lclr, lnon, lnth, spl, shrt, rpush, true_and, and_true, List.set, List.length, Nat.reduceAdd, Nat.reduceLT, Nat.reduceLeDiff, Nat.reduceEqDiff, Nat.reduceSub, p4, w1, r1]
        simp only [qi_push, qi_pushl, qi_iload, qi_lload, qi_aload, qi_istore, qi_astore, qi_lstore, qi_iinc, qi_iadd, qi_isub, qi_imul, qi_iand, qi_ior, qi_ixor, qi_ishl, qi_ishr, qi_iushr, qi_idiv, qi_irem, qi_lor, qi_lmul, qi_ladd, qi_lsub, qi_land, qi_lshl, qi_lshr, qi_i2l, qi_l2i, qi_i2c, qi_lcmp, qi_dup, qi_dup2, qi_pop, qi_if_eq, qi_icmp_eq, qi_if_ne, qi_icmp_ne, qi_if_lt, qi_icmp_lt, qi_if_ge, qi_icmp_ge, qi_if_gt, qi_icmp_gt, qi_if_le, qi_icmp_le, qi_sw, qi_get, qi_put, qi_iald, qi_lald, qi_aald, qi_iast, qi_zast, qi_cast, qi_last, qi_aast, qi_alen, qi_new, qi_newa, qi_newq, qi_obj, qi_invS, qi_invV, qi_invI, qi_iret, qi_zret, qi_lret, qi_vret, qi_acopy, qi_max, qi_min, at_o, at_i, at_l, at_q, at_a, lget, lset, lclr, lnon, lnth, spl, shrt, rpush, true_and, and_true, List.set, List.length, Nat.reduceAdd, Nat.reduceLT, Nat.reduceLeDiff, Nat.reduceEqDiff, Nat.reduceSub, s0, s4, w1, r1, upd_eq]
        rw [← en]
        by_cases z : x + 1 < rr.1 ∧ 1 ≤ rr.2 ∧ rr.2 ≤ 120
        · rw [if_pos z, decide_eq_true z]
          exact ⟨fun q => absurd q (nI_m1 (by omega)), fun _ => ⟨Or.inr rfl, (by first | trivial | exact ⟨rfl, rfl⟩)⟩⟩
        · rw [if_neg z, decide_eq_false z]
          exact ⟨fun _ => ⟨Or.inl rfl, (by first | trivial | exact ⟨rfl, rfl⟩)⟩, fun q => absurd (by first | trivial | rfl) q⟩
      · rw [hmi, decide_eq_true_eq]
        constructor
        · intro z
          rw [if_pos z]; exact ⟨_, _, rfl⟩
        · rintro ⟨w, s, z⟩
          apply Classical.byContradiction
          intro q
          rw [if_neg q] at z; cases z
      · have z := of_decide_eq_true hm
        rw [hmi, if_pos z] at hw'
        cases hw'
        rw [if_pos z] at en
        rw [← en]
        exact ⟨rfl, rdR_C hq⟩
    · have n99 : ¬ X 1 x = 99 := fun q => x0 (cc.mpr q)
      by_cases k116 : X 1 x = 116
      · -- a task
        obtain ⟨h1, a1, a2, a3⟩ := c_R_number hr hl hL (show x + 1 ≤ len by omega) (k := 2) (lo := 1) (hi := 60) (by omega) (by omega) (by omega)
        obtain ⟨rr, er⟩ : ∃ z, mn (X 1) len 2 (x + 1) 0 = z := ⟨_, rfl⟩
        rw [er] at a1 a2
        have hmi : mIt (X 1) len x v = if x + 1 < rr.1 ∧ (1 ≤ rr.2 ∧ rr.2 ≤ 60) ∧ v.1 < 12 then some (pvT v rr.2, rr.1) else none := by
          unfold mIt
          rw [if_neg x0, if_pos k116, er]
        have p0 := a2.1
        have p4 := a2.2.2.2.2.1
        have v2 : v.1 < 12 → vp_in (nI (2 + v.1)) 62 := fun q => vp_in_nI (by omega) (by omega)
        have c2 : (nI (2 + v.1)).toNatClampNeg = 2 + v.1 := nI_clamp (by omega)
        by_cases z : x + 1 < rr.1 ∧ (1 ≤ rr.2 ∧ rr.2 ≤ 60) ∧ v.1 < 12
        · rw [if_pos z] at hmi
          rw [if_pos ⟨z.1, z.2.1⟩] at a1
          have r5 := (a2.setQ (f := upd Q (2 + v.1) (nI rr.2))).setQ (f := upd (upd Q (2 + v.1) (nI rr.2)) 0 (nI (v.1 + 1)))
          have s0 := (a2.setQ (f := upd Q (2 + v.1) (nI rr.2))).1
          have s4 : (hc_set h1 (m + 4) (.inl (0, 62, .inl (upd Q (2 + v.1) (nI rr.2))))).1 (m + 4) = some (.inl (0, 62, .inl (upd Q (2 + v.1) (nI rr.2)))) := (a2.setQ (f := upd Q (2 + v.1) (nI rr.2))).2.2.2.2.1
          refine ⟨_, _, rr.1, true, start (h' := hc_set (hc_set h1 (m + 4) (.inl (0, 62, .inl (upd Q (2 + v.1) (nI rr.2))))) (m + 4) (.inl (0, 62, .inl (upd (upd Q (2 + v.1) (nI rr.2)) 0 (nI (v.1 + 1)))))) (by show _ ≤ h1.2.1 ∧ _ ≤ h1.2.2; rw [a3.1]; exact ⟨Nat.le_refl _, Nat.le_refl _⟩) (fun q => absurd cc q) (fun _ => ?_), r5, (a3.set (by omega)).set (by omega), ⟨fun _ => ⟨_, _, hmi⟩, fun _ => rfl⟩, fun _ w s hw' => ?_⟩
          · simp only [vc_R_item_17, qi_push, qi_pushl, qi_iload, qi_lload, qi_aload, qi_istore, qi_astore, qi_lstore, qi_iinc, qi_iadd, qi_isub, qi_imul, qi_iand, qi_ior, qi_ixor, qi_ishl, qi_ishr, qi_iushr, qi_idiv, qi_irem, qi_lor, qi_lmul, qi_ladd, qi_lsub, qi_land, qi_lshl, qi_lshr, qi_i2l, qi_l2i, qi_i2c, qi_lcmp, qi_dup, qi_dup2, qi_pop, qi_if_eq, qi_icmp_eq, qi_if_ne, qi_icmp_ne, qi_if_lt, qi_icmp_lt, qi_if_ge, qi_icmp_ge, qi_if_gt, qi_icmp_gt, qi_if_le, qi_icmp_le, qi_sw, qi_get, qi_put, qi_iald, qi_lald, qi_aald, qi_iast, qi_zast, qi_cast, qi_last, qi_aast, qi_alen, qi_new, qi_newa, qi_newq, qi_obj, qi_invS, qi_invV, qi_invI, qi_iret, qi_zret, qi_lret, qi_vret, qi_acopy, qi_max, qi_min, at_o, at_i, at_l, at_q, at_a, lget, lset, lclr, lnon, lnth, spl, shrt, rpush, true_and, and_true, List.set, List.length, Nat.reduceAdd, Nat.reduceLT, Nat.reduceLeDiff, Nat.reduceEqDiff, Nat.reduceSub]
            rw [e99, e106, e112, e116]
            refine ⟨fun q => absurd q n99, fun _ => ⟨fun q => absurd q (by omega), fun _ => ⟨fun q => absurd q (by omega), fun _ => ⟨fun _ => ?_, fun q => absurd k116 q⟩⟩⟩⟩
            simp only [vc_R_item_98, vc_R_item_123, vc_R_item_125, qi_push, qi_pushl, qi_iload, qi_lload, qi_aload, qi_istore, qi_astore, qi_lstore, qi_iinc, qi_iadd, qi_isub, qi_imul, qi_iand, qi_ior, qi_ixor, qi_ishl, qi_ishr, qi_iushr, qi_idiv, qi_irem, qi_lor, qi_lmul, qi_ladd, qi_lsub, qi_land, qi_lshl, qi_lshr, qi_i2l, qi_l2i, qi_i2c, qi_lcmp, qi_dup, qi_dup2, qi_pop, qi_if_eq, qi_icmp_eq, qi_if_ne, qi_icmp_ne, qi_if_lt, qi_icmp_lt, qi_if_ge, qi_icmp_ge, qi_if_gt, qi_icmp_gt, qi_if_le, qi_icmp_le, qi_sw, qi_get, qi_put, qi_iald, qi_lald, qi_aald, qi_iast, qi_zast, qi_cast, qi_last, qi_aast, qi_alen, qi_new, qi_newa, qi_newq, qi_obj, qi_invS, qi_invV, qi_invI, qi_iret, qi_zret, qi_lret, qi_vret, qi_acopy, qi_max, qi_min, at_o, at_i, at_l, at_q, at_a, lget, lset, lclr, lnon, lnth, spl, shrt, rpush, true_and, and_true, List.set, List.length, Nat.reduceAdd, Nat.reduceLT, Nat.reduceLeDiff, Nat.reduceEqDiff, Nat.reduceSub, o0]
            refine ⟨_, _, a1, ?_⟩
            simp only [qi_push, qi_pushl, qi_iload, qi_lload, qi_aload, qi_istore, qi_astore, qi_lstore, qi_iinc, qi_iadd, qi_isub, qi_imul, qi_iand, qi_ior, qi_ixor, qi_ishl, qi_ishr, qi_iushr, qi_idiv, qi_irem, qi_lor, qi_lmul, qi_ladd, qi_lsub, qi_land, qi_lshl, qi_lshr, qi_i2l, qi_l2i, qi_i2c, qi_lcmp, qi_dup, qi_dup2, qi_pop, qi_if_eq, qi_icmp_eq, qi_if_ne, qi_icmp_ne, qi_if_lt, qi_icmp_lt, qi_if_ge, qi_icmp_ge, qi_if_gt, qi_icmp_gt, qi_if_le, qi_icmp_le, qi_sw, qi_get, qi_put, qi_iald, qi_lald, qi_aald, qi_iast, qi_zast, qi_cast, qi_last, qi_aast, qi_alen, qi_new, qi_newa, qi_newq, qi_obj, qi_invS, qi_invV, qi_invI, qi_iret, qi_zret, qi_lret, qi_vret, qi_acopy, qi_max, qi_min, at_o, at_i, at_l, at_q, at_a, lget, lset, lclr, lnon, lnth, spl, shrt, rpush, true_and, and_true, List.set, List.length, Nat.reduceAdd, Nat.reduceLT, Nat.reduceLeDiff, Nat.reduceEqDiff, Nat.reduceSub, p0, p4, w0, r0, hq.1, nI_add, v2 z.2.2, c2]
            simp only [qi_push, qi_pushl, qi_iload, qi_lload, qi_aload, qi_istore, qi_astore, qi_lstore, qi_iinc, qi_iadd, qi_isub, qi_imul, qi_iand, qi_ior, qi_ixor, qi_ishl, qi_ishr, qi_iushr, qi_idiv, qi_irem, qi_lor, qi_lmul, qi_ladd, qi_lsub, qi_land, qi_lshl, qi_lshr, qi_i2l, qi_l2i, qi_i2c, qi_lcmp, qi_dup, qi_dup2, qi_pop, qi_if_eq, qi_icmp_eq, qi_if_ne, qi_icmp_ne, qi_if_lt, qi_icmp_lt, qi_if_ge, qi_icmp_ge, qi_if_gt, qi_icmp_gt, qi_if_le, qi_icmp_le, qi_sw, qi_get, qi_put, qi_iald, qi_lald, qi_aald, qi_iast, qi_zast, qi_cast, qi_last, qi_aast, qi_alen, qi_new, qi_newa, qi_newq, qi_obj, qi_invS, qi_invV, qi_invI, qi_iret, qi_zret, qi_lret, qi_vret, qi_acopy, qi_max, qi_min, at_o, at_i, at_l, at_q, at_a, lget, lset, lclr, lnon, lnth, spl, shrt, rpush, true_and, and_true, List.set, List.length, Nat.reduceAdd, Nat.reduceLT, Nat.reduceLeDiff, Nat.reduceEqDiff, Nat.reduceSub, s0, s4, w0, r0]
            rw [upd_ne (show ¬ 0 = 2 + v.1 by omega), hq.1, nI_add, nI_eq (by omega) (by omega)]
            exact ⟨fun q => absurd q (nI_m1 (by omega)), fun _ => ⟨fun _ => ⟨Or.inr rfl, (by first | trivial | exact ⟨rfl, rfl⟩)⟩, fun q => absurd q (by omega)⟩⟩
          · rw [hmi] at hw'
            cases hw'
            exact ⟨rfl, rdR_T hq z.2.2⟩
        · rw [if_neg z] at hmi
          refine ⟨h1, Q, rr.1, false, start (by rw [a3.1]; exact ⟨Nat.le_refl _, Nat.le_refl _⟩) (fun q => absurd cc q) (fun _ => ?_), a2, a3, ⟨fun q => (by cases q), fun ⟨w, s, q⟩ => by rw [hmi] at q; cases q⟩, fun q => (by cases q)⟩
          simp only [vc_R_item_17, qi_push, qi_pushl, qi_iload, qi_lload, qi_aload, qi_istore, qi_astore, qi_lstore, qi_iinc, qi_iadd, qi_isub, qi_imul, qi_iand, qi_ior, qi_ixor, qi_ishl, qi_ishr, qi_iushr, qi_idiv, qi_irem, qi_lor, qi_lmul, qi_ladd, qi_lsub, qi_land, qi_lshl, qi_lshr, qi_i2l, qi_l2i, qi_i2c, qi_lcmp, qi_dup, qi_dup2, qi_pop, qi_if_eq, qi_icmp_eq, qi_if_ne, qi_icmp_ne, qi_if_lt, qi_icmp_lt, qi_if_ge, qi_icmp_ge, qi_if_gt, qi_icmp_gt, qi_if_le, qi_icmp_le, qi_sw, qi_get, qi_put, qi_iald, qi_lald, qi_aald, qi_iast, qi_zast, qi_cast, qi_last, qi_aast, qi_alen, qi_new, qi_newa, qi_newq, qi_obj, qi_invS, qi_invV, qi_invI, qi_iret, qi_zret, qi_lret, qi_vret, qi_acopy, qi_max, qi_min, at_o, at_i, at_l, at_q, at_a, lget, lset, lclr, lnon, lnth, spl, shrt, rpush, true_and, and_true, List.set, List.length, Nat.reduceAdd, Nat.reduceLT, Nat.reduceLeDiff, Nat.reduceEqDiff, Nat.reduceSub]
          rw [e99, e106, e112, e116]
          refine ⟨fun q => absurd q n99, fun _ => ⟨fun q => absurd q (by omega), fun _ => ⟨fun q => absurd q (by omega), fun _ => ⟨fun _ => ?_, fun q => absurd k116 q⟩⟩⟩⟩
          simp only [vc_R_item_98, vc_R_item_123, qi_push, qi_pushl, qi_iload, qi_lload, qi_aload, qi_istore, qi_astore, qi_lstore, qi_iinc, qi_iadd, qi_isub, qi_imul, qi_iand, qi_ior, qi_ixor, qi_ishl, qi_ishr, qi_iushr, qi_idiv, qi_irem, qi_lor, qi_lmul, qi_ladd, qi_lsub, qi_land, qi_lshl, qi_lshr, qi_i2l, qi_l2i, qi_i2c, qi_lcmp, qi_dup, qi_dup2, qi_pop, qi_if_eq, qi_icmp_eq, qi_if_ne, qi_icmp_ne, qi_if_lt, qi_icmp_lt, qi_if_ge, qi_icmp_ge, qi_if_gt, qi_icmp_gt, qi_if_le, qi_icmp_le, qi_sw, qi_get, qi_put, qi_iald, qi_lald, qi_aald, qi_iast, qi_zast, qi_cast, qi_last, qi_aast, qi_alen, qi_new, qi_newa, qi_newq, qi_obj, qi_invS, qi_invV, qi_invI, qi_iret, qi_zret, qi_lret, qi_vret, qi_acopy, qi_max, qi_min, at_o, at_i, at_l, at_q, at_a, lget, lset, lclr, lnon, lnth, spl, shrt, rpush, true_and, and_true, List.set, List.length, Nat.reduceAdd, Nat.reduceLT, Nat.reduceLeDiff, Nat.reduceEqDiff, Nat.reduceSub, o0]
          refine ⟨_, _, a1, ?_⟩
          simp only [qi_push, qi_pushl, qi_iload, qi_lload, qi_aload, qi_istore, qi_astore, qi_lstore, qi_iinc, qi_iadd, qi_isub, qi_imul, qi_iand, qi_ior, qi_ixor, qi_ishl, qi_ishr, qi_iushr, qi_idiv, qi_irem, qi_lor, qi_lmul, qi_ladd, qi_lsub, qi_land, qi_lshl, qi_lshr, qi_i2l, qi_l2i, qi_i2c, qi_lcmp, qi_dup, qi_dup2, qi_pop, qi_if_eq, qi_icmp_eq, qi_if_ne, qi_icmp_ne, qi_if_lt, qi_icmp_lt, qi_if_ge, qi_icmp_ge, qi_if_gt, qi_icmp_gt, qi_if_le, qi_icmp_le, qi_sw, qi_get, qi_put, qi_iald, qi_lald, qi_aald, qi_iast, qi_zast, qi_cast, qi_last, qi_aast, qi_alen, qi_new, qi_newa, qi_newq, qi_obj, qi_invS, qi_invV, qi_invI, qi_iret, qi_zret, qi_lret, qi_vret, qi_acopy, qi_max, qi_min, at_o, at_i, at_l, at_q, at_a, lget, lset, lclr, lnon, lnth, spl, shrt, rpush, true_and, and_true, List.set, List.length, Nat.reduceAdd, Nat.reduceLT, Nat.reduceLeDiff, Nat.reduceEqDiff, Nat.reduceSub, p0, p4, w0, r0, hq.1]
          rw [nI_eq (by omega) (by omega)]
          by_cases z1 : x + 1 < rr.1 ∧ 1 ≤ rr.2 ∧ rr.2 ≤ 60
          · rw [if_pos z1]
            exact ⟨fun _ => ⟨Or.inl rfl, (by first | trivial | exact ⟨rfl, rfl⟩)⟩, fun _ => ⟨fun q => absurd (show v.1 = 12 by have := fun q => z ⟨z1.1, z1.2, q⟩; omega) q, fun _ => ⟨Or.inl rfl, (by first | trivial | exact ⟨rfl, rfl⟩)⟩⟩⟩
          · rw [if_neg z1]
            exact ⟨fun _ => ⟨Or.inl rfl, (by first | trivial | exact ⟨rfl, rfl⟩)⟩, fun q => absurd (by first | trivial | rfl) q⟩
      · by_cases kp : X 1 x = 112 ∨ X 1 x = 120 ∨ X 1 x = 106
        · -- a pair
          obtain ⟨h1, Q1, sp1, r, a1, a2, a3, a4, a5⟩ := c_R_pairItem hr hl hL hx hv hq kp
          have hmi : mIt (X 1) len x v = if x + 2 < len then (match itP (X 1) x v with
              | some w => some (w, x + 3)
              | none => none) else none := by
            unfold mIt
            rw [if_neg x0, if_neg k116, if_pos kp]
            rfl
          refine ⟨h1, Q1, sp1, r, start (by rw [a3.1]; exact ⟨Nat.le_refl _, Nat.le_refl _⟩) (fun q => absurd cc q) (fun _ => ?_), a2, a3, ?_, fun hm w s hw' => ?_⟩
          · have k151 : vc_R_item_151 (some (.int (nI r.toNat))) h1 (cx hc_tt M_R_item h h1 (some (.int (nI r.toNat)))) [some (.ref m), some (.int (nI (X 1 x))), some (.int (nI (decide (x = 0)).toNat)), none] [] h := by
              simp only [vc_R_item_151, qi_push, qi_pushl, qi_iload, qi_lload, qi_aload, qi_istore, qi_astore, qi_lstore, qi_iinc, qi_iadd, qi_isub, qi_imul, qi_iand, qi_ior, qi_ixor, qi_ishl, qi_ishr, qi_iushr, qi_idiv, qi_irem, qi_lor, qi_lmul, qi_ladd, qi_lsub, qi_land, qi_lshl, qi_lshr, qi_i2l, qi_l2i, qi_i2c, qi_lcmp, qi_dup, qi_dup2, qi_pop, qi_if_eq, qi_icmp_eq, qi_if_ne, qi_icmp_ne, qi_if_lt, qi_icmp_lt, qi_if_ge, qi_icmp_ge, qi_if_gt, qi_icmp_gt, qi_if_le, qi_icmp_le, qi_sw, qi_get, qi_put, qi_iald, qi_lald, qi_aald, qi_iast, qi_zast, qi_cast, qi_last, qi_aast, qi_alen, qi_new, qi_newa, qi_newq, qi_obj, qi_invS, qi_invV, qi_invI, qi_iret, qi_zret, qi_lret, qi_vret, qi_acopy, qi_max, qi_min, at_o, at_i, at_l, at_q, at_a, lget, lset, lclr, lnon, lnth, spl, shrt, rpush, true_and, and_true, List.set, List.length, Nat.reduceAdd, Nat.reduceLT, Nat.reduceLeDiff, Nat.reduceEqDiff, Nat.reduceSub, o0]
              refine ⟨_, _, a1, ?_⟩
              simp only [qi_push, qi_pushl, qi_iload, qi_lload, qi_aload, qi_istore, qi_astore, qi_lstore, qi_iinc, qi_iadd, qi_isub, qi_imul, qi_iand, qi_ior, qi_ixor, qi_ishl, qi_ishr, qi_iushr, qi_idiv, qi_irem, qi_lor, qi_lmul, qi_ladd, qi_lsub, qi_land, qi_lshl, qi_lshr, qi_i2l, qi_l2i, qi_i2c, qi_lcmp, qi_dup, qi_dup2, qi_pop, qi_if_eq, qi_icmp_eq, qi_if_ne, qi_icmp_ne, qi_if_lt, qi_icmp_lt, qi_if_ge, qi_icmp_ge, qi_if_gt, qi_icmp_gt, qi_if_le, qi_icmp_le, qi_sw, qi_get, qi_put, qi_iald, qi_lald, qi_aald, qi_iast, qi_zast, qi_cast, qi_last, qi_aast, qi_alen, qi_new, qi_newa, qi_newq, qi_obj, qi_invS, qi_invV, qi_invI, qi_iret, qi_zret, qi_lret, qi_vret, qi_acopy, qi_max, qi_min, at_o, at_i, at_l, at_q, at_a, lget, lset, lclr, lnon, lnth, spl, shrt, rpush, true_and, and_true, List.set, List.length, Nat.reduceAdd, Nat.reduceLT, Nat.reduceLeDiff, Nat.reduceEqDiff, Nat.reduceSub]
              exact nb_01 _
            simp only [vc_R_item_17, qi_push, qi_pushl, qi_iload, qi_lload, qi_aload, qi_istore, qi_astore, qi_lstore, qi_iinc, qi_iadd, qi_isub, qi_imul, qi_iand, qi_ior, qi_ixor, qi_ishl, qi_ishr, qi_iushr, qi_idiv, qi_irem, qi_lor, qi_lmul, qi_ladd, qi_lsub, qi_land, qi_lshl, qi_lshr, qi_i2l, qi_l2i, qi_i2c, qi_lcmp, qi_dup, qi_dup2, qi_pop, qi_if_eq, qi_icmp_eq, qi_if_ne, qi_icmp_ne, qi_if_lt, qi_icmp_lt, qi_if_ge, qi_icmp_ge, qi_if_gt, qi_icmp_gt, qi_if_le, qi_icmp_le, qi_sw, qi_get, qi_put, qi_iald, qi_lald, qi_aald, qi_iast, qi_zast, qi_cast, qi_last, qi_aast, qi_alen, qi_new, qi_newa, qi_newq, qi_obj, qi_invS, qi_invV, qi_invI, qi_iret, qi_zret, qi_lret, qi_vret, qi_acopy, qi_max, qi_min, at_o, at_i, at_l, at_q, at_a, lget, lset, lclr, lnon, lnth, spl, shrt, rpush, true_and, and_true, List.set, List.length, Nat.reduceAdd, Nat.reduceLT, Nat.reduceLeDiff, Nat.reduceEqDiff, Nat.reduceSub]
            rw [e99, e106, e112, e116, e120]
            exact ⟨fun q => absurd q n99, fun _ => ⟨fun _ => k151, fun q1 => ⟨fun _ => k151, fun q2 => ⟨fun q => absurd q k116, fun _ => ⟨fun _ => k151, fun q3 => absurd kp (by omega)⟩⟩⟩⟩⟩
          · rw [a4, hmi]
            constructor
            · rintro ⟨q1, w, q2⟩
              rw [if_pos q1, q2]
              exact ⟨w, _, rfl⟩
            · rintro ⟨w, s, q⟩
              by_cases q1 : x + 2 < len
              · rw [if_pos q1] at q
                refine ⟨q1, ?_⟩
                cases hi : itP (X 1) x v with
                | none => rw [hi] at q; cases q
                | some u => exact ⟨u, rfl⟩
              · rw [if_neg q1] at q; cases q
          · obtain ⟨b1, b2⟩ := a5 hm
            obtain ⟨q1, u, q2⟩ := a4.mp hm
            rw [hmi, if_pos q1, q2] at hw'
            have hw' : some (u, x + 3) = some (w, s) := hw'
            cases hw'
            exact ⟨b1, b2 _ q2⟩
        · have hmi : mIt (X 1) len x v = none := by
            unfold mIt
            rw [if_neg x0, if_neg k116, if_neg kp]
          refine ⟨h, Q, x + 1, false, start ⟨Nat.le_refl _, Nat.le_refl _⟩ (fun q => absurd cc q) (fun _ => ?_), hr, frm.rfl', ⟨fun q => (by cases q), fun ⟨w, s, q⟩ => by rw [hmi] at q; cases q⟩, fun q => (by cases q)⟩
          simp only [vc_R_item_17, vc_R_item_157, qi_push, qi_pushl, qi_iload, qi_lload, qi_aload, qi_istore, qi_astore, qi_lstore, qi_iinc, qi_iadd, qi_isub, qi_imul, qi_iand, qi_ior, qi_ixor, qi_ishl, qi_ishr, qi_iushr, qi_idiv, qi_irem, qi_lor, qi_lmul, qi_ladd, qi_lsub, qi_land, qi_lshl, qi_lshr, qi_i2l, qi_l2i, qi_i2c, qi_lcmp, qi_dup, qi_dup2, qi_pop, qi_if_eq, qi_icmp_eq, qi_if_ne, qi_icmp_ne, qi_if_lt, qi_icmp_lt, qi_if_ge, qi_icmp_ge, qi_if_gt, qi_icmp_gt, qi_if_le, qi_icmp_le, qi_sw, qi_get, qi_put, qi_iald, qi_lald, qi_aald, qi_iast, qi_zast, qi_cast, qi_last, qi_aast, qi_alen, qi_new, qi_newa, qi_newq, qi_obj, qi_invS, qi_invV, qi_invI, qi_iret, qi_zret, qi_lret, qi_vret, qi_acopy, qi_max, qi_min, at_o, at_i, at_l, at_q, at_a, lget, lset, lclr, lnon, lnth, spl, shrt, rpush, true_and, and_true, List.set, List.length, Nat.reduceAdd, Nat.reduceLT, Nat.reduceLeDiff, Nat.reduceEqDiff, Nat.reduceSub]
          rw [e99, e106, e112, e116, e120]
          exact ⟨fun q => absurd q n99, fun _ => ⟨fun q => absurd q (by omega), fun _ => ⟨fun q => absurd q (by omega), fun _ => ⟨fun q => absurd q k116, fun _ => ⟨fun q => absurd q (by omega), fun _ => ⟨Or.inl rfl, (by first | trivial | exact ⟨rfl, rfl⟩)⟩⟩⟩⟩⟩⟩
  · have hmi : mIt (X 1) len x v = none := by
      unfold mIt
      by_cases x0 : x = 0
      · subst x0
        rw [if_pos rfl, if_neg (fun q => cc ⟨fun _ => q.1, fun _ => rfl⟩)]
      · have : X 1 x = 99 := by
          apply Classical.byContradiction
          intro q
          exact cc ⟨fun z => absurd z x0, fun z => absurd z q⟩
        rw [if_neg x0, if_neg (by omega), if_neg (by omega)]
    exact ⟨h, Q, x + 1, false, start ⟨Nat.le_refl _, Nat.le_refl _⟩ (fun _ => ⟨rfl, rfl⟩) (fun q => absurd q cc), hr, frm.rfl', ⟨fun q => (by cases q), fun ⟨w, s, q⟩ => by rw [hmi] at q; cases q⟩, fun q => (by cases q)⟩
theorem c_R_fault (hr : isR h m len um sp fs X Q) (hl : len ≤ 200) (hL : ∀ j, j < len → X 1 j < 65536) : ∃ h' Q' sp', MA M_R_fault [.ref m] h (some (.int (ftI (rdC (X 1) len 200 0 pv0).1))) h' ∧ isR h' m len um sp' fs X Q' ∧ frm h h' m 12 ∧ ((rdC (X 1) len 200 0 pv0).1 = none → rdR Q' (rdC (X 1) len 200 0 pv0).2) := by
  have lqM : ∀ k x v h1 Q1, isR h1 m len um x fs X Q1 → frm h h1 m 12 → rV v → rC x v → rdR Q1 v → len ≤ x + k → x ≤ 202 → ∃ h' Q' sp', (∀ o1, cx hc_tt M_R_fault h h' (some (.int (ftI (rdC (X 1) len k x v).1))) 26 [some (.ref m), o1] [] h1) ∧ isR h' m len um sp' fs X Q' ∧ frm h h' m 12 ∧ ((rdC (X 1) len k x v).1 = none → rdR Q' (rdC (X 1) len k x v).2) := by
    intro k
    induction k with
    | zero =>
      intro x v h1 Q1 r1' f1 hv hc hq hk hx2
      refine ⟨h1, Q1, x, fun o1 => sn_R_fault_26 _ _ _ ?_, r1', f1, fun _ => hq⟩
      have p0 := r1'.1
      simp only [vc_R_fault_26, vc_R_fault_102, qi_push, qi_pushl, qi_iload, qi_lload, qi_aload, qi_istore, qi_astore, qi_lstore, qi_iinc, qi_iadd, qi_isub, qi_imul, qi_iand, qi_ior, qi_ixor, qi_ishl, qi_ishr, qi_iushr, qi_idiv, qi_irem, qi_lor, qi_lmul, qi_ladd, qi_lsub, qi_land, qi_lshl, qi_lshr, qi_i2l, qi_l2i, qi_i2c, qi_lcmp, qi_dup, qi_dup2, qi_pop, qi_if_eq, qi_icmp_eq, qi_if_ne, qi_icmp_ne, qi_if_lt, qi_icmp_lt, qi_if_ge, qi_icmp_ge, qi_if_gt, qi_icmp_gt, qi_if_le, qi_icmp_le, qi_sw, qi_get, qi_put, qi_iald, qi_lald, qi_aald, qi_iast, qi_zast, qi_cast, qi_last, qi_aast, qi_alen, qi_new, qi_newa, qi_newq, qi_obj, qi_invS, qi_invV, qi_invI, qi_iret, qi_zret, qi_lret, qi_vret, qi_acopy, qi_max, qi_min, at_o, at_i, at_l, at_q, at_a, lget, lset, lclr, lnon, lnth, spl, shrt, rpush, true_and, and_true, List.set, List.length, Nat.reduceAdd, Nat.reduceLT, Nat.reduceLeDiff, Nat.reduceEqDiff, Nat.reduceSub, p0]
      exact ⟨fun _ => (by first | trivial | exact ⟨rfl, rfl⟩), fun q => absurd (nI_le (by omega) (by omega)) q⟩
    | succ k ih =>
      intro x v h1 Q1 r1' f1 hv hc hq hk hx2
      have p0 := r1'.1
      have p1 := r1'.2.1
      rw [rdC_eq]
      by_cases w0 : len ≤ x
      · rw [if_pos w0]
        refine ⟨h1, Q1, x, fun o1 => sn_R_fault_26 _ _ _ ?_, r1', f1, fun _ => hq⟩
        simp only [vc_R_fault_26, vc_R_fault_102, qi_push, qi_pushl, qi_iload, qi_lload, qi_aload, qi_istore, qi_astore, qi_lstore, qi_iinc, qi_iadd, qi_isub, qi_imul, qi_iand, qi_ior, qi_ixor, qi_ishl, qi_ishr, qi_iushr, qi_idiv, qi_irem, qi_lor, qi_lmul, qi_ladd, qi_lsub, qi_land, qi_lshl, qi_lshr, qi_i2l, qi_l2i, qi_i2c, qi_lcmp, qi_dup, qi_dup2, qi_pop, qi_if_eq, qi_icmp_eq, qi_if_ne, qi_icmp_ne, qi_if_lt, qi_icmp_lt, qi_if_ge, qi_icmp_ge, qi_if_gt, qi_icmp_gt, qi_if_le, qi_icmp_le, qi_sw, qi_get, qi_put, qi_iald, qi_lald, qi_aald, qi_iast, qi_zast, qi_cast, qi_last, qi_aast, qi_alen, qi_new, qi_newa, qi_newq, qi_obj, qi_invS, qi_invV, qi_invI, qi_iret, qi_zret, qi_lret, qi_vret, qi_acopy, qi_max, qi_min, at_o, at_i, at_l, at_q, at_a, lget, lset, lclr, lnon, lnth, spl, shrt, rpush, true_and, and_true, List.set, List.length, Nat.reduceAdd, Nat.reduceLT, Nat.reduceLeDiff, Nat.reduceEqDiff, Nat.reduceSub, p0]
        exact ⟨fun _ => (by first | trivial | exact ⟨rfl, rfl⟩), fun q => absurd (nI_le (by omega) (by omega)) q⟩
      · rw [if_neg w0]
        have r2 := r1'.setO (len' := len) (um' := um) (sp' := x + 1) (fs' := fs)
        obtain ⟨h2, eh2⟩ : ∃ z, hc_set h1 m (rfO m len um (x + 1) fs) = z := ⟨_, rfl⟩
        rw [eh2] at r2
        have f2 : frm h h2 m 12 := by rw [← eh2]; exact f1.set (by omega)
        obtain ⟨h3, Q3, sp3, r, a1, a2, a3, a4, a5⟩ := c_R_item r2 hl hL (by omega) hv hq
        have s0 := r2.1
        have s1 := r2.2.1
        have p3 := a2.1
        -- up to the item's answer
        have pre : ∀ {rr : Int32} {h' : hc_H} {o1 : Option Value}, vc_R_fault_68 (some (.int rr)) h' (cx hc_tt M_R_fault h h' (some (.int rr))) [some (.ref m), some (.int (nI x))] [.int (nI (decide (x = 0)).toNat), .int (nI (X 1 x)), .ref m] h2 → cx hc_tt M_R_fault h h' (some (.int rr)) 26 [some (.ref m), o1] [] h1 := by
          intro rr h' o1 kk
          refine sn_R_fault_26 _ _ _ ?_
          simp only [vc_R_fault_26, qi_push, qi_pushl, qi_iload, qi_lload, qi_aload, qi_istore, qi_astore, qi_lstore, qi_iinc, qi_iadd, qi_isub, qi_imul, qi_iand, qi_ior, qi_ixor, qi_ishl, qi_ishr, qi_iushr, qi_idiv, qi_irem, qi_lor, qi_lmul, qi_ladd, qi_lsub, qi_land, qi_lshl, qi_lshr, qi_i2l, qi_l2i, qi_i2c, qi_lcmp, qi_dup, qi_dup2, qi_pop, qi_if_eq, qi_icmp_eq, qi_if_ne, qi_icmp_ne, qi_if_lt, qi_icmp_lt, qi_if_ge, qi_icmp_ge, qi_if_gt, qi_icmp_gt, qi_if_le, qi_icmp_le, qi_sw, qi_get, qi_put, qi_iald, qi_lald, qi_aald, qi_iast, qi_zast, qi_cast, qi_last, qi_aast, qi_alen, qi_new, qi_newa, qi_newq, qi_obj, qi_invS, qi_invV, qi_invI, qi_iret, qi_zret, qi_lret, qi_vret, qi_acopy, qi_max, qi_min, at_o, at_i, at_l, at_q, at_a, lget, lset, lclr, lnon, lnth, spl, shrt, rpush, true_and, and_true, List.set, List.length, Nat.reduceAdd, Nat.reduceLT, Nat.reduceLeDiff, Nat.reduceEqDiff, Nat.reduceSub, p0, nI_add]
          rw [show (hc_set h1 m (.inr (6, [.int (nI len), .ref (m + 1), .ref (m + 2), .ref (m + 3), .int (nI um), .ref (m + 4), .int (nI (x + 1)), .ref (m + 5), .ref (m + 6), .ref (m + 7), .ref (m + 8), .ref (m + 9), .ref (m + 10), .ref (m + 11), .int (nI fs)]))) = h2 from eh2]
          simp only [vc_R_fault_67, qi_push, qi_pushl, qi_iload, qi_lload, qi_aload, qi_istore, qi_astore, qi_lstore, qi_iinc, qi_iadd, qi_isub, qi_imul, qi_iand, qi_ior, qi_ixor, qi_ishl, qi_ishr, qi_iushr, qi_idiv, qi_irem, qi_lor, qi_lmul, qi_ladd, qi_lsub, qi_land, qi_lshl, qi_lshr, qi_i2l, qi_l2i, qi_i2c, qi_lcmp, qi_dup, qi_dup2, qi_pop, qi_if_eq, qi_icmp_eq, qi_if_ne, qi_icmp_ne, qi_if_lt, qi_icmp_lt, qi_if_ge, qi_icmp_ge, qi_if_gt, qi_icmp_gt, qi_if_le, qi_icmp_le, qi_sw, qi_get, qi_put, qi_iald, qi_lald, qi_aald, qi_iast, qi_zast, qi_cast, qi_last, qi_aast, qi_alen, qi_new, qi_newa, qi_newq, qi_obj, qi_invS, qi_invV, qi_invI, qi_iret, qi_zret, qi_lret, qi_vret, qi_acopy, qi_max, qi_min, at_o, at_i, at_l, at_q, at_a, lget, lset, lclr, lnon, lnth, spl, shrt, rpush, true_and, and_true, List.set, List.length, Nat.reduceAdd, Nat.reduceLT, Nat.reduceLeDiff, Nat.reduceEqDiff, Nat.reduceSub, s0, s1]
          rw [nI_clamp (by omega), ← nI_0, nI_eq (by omega) (by omega)]
          refine ⟨fun q => absurd q (nI_ge (by omega) (by omega)), fun _ => ⟨hc_fit_i, vp_in_nI (by omega) (by omega), fun q => ?_, fun q => ?_⟩⟩
          · rw [decide_eq_false q] at kk; exact kk
          · rw [decide_eq_true q] at kk; exact kk
        cases hm : mIt (X 1) len x v with
        | none =>
          have er : r = false := by
            cases z : r
            · rfl
            · obtain ⟨w, s, q⟩ := a4.mp z
              rw [hm] at q; cases q
          rw [er] at a1
          refine ⟨h3, Q3, sp3, fun o1 => pre ?_, a2, f2.trans a3, fun q => (by cases q)⟩
          simp only [vc_R_fault_68, vc_R_fault_87, qi_push, qi_pushl, qi_iload, qi_lload, qi_aload, qi_istore, qi_astore, qi_lstore, qi_iinc, qi_iadd, qi_isub, qi_imul, qi_iand, qi_ior, qi_ixor, qi_ishl, qi_ishr, qi_iushr, qi_idiv, qi_irem, qi_lor, qi_lmul, qi_ladd, qi_lsub, qi_land, qi_lshl, qi_lshr, qi_i2l, qi_l2i, qi_i2c, qi_lcmp, qi_dup, qi_dup2, qi_pop, qi_if_eq, qi_icmp_eq, qi_if_ne, qi_icmp_ne, qi_if_lt, qi_icmp_lt, qi_if_ge, qi_icmp_ge, qi_if_gt, qi_icmp_gt, qi_if_le, qi_icmp_le, qi_sw, qi_get, qi_put, qi_iald, qi_lald, qi_aald, qi_iast, qi_zast, qi_cast, qi_last, qi_aast, qi_alen, qi_new, qi_newa, qi_newq, qi_obj, qi_invS, qi_invV, qi_invI, qi_iret, qi_zret, qi_lret, qi_vret, qi_acopy, qi_max, qi_min, at_o, at_i, at_l, at_q, at_a, lget, lset, lclr, lnon, lnth, spl, shrt, rpush, true_and, and_true, List.set, List.length, Nat.reduceAdd, Nat.reduceLT, Nat.reduceLeDiff, Nat.reduceEqDiff, Nat.reduceSub, s0]
          refine ⟨_, _, a1, ?_⟩
          simp only [qi_push, qi_pushl, qi_iload, qi_lload, qi_aload, qi_istore, qi_astore, qi_lstore, qi_iinc, qi_iadd, qi_isub, qi_imul, qi_iand, qi_ior, qi_ixor, qi_ishl, qi_ishr, qi_iushr, qi_idiv, qi_irem, qi_lor, qi_lmul, qi_ladd, qi_lsub, qi_land, qi_lshl, qi_lshr, qi_i2l, qi_l2i, qi_i2c, qi_lcmp, qi_dup, qi_dup2, qi_pop, qi_if_eq, qi_icmp_eq, qi_if_ne, qi_icmp_ne, qi_if_lt, qi_icmp_lt, qi_if_ge, qi_icmp_ge, qi_if_gt, qi_icmp_gt, qi_if_le, qi_icmp_le, qi_sw, qi_get, qi_put, qi_iald, qi_lald, qi_aald, qi_iast, qi_zast, qi_cast, qi_last, qi_aast, qi_alen, qi_new, qi_newa, qi_newq, qi_obj, qi_invS, qi_invV, qi_invI, qi_iret, qi_zret, qi_lret, qi_vret, qi_acopy, qi_max, qi_min, at_o, at_i, at_l, at_q, at_a, lget, lset, lclr, lnon, lnth, spl, shrt, rpush, true_and, and_true, List.set, List.length, Nat.reduceAdd, Nat.reduceLT, Nat.reduceLeDiff, Nat.reduceEqDiff, Nat.reduceSub]
          exact ⟨fun _ => (by first | trivial | exact ⟨rfl, rfl⟩), fun q => absurd rfl q⟩
        | some p =>
          obtain ⟨w, s⟩ := p
          have er : r = true := a4.mpr ⟨w, s, hm⟩
          rw [er] at a1
          obtain ⟨b1, b2⟩ := a5 er w s hm
          subst b1
          obtain ⟨v1, v2⟩ := rV_it hv hc hm
          have sl : sp3 ≤ 201 := by
            unfold mIt at hm
            have g1 := mn_spec (L := X 1) (len := len) 3 1 0 (by omega)
            have g2 := mn_spec (L := X 1) (len := len) 2 (x + 1) 0 (by omega)
            by_cases x0 : x = 0
            · rw [if_pos x0] at hm
              split at hm
              · cases hm; omega
              · cases hm
            · rw [if_neg x0] at hm
              by_cases x1 : X 1 x = 116
              · rw [if_pos x1] at hm
                split at hm
                · cases hm; omega
                · cases hm
              · rw [if_neg x1] at hm
                split at hm
                · split at hm
                  · cases hi : itP (X 1) x v with
                    | none => rw [hi] at hm; cases hm
                    | some u =>
                      rw [hi] at hm
                      have hm : some (u, x + 3) = some (w, sp3) := hm
                      cases hm; omega
                  · cases hm
                · cases hm
          have by' := c_R_byteAt a2 hl (k := sp3) (by omega)
          have bl := ltr_lt (k := sp3) hL
          have e59 : ltr (X 1) len sp3 = 59 ↔ sp3 < len ∧ X 1 sp3 = 59 := by
            unfold ltr
            by_cases q : sp3 < len
            · rw [if_pos q]; exact ⟨fun z => ⟨q, z⟩, fun z => z.2⟩
            · rw [if_neg q]; exact ⟨fun z => by omega, fun z => absurd z.1 q⟩
          show ∃ h' Q' sp', (∀ o1, cx hc_tt M_R_fault h h' (some (.int (ftI (if sp3 < len ∧ X 1 sp3 = 59 then rdC (X 1) len k (sp3 + 1) w else (some x, v)).1))) 26 [some (.ref m), o1] [] h1) ∧ isR h' m len um sp' fs X Q' ∧ frm h h' m 12 ∧ ((if sp3 < len ∧ X 1 sp3 = 59 then rdC (X 1) len k (sp3 + 1) w else (some x, v)).1 = none → rdR Q' (if sp3 < len ∧ X 1 sp3 = 59 then rdC (X 1) len k (sp3 + 1) w else (some x, v)).2)
          by_cases q : sp3 < len ∧ X 1 sp3 = 59
          · simp only [if_pos q]
            have r4 := a2.setO (len' := len) (um' := um) (sp' := sp3 + 1) (fs' := fs)
            have sgt : x < sp3 := by
              have := eoi_ge (X 1) len (len - x) x
              have z := (it_ok (by omega) hm q.1 q.2)
              have : ¬ x = sp3 := fun e => by
                have i2 := z.2
                rw [← e] at i2
                unfold itC figs at i2
                by_cases x0 : x = 0
                · rw [if_pos x0] at i2
                  split at i2
                  · rw [if_neg (by omega)] at i2; cases i2
                  · cases i2
                · rw [if_neg x0] at i2
                  split at i2
                  · rw [if_neg (by omega)] at i2; cases i2
                  · rw [if_neg (by omega)] at i2; cases i2
              omega
            obtain ⟨h', Q', sp', z1, z2⟩ := ih (sp3 + 1) w _ Q3 r4 ((f2.trans a3).set (by omega)) v1 v2 b2 (by omega) (by omega)
            refine ⟨h', Q', sp', fun o1 => pre ?_, z2⟩
            simp only [vc_R_fault_68, qi_push, qi_pushl, qi_iload, qi_lload, qi_aload, qi_istore, qi_astore, qi_lstore, qi_iinc, qi_iadd, qi_isub, qi_imul, qi_iand, qi_ior, qi_ixor, qi_ishl, qi_ishr, qi_iushr, qi_idiv, qi_irem, qi_lor, qi_lmul, qi_ladd, qi_lsub, qi_land, qi_lshl, qi_lshr, qi_i2l, qi_l2i, qi_i2c, qi_lcmp, qi_dup, qi_dup2, qi_pop, qi_if_eq, qi_icmp_eq, qi_if_ne, qi_icmp_ne, qi_if_lt, qi_icmp_lt, qi_if_ge, qi_icmp_ge, qi_if_gt, qi_icmp_gt, qi_if_le, qi_icmp_le, qi_sw, qi_get, qi_put, qi_iald, qi_lald, qi_aald, qi_iast, qi_zast, qi_cast, qi_last, qi_aast, qi_alen, qi_new, qi_newa, qi_newq, qi_obj, qi_invS, qi_invV, qi_invI, qi_iret, qi_zret, qi_lret, qi_vret, qi_acopy, qi_max, qi_min, at_o, at_i, at_l, at_q, at_a, lget, lset, lclr, lnon, lnth, spl, shrt, rpush, true_and, and_true, List.set, List.length, Nat.reduceAdd, Nat.reduceLT, Nat.reduceLeDiff, Nat.reduceEqDiff, Nat.reduceSub, s0]
            refine ⟨_, _, a1, ?_⟩
            simp only [qi_push, qi_pushl, qi_iload, qi_lload, qi_aload, qi_istore, qi_astore, qi_lstore, qi_iinc, qi_iadd, qi_isub, qi_imul, qi_iand, qi_ior, qi_ixor, qi_ishl, qi_ishr, qi_iushr, qi_idiv, qi_irem, qi_lor, qi_lmul, qi_ladd, qi_lsub, qi_land, qi_lshl, qi_lshr, qi_i2l, qi_l2i, qi_i2c, qi_lcmp, qi_dup, qi_dup2, qi_pop, qi_if_eq, qi_icmp_eq, qi_if_ne, qi_icmp_ne, qi_if_lt, qi_icmp_lt, qi_if_ge, qi_icmp_ge, qi_if_gt, qi_icmp_gt, qi_if_le, qi_icmp_le, qi_sw, qi_get, qi_put, qi_iald, qi_lald, qi_aald, qi_iast, qi_zast, qi_cast, qi_last, qi_aast, qi_alen, qi_new, qi_newa, qi_newq, qi_obj, qi_invS, qi_invV, qi_invI, qi_iret, qi_zret, qi_lret, qi_vret, qi_acopy, qi_max, qi_min, at_o, at_i, at_l, at_q, at_a, lget, lset, lclr, lnon, lnth, spl, shrt, rpush, true_and, and_true, List.set, List.length, Nat.reduceAdd, Nat.reduceLT, Nat.reduceLeDiff, Nat.reduceEqDiff, Nat.reduceSub, p3]
            refine ⟨fun q => absurd q c10, fun _ => ⟨_, _, by', ?_⟩⟩
            simp only [vc_R_fault_89, qi_push, qi_pushl, qi_iload, qi_lload, qi_aload, qi_istore, qi_astore, qi_lstore, qi_iinc, qi_iadd, qi_isub, qi_imul, qi_iand, qi_ior, qi_ixor, qi_ishl, qi_ishr, qi_iushr, qi_idiv, qi_irem, qi_lor, qi_lmul, qi_ladd, qi_lsub, qi_land, qi_lshl, qi_lshr, qi_i2l, qi_l2i, qi_i2c, qi_lcmp, qi_dup, qi_dup2, qi_pop, qi_if_eq, qi_icmp_eq, qi_if_ne, qi_icmp_ne, qi_if_lt, qi_icmp_lt, qi_if_ge, qi_icmp_ge, qi_if_gt, qi_icmp_gt, qi_if_le, qi_icmp_le, qi_sw, qi_get, qi_put, qi_iald, qi_lald, qi_aald, qi_iast, qi_zast, qi_cast, qi_last, qi_aast, qi_alen, qi_new, qi_newa, qi_newq, qi_obj, qi_invS, qi_invV, qi_invI, qi_iret, qi_zret, qi_lret, qi_vret, qi_acopy, qi_max, qi_min, at_o, at_i, at_l, at_q, at_a, lget, lset, lclr, lnon, lnth, spl, shrt, rpush, true_and, and_true, List.set, List.length, Nat.reduceAdd, Nat.reduceLT, Nat.reduceLeDiff, Nat.reduceEqDiff, Nat.reduceSub, p3, nI_add]
            rw [nI_eq (by omega) (by omega), e59]
            exact ⟨fun _ => ⟨hc_fit_i, z1 _⟩, fun z => absurd q z⟩
          · simp only [if_neg q]
            refine ⟨h3, Q3, sp3, fun o1 => pre ?_, a2, f2.trans a3, fun z => (by cases z)⟩
            simp only [vc_R_fault_68, qi_push, qi_pushl, qi_iload, qi_lload, qi_aload, qi_istore, qi_astore, qi_lstore, qi_iinc, qi_iadd, qi_isub, qi_imul, qi_iand, qi_ior, qi_ixor, qi_ishl, qi_ishr, qi_iushr, qi_idiv, qi_irem, qi_lor, qi_lmul, qi_ladd, qi_lsub, qi_land, qi_lshl, qi_lshr, qi_i2l, qi_l2i, qi_i2c, qi_lcmp, qi_dup, qi_dup2, qi_pop, qi_if_eq, qi_icmp_eq, qi_if_ne, qi_icmp_ne, qi_if_lt, qi_icmp_lt, qi_if_ge, qi_icmp_ge, qi_if_gt, qi_icmp_gt, qi_if_le, qi_icmp_le, qi_sw, qi_get, qi_put, qi_iald, qi_lald, qi_aald, qi_iast, qi_zast, qi_cast, qi_last, qi_aast, qi_alen, qi_new, qi_newa, qi_newq, qi_obj, qi_invS, qi_invV, qi_invI, qi_iret, qi_zret, qi_lret, qi_vret, qi_acopy, qi_max, qi_min, at_o, at_i, at_l, at_q, at_a, lget, lset, lclr, lnon, lnth, spl, shrt, rpush, true_and, and_true, List.set, List.length, Nat.reduceAdd, Nat.reduceLT, Nat.reduceLeDiff, Nat.reduceEqDiff, Nat.reduceSub, s0]
            refine ⟨_, _, a1, ?_⟩
            simp only [qi_push, qi_pushl, qi_iload, qi_lload, qi_aload, qi_istore, qi_astore, qi_lstore, qi_iinc, qi_iadd, qi_isub, qi_imul, qi_iand, qi_ior, qi_ixor, qi_ishl, qi_ishr, qi_iushr, qi_idiv, qi_irem, qi_lor, qi_lmul, qi_ladd, qi_lsub, qi_land, qi_lshl, qi_lshr, qi_i2l, qi_l2i, qi_i2c, qi_lcmp, qi_dup, qi_dup2, qi_pop, qi_if_eq, qi_icmp_eq, qi_if_ne, qi_icmp_ne, qi_if_lt, qi_icmp_lt, qi_if_ge, qi_icmp_ge, qi_if_gt, qi_icmp_gt, qi_if_le, qi_icmp_le, qi_sw, qi_get, qi_put, qi_iald, qi_lald, qi_aald, qi_iast, qi_zast, qi_cast, qi_last, qi_aast, qi_alen, qi_new, qi_newa, qi_newq, qi_obj, qi_invS, qi_invV, qi_invI, qi_iret, qi_zret, qi_lret, qi_vret, qi_acopy, qi_max, qi_min, at_o, at_i, at_l, at_q, at_a, lget, lset, lclr, lnon, lnth, spl, shrt, rpush, true_and, and_true, List.set, List.length, Nat.reduceAdd, Nat.reduceLT, Nat.reduceLeDiff, Nat.reduceEqDiff, Nat.reduceSub, p3]
            refine ⟨fun q => absurd q c10, fun _ => ⟨_, _, by', ?_⟩⟩
            simp only [vc_R_fault_87, qi_push, qi_pushl, qi_iload, qi_lload, qi_aload, qi_istore, qi_astore, qi_lstore, qi_iinc, qi_iadd, qi_isub, qi_imul, qi_iand, qi_ior, qi_ixor, qi_ishl, qi_ishr, qi_iushr, qi_idiv, qi_irem, qi_lor, qi_lmul, qi_ladd, qi_lsub, qi_land, qi_lshl, qi_lshr, qi_i2l, qi_l2i, qi_i2c, qi_lcmp, qi_dup, qi_dup2, qi_pop, qi_if_eq, qi_icmp_eq, qi_if_ne, qi_icmp_ne, qi_if_lt, qi_icmp_lt, qi_if_ge, qi_icmp_ge, qi_if_gt, qi_icmp_gt, qi_if_le, qi_icmp_le, qi_sw, qi_get, qi_put, qi_iald, qi_lald, qi_aald, qi_iast, qi_zast, qi_cast, qi_last, qi_aast, qi_alen, qi_new, qi_newa, qi_newq, qi_obj, qi_invS, qi_invV, qi_invI, qi_iret, qi_zret, qi_lret, qi_vret, qi_acopy, qi_max, qi_min, at_o, at_i, at_l, at_q, at_a, lget, lset, lclr, lnon, lnth, spl, shrt, rpush, true_and, and_true, List.set, List.length, Nat.reduceAdd, Nat.reduceLT, Nat.reduceLeDiff, Nat.reduceEqDiff, Nat.reduceSub]
            rw [nI_eq (by omega) (by omega), e59]
            exact ⟨fun z => absurd z q, fun _ => (by first | trivial | exact ⟨rfl, rfl⟩)⟩
  -- the row is made empty
  let hx : Nat → hc_H := fun k => hc_set h (m + 4) (.inl (0, 62, .inl (fun j => if j < k then nI 0 else Q j)))
  have rx : ∀ k, isR (hx k) m len um sp fs X (fun j => if j < k then nI 0 else Q j) := fun k => hr.setQ
  have q0 : rdR (fun j => if j < 62 then nI 0 else Q j) pv0 := ⟨rfl, rfl, fun x hx' => ⟨if_pos (by omega), if_pos (by omega), if_pos (by omega), if_pos (by omega), if_pos (by omega)⟩⟩
  have r6 := (rx 62).setO (len' := len) (um' := um) (sp' := 0) (fs' := fs)
  obtain ⟨h', Q', sp', z1, z2⟩ := lqM 200 0 pv0 _ _ r6 ((frm.rfl'.set (by omega)).set (by omega)) rV_0 rC_0 q0 (by omega) (by omega)
  have lqE := lp_up (P := fun k => cx hc_tt M_R_fault h h' (some (.int (ftI (rdC (X 1) len 200 0 pv0).1))) 2 [some (.ref m), some (.int (nI k))] [] (hx k)) (n := 62)
    (by have p0 := (rx 62).1
        refine sn_R_fault_2 _ _ _ ?_
        simp only [vc_R_fault_2, vc_R_fault_21, qi_push, qi_pushl, qi_iload, qi_lload, qi_aload, qi_istore, qi_astore, qi_lstore, qi_iinc, qi_iadd, qi_isub, qi_imul, qi_iand, qi_ior, qi_ixor, qi_ishl, qi_ishr, qi_iushr, qi_idiv, qi_irem, qi_lor, qi_lmul, qi_ladd, qi_lsub, qi_land, qi_lshl, qi_lshr, qi_i2l, qi_l2i, qi_i2c, qi_lcmp, qi_dup, qi_dup2, qi_pop, qi_if_eq, qi_icmp_eq, qi_if_ne, qi_icmp_ne, qi_if_lt, qi_icmp_lt, qi_if_ge, qi_icmp_ge, qi_if_gt, qi_icmp_gt, qi_if_le, qi_icmp_le, qi_sw, qi_get, qi_put, qi_iald, qi_lald, qi_aald, qi_iast, qi_zast, qi_cast, qi_last, qi_aast, qi_alen, qi_new, qi_newa, qi_newq, qi_obj, qi_invS, qi_invV, qi_invI, qi_iret, qi_zret, qi_lret, qi_vret, qi_acopy, qi_max, qi_min, at_o, at_i, at_l, at_q, at_a, lget, lset, lclr, lnon, lnth, spl, shrt, rpush, true_and, and_true, List.set, List.length, Nat.reduceAdd, Nat.reduceLT, Nat.reduceLeDiff, Nat.reduceEqDiff, Nat.reduceSub, p0]
        exact ⟨fun _ => ⟨hc_fit_i, z1 _⟩, fun q => absurd (by decide) q⟩)
    (fun k hk ih => by
        have p0 := (rx k).1
        have p4 : (hx k).1 (m + 4) = some (.inl (0, 62, .inl (fun j => if j < k then nI 0 else Q j))) := (rx k).2.2.2.2.1
        refine sn_R_fault_2 _ _ _ ?_
        simp only [vc_R_fault_2, qi_push, qi_pushl, qi_iload, qi_lload, qi_aload, qi_istore, qi_astore, qi_lstore, qi_iinc, qi_iadd, qi_isub, qi_imul, qi_iand, qi_ior, qi_ixor, qi_ishl, qi_ishr, qi_iushr, qi_idiv, qi_irem, qi_lor, qi_lmul, qi_ladd, qi_lsub, qi_land, qi_lshl, qi_lshr, qi_i2l, qi_l2i, qi_i2c, qi_lcmp, qi_dup, qi_dup2, qi_pop, qi_if_eq, qi_icmp_eq, qi_if_ne, qi_icmp_ne, qi_if_lt, qi_icmp_lt, qi_if_ge, qi_icmp_ge, qi_if_gt, qi_icmp_gt, qi_if_le, qi_icmp_le, qi_sw, qi_get, qi_put, qi_iald, qi_lald, qi_aald, qi_iast, qi_zast, qi_cast, qi_last, qi_aast, qi_alen, qi_new, qi_newa, qi_newq, qi_obj, qi_invS, qi_invV, qi_invI, qi_iret, qi_zret, qi_lret, qi_vret, qi_acopy, qi_max, qi_min, at_o, at_i, at_l, at_q, at_a, lget, lset, lclr, lnon, lnth, spl, shrt, rpush, true_and, and_true, List.set, List.length, Nat.reduceAdd, Nat.reduceLT, Nat.reduceLeDiff, Nat.reduceEqDiff, Nat.reduceSub, p0, p4, nI_add]
        rw [nI_clamp (by omega)]
        refine ⟨fun q => absurd q (nI_ge hk (by omega)), fun _ => ⟨vp_in_nI (by omega) (by omega), ?_⟩⟩
        have e9 : hc_set (hx k) (m + 4) (.inl (0, 62, .inl (upd (fun j => if j < k then nI 0 else Q j) k (nI 0)))) = hx (k + 1) := by
          have eF : upd (fun j => if j < k then nI 0 else Q j) k (nI 0) = fun j => if j < k + 1 then nI 0 else Q j := by
            funext j
            show (if j = k then nI 0 else if j < k then nI 0 else Q j) = if j < k + 1 then nI 0 else Q j
            by_cases e : j = k
            · rw [if_pos e, if_pos (by omega)]
            · rw [if_neg e]
              by_cases e2 : j < k
              · rw [if_pos e2, if_pos (by omega)]
              · rw [if_neg e2, if_neg (by omega)]
          show hc_set (hc_set _ _ _) _ _ = hc_set _ _ _
          rw [hs_hs, eF]
        rw [e9]
        exact ih)
  refine ⟨h', Q', sp', MX.of (lv := [some (.ref m), none]) 1 rfl (by decide) (Nat.le_of_ble_eq_true rfl) (sn_R_fault_0 _ _ _ ?_), z2⟩
  simp only [vc_R_fault_0, qi_push, qi_pushl, qi_iload, qi_lload, qi_aload, qi_istore, qi_astore, qi_lstore, qi_iinc, qi_iadd, qi_isub, qi_imul, qi_iand, qi_ior, qi_ixor, qi_ishl, qi_ishr, qi_iushr, qi_idiv, qi_irem, qi_lor, qi_lmul, qi_ladd, qi_lsub, qi_land, qi_lshl, qi_lshr, qi_i2l, qi_l2i, qi_i2c, qi_lcmp, qi_dup, qi_dup2, qi_pop, qi_if_eq, qi_icmp_eq, qi_if_ne, qi_icmp_ne, qi_if_lt, qi_icmp_lt, qi_if_ge, qi_icmp_ge, qi_if_gt, qi_icmp_gt, qi_if_le, qi_icmp_le, qi_sw, qi_get, qi_put, qi_iald, qi_lald, qi_aald, qi_iast, qi_zast, qi_cast, qi_last, qi_aast, qi_alen, qi_new, qi_newa, qi_newq, qi_obj, qi_invS, qi_invV, qi_invI, qi_iret, qi_zret, qi_lret, qi_vret, qi_acopy, qi_max, qi_min, at_o, at_i, at_l, at_q, at_a, lget, lset, lclr, lnon, lnth, spl, shrt, rpush, true_and, and_true, List.set, List.length, Nat.reduceAdd, Nat.reduceLT, Nat.reduceLeDiff, Nat.reduceEqDiff, Nat.reduceSub]
  have l0 := lqE 0 (Nat.zero_le _)
  have e0 : hx 0 = h := by
    show hc_set _ _ _ = h
    have : (fun j => if j < 0 then nI 0 else Q j) = Q := funext fun j => if_neg (Nat.not_lt_zero _)
    rw [this]
    exact hs_self h hr.2.2.2.2.1
  rw [e0] at l0
  exact l0
theorem c_R_lay_no (hr : isR h m len um sp fs X Q) (hl : len ≤ 200) (hL : ∀ j, j < len → X 1 j < 65536) (hno : (rdC (X 1) len 200 0 pv0).1 ≠ none ∨ (rdC (X 1) len 200 0 pv0).2.1 = 0) : ∃ h' Q' sp', MA M_R_lay [.ref m] h (some (.int (-2))) h' ∧ isR h' m len um sp' fs X Q' ∧ frm h h' m 12 := by
  obtain ⟨h1, Q1, sp1, a1, a2, a3, a4⟩ := c_R_fault hr hl hL
  refine ⟨h1, Q1, sp1, ?_, a2, a3⟩
  have o0 := hr.1
  have p0 := a2.1
  have p4 := a2.2.2.2.2.1
  have w0 : vp_in (nI 0) 62 := vp_in_nI (by omega) (by omega)
  refine MX.of (lv := [some (.ref m), none]) 1 rfl (by decide) (Nat.le_of_ble_eq_true rfl) (sn_R_lay_0 _ _ _ ?_)
  simp only [vc_R_lay_0, qi_push, qi_pushl, qi_iload, qi_lload, qi_aload, qi_istore, qi_astore, qi_lstore, qi_iinc, qi_iadd, qi_isub, qi_imul, qi_iand, qi_ior, qi_ixor, qi_ishl, qi_ishr, qi_iushr, qi_idiv, qi_irem, qi_lor, qi_lmul, qi_ladd, qi_lsub, qi_land, qi_lshl, qi_lshr, qi_i2l, qi_l2i, qi_i2c, qi_lcmp, qi_dup, qi_dup2, qi_pop, qi_if_eq, qi_icmp_eq, qi_if_ne, qi_icmp_ne, qi_if_lt, qi_icmp_lt, qi_if_ge, qi_icmp_ge, qi_if_gt, qi_icmp_gt, qi_if_le, qi_icmp_le, qi_sw, qi_get, qi_put, qi_iald, qi_lald, qi_aald, qi_iast, qi_zast, qi_cast, qi_last, qi_aast, qi_alen, qi_new, qi_newa, qi_newq, qi_obj, qi_invS, qi_invV, qi_invI, qi_iret, qi_zret, qi_lret, qi_vret, qi_acopy, qi_max, qi_min, at_o, at_i, at_l, at_q, at_a, lget, lset, lclr, lnon, lnth, spl, shrt, rpush, true_and, and_true, List.set, List.length, Nat.reduceAdd, Nat.reduceLT, Nat.reduceLeDiff, Nat.reduceEqDiff, Nat.reduceSub, o0]
  refine ⟨_, _, a1, ?_⟩
  simp only [vc_R_lay_18, qi_push, qi_pushl, qi_iload, qi_lload, qi_aload, qi_istore, qi_astore, qi_lstore, qi_iinc, qi_iadd, qi_isub, qi_imul, qi_iand, qi_ior, qi_ixor, qi_ishl, qi_ishr, qi_iushr, qi_idiv, qi_irem, qi_lor, qi_lmul, qi_ladd, qi_lsub, qi_land, qi_lshl, qi_lshr, qi_i2l, qi_l2i, qi_i2c, qi_lcmp, qi_dup, qi_dup2, qi_pop, qi_if_eq, qi_icmp_eq, qi_if_ne, qi_icmp_ne, qi_if_lt, qi_icmp_lt, qi_if_ge, qi_icmp_ge, qi_if_gt, qi_icmp_gt, qi_if_le, qi_icmp_le, qi_sw, qi_get, qi_put, qi_iald, qi_lald, qi_aald, qi_iast, qi_zast, qi_cast, qi_last, qi_aast, qi_alen, qi_new, qi_newa, qi_newq, qi_obj, qi_invS, qi_invV, qi_invI, qi_iret, qi_zret, qi_lret, qi_vret, qi_acopy, qi_max, qi_min, at_o, at_i, at_l, at_q, at_a, lget, lset, lclr, lnon, lnth, spl, shrt, rpush, true_and, and_true, List.set, List.length, Nat.reduceAdd, Nat.reduceLT, Nat.reduceLeDiff, Nat.reduceEqDiff, Nat.reduceSub, p0, p4, w0, r0]
  cases hf : (rdC (X 1) len 200 0 pv0).1 with
  | some y =>
    have yl := rdC_lt hf hl
    exact ⟨fun _ => (by first | trivial | exact ⟨rfl, rfl⟩), fun q => absurd q (nI_m4 (by omega))⟩
  | none =>
    have hq := a4 hf
    have hz : (rdC (X 1) len 200 0 pv0).2.1 = 0 := hno.elim (fun q => absurd hf q) id
    rw [hq.1, hz]
    exact ⟨fun _ => (by first | trivial | exact ⟨rfl, rfl⟩), fun _ => ⟨fun q => absurd rfl q, fun _ => (by first | trivial | exact ⟨rfl, rfl⟩)⟩⟩
theorem c_R_lay (hr : isR h m len um sp fs X Q) (hl : len ≤ 200) (hL : ∀ j, j < len → X 1 j < 65536) {n' C' : Nat} {T' B' A' J' S' : Nat → Nat} (hrd : rdC (X 1) len 200 0 pv0 = (none, n', nI C', T', B', A', J', S')) (hn : 0 < n' ∧ n' ≤ 12) : ∃ h' Q' sp', MA M_R_lay [.ref m] h (some (.int (nI n'))) h' ∧ isR h' m len 0 sp' fs (va_up X 2 (rowP n' C' T' B' A' J' S')) Q' ∧ frm h h' m 12 := by
  obtain ⟨h1, Q1, sp1, a1, a2, a3, a4⟩ := c_R_fault hr hl hL
  rw [hrd] at a1 a4
  have hq : rdR Q1 (n', nI C', T', B', A', J', S') := a4 rfl
  have row := rdR_row hq
  have w0 : vp_in (nI 0) 62 := vp_in_nI (by omega) (by omega)
  -- what is now, k copied
  let f : Nat → Nat → Nat := fun k j => if j < k then rowP n' C' T' B' A' J' S' j else X 2 j
  let hx : Nat → hc_H := fun k => hc_set h1 (m + 2) (.inl (0, 62, .inl (fun j => nI (f k j))))
  have rx : ∀ k, isR (hx k) m len um sp1 fs (va_up X 2 (f k)) Q1 := fun k => a2.setN
  have r9 := (a2.setN (f := rowP n' C' T' B' A' J' S')).setO (len' := len) (um' := 0) (sp' := sp1) (fs' := fs)
  have heq9 : heq (hc_set (hx 62) m (rfO m len 0 sp1 fs)) (hc_set (hc_set h1 (m + 2) (.inl (0, 62, .inl (fun j => nI (rowP n' C' T' B' A' J' S' j))))) m (rfO m len 0 sp1 fs)) := heq.set1 (heq.set (fun j hj => by
    show nI (if j < 62 then rowP n' C' T' B' A' J' S' j else X 2 j) = _
    rw [if_pos hj]))
  refine ⟨_, Q1, sp1, MX.eqv heq9 (MX.of (lv := [some (.ref m), none]) 1 rfl (by decide) (Nat.le_of_ble_eq_true rfl) (sn_R_lay_0 _ _ _ ?_)), r9, (a3.set (by omega)).set (by omega)⟩
  have lqL := lp_up (P := fun k => cx hc_tt M_R_lay h (hc_set (hx 62) m (rfO m len 0 sp1 fs)) (some (.int (nI n'))) 23 [some (.ref m), some (.int (nI k))] [] (hx k)) (n := 62)
    (by have p0 := (rx 62).1
        have p2 : (hx 62).1 (m + 2) = ii 62 (f 62) := (rx 62).2.2.1
        have p2' : (hc_set (hx 62) m (rfO m len 0 sp1 fs)).1 (m + 2) = ii 62 (f 62) := by rw [hs_ne _ _ (by omega)]; exact p2
        refine sn_R_lay_23 _ _ _ ?_
        simp only [vc_R_lay_23, vc_R_lay_47, qi_push, qi_pushl, qi_iload, qi_lload, qi_aload, qi_istore, qi_astore, qi_lstore, qi_iinc, qi_iadd, qi_isub, qi_imul, qi_iand, qi_ior, qi_ixor, qi_ishl, qi_ishr, qi_iushr, qi_idiv, qi_irem, qi_lor, qi_lmul, qi_ladd, qi_lsub, qi_land, qi_lshl, qi_lshr, qi_i2l, qi_l2i, qi_i2c, qi_lcmp, qi_dup, qi_dup2, qi_pop, qi_if_eq, qi_icmp_eq, qi_if_ne, qi_icmp_ne, qi_if_lt, qi_icmp_lt, qi_if_ge, qi_icmp_ge, qi_if_gt, qi_icmp_gt, qi_if_le, qi_icmp_le, qi_sw, qi_get, qi_put, qi_iald, qi_lald, qi_aald, qi_iast, qi_zast, qi_cast, qi_last, qi_aast, qi_alen, qi_new, qi_newa, qi_newq, qi_obj, qi_invS, qi_invV, qi_invI, qi_iret, qi_zret, qi_lret, qi_vret, qi_acopy, qi_max, qi_min, at_o, at_i, at_l, at_q, at_a, lget, lset, lclr, lnon, lnth, spl, shrt, rpush, true_and, and_true, List.set, List.length, Nat.reduceAdd, Nat.reduceLT, Nat.reduceLeDiff, Nat.reduceEqDiff, Nat.reduceSub, p0, hs_eq, p2', w0, r0]
        exact ⟨fun _ => ⟨hc_fit_i, (by first | trivial | exact ⟨rfl, rfl⟩)⟩, fun q => absurd (by decide) q⟩)
    (fun k hk ih => by
        have p0 := (rx k).1
        have p2 : (hx k).1 (m + 2) = ii 62 (f k) := (rx k).2.2.1
        have p4 : (hx k).1 (m + 4) = some (.inl (0, 62, .inl Q1)) := (rx k).2.2.2.2.1
        refine sn_R_lay_23 _ _ _ ?_
        simp only [vc_R_lay_23, qi_push, qi_pushl, qi_iload, qi_lload, qi_aload, qi_istore, qi_astore, qi_lstore, qi_iinc, qi_iadd, qi_isub, qi_imul, qi_iand, qi_ior, qi_ixor, qi_ishl, qi_ishr, qi_iushr, qi_idiv, qi_irem, qi_lor, qi_lmul, qi_ladd, qi_lsub, qi_land, qi_lshl, qi_lshr, qi_i2l, qi_l2i, qi_i2c, qi_lcmp, qi_dup, qi_dup2, qi_pop, qi_if_eq, qi_icmp_eq, qi_if_ne, qi_icmp_ne, qi_if_lt, qi_icmp_lt, qi_if_ge, qi_icmp_ge, qi_if_gt, qi_icmp_gt, qi_if_le, qi_icmp_le, qi_sw, qi_get, qi_put, qi_iald, qi_lald, qi_aald, qi_iast, qi_zast, qi_cast, qi_last, qi_aast, qi_alen, qi_new, qi_newa, qi_newq, qi_obj, qi_invS, qi_invV, qi_invI, qi_iret, qi_zret, qi_lret, qi_vret, qi_acopy, qi_max, qi_min, at_o, at_i, at_l, at_q, at_a, lget, lset, lclr, lnon, lnth, spl, shrt, rpush, true_and, and_true, List.set, List.length, Nat.reduceAdd, Nat.reduceLT, Nat.reduceLeDiff, Nat.reduceEqDiff, Nat.reduceSub, p0, p2, p4, nI_add]
        rw [nI_clamp (by omega), row k hk, upd_nI]
        refine ⟨fun q => absurd q (nI_ge hk (by omega)), fun _ => ⟨vp_in_nI (by omega) (by omega), vp_in_nI (by omega) (by omega), ?_⟩⟩
        have e9 : hc_set (hx k) (m + 2) (.inl (0, 62, .inl (fun j => nI (va_up (f k) k (rowP n' C' T' B' A' J' S' k) j)))) = hx (k + 1) := by
          show hc_set (hc_set _ _ _) _ _ = hc_set _ _ _
          rw [hs_hs]
          refine hi_c (fun j => ?_)
          show (if j = k then rowP n' C' T' B' A' J' S' k else if j < k then rowP n' C' T' B' A' J' S' j else X 2 j) = if j < k + 1 then rowP n' C' T' B' A' J' S' j else X 2 j
          by_cases e : j = k
          · rw [if_pos e, if_pos (by omega), e]
          · rw [if_neg e]
            by_cases e2 : j < k
            · rw [if_pos e2, if_pos (by omega)]
            · rw [if_neg e2, if_neg (by omega)]
        rw [e9]
        exact ih)
  have l0 := lqL 0 (Nat.zero_le _)
  have e0 : hx 0 = h1 := by
    show hc_set _ _ _ = h1
    have : (fun j => nI (f 0 j)) = fun j => nI (X 2 j) := funext fun j => by
      show nI (if j < 0 then _ else X 2 j) = _
      rw [if_neg (Nat.not_lt_zero _)]
    rw [this]
    exact hs_self h1 a2.2.2.1
  rw [e0] at l0
  have o0 := hr.1
  have p0 := a2.1
  have p4 := a2.2.2.2.2.1
  simp only [vc_R_lay_0, vc_R_lay_18, vc_R_lay_21, qi_push, qi_pushl, qi_iload, qi_lload, qi_aload, qi_istore, qi_astore, qi_lstore, qi_iinc, qi_iadd, qi_isub, qi_imul, qi_iand, qi_ior, qi_ixor, qi_ishl, qi_ishr, qi_iushr, qi_idiv, qi_irem, qi_lor, qi_lmul, qi_ladd, qi_lsub, qi_land, qi_lshl, qi_lshr, qi_i2l, qi_l2i, qi_i2c, qi_lcmp, qi_dup, qi_dup2, qi_pop, qi_if_eq, qi_icmp_eq, qi_if_ne, qi_icmp_ne, qi_if_lt, qi_icmp_lt, qi_if_ge, qi_icmp_ge, qi_if_gt, qi_icmp_gt, qi_if_le, qi_icmp_le, qi_sw, qi_get, qi_put, qi_iald, qi_lald, qi_aald, qi_iast, qi_zast, qi_cast, qi_last, qi_aast, qi_alen, qi_new, qi_newa, qi_newq, qi_obj, qi_invS, qi_invV, qi_invI, qi_iret, qi_zret, qi_lret, qi_vret, qi_acopy, qi_max, qi_min, at_o, at_i, at_l, at_q, at_a, lget, lset, lclr, lnon, lnth, spl, shrt, rpush, true_and, and_true, List.set, List.length, Nat.reduceAdd, Nat.reduceLT, Nat.reduceLeDiff, Nat.reduceEqDiff, Nat.reduceSub, o0]
  refine ⟨_, _, a1, ?_⟩
  simp only [qi_push, qi_pushl, qi_iload, qi_lload, qi_aload, qi_istore, qi_astore, qi_lstore, qi_iinc, qi_iadd, qi_isub, qi_imul, qi_iand, qi_ior, qi_ixor, qi_ishl, qi_ishr, qi_iushr, qi_idiv, qi_irem, qi_lor, qi_lmul, qi_ladd, qi_lsub, qi_land, qi_lshl, qi_lshr, qi_i2l, qi_l2i, qi_i2c, qi_lcmp, qi_dup, qi_dup2, qi_pop, qi_if_eq, qi_icmp_eq, qi_if_ne, qi_icmp_ne, qi_if_lt, qi_icmp_lt, qi_if_ge, qi_icmp_ge, qi_if_gt, qi_icmp_gt, qi_if_le, qi_icmp_le, qi_sw, qi_get, qi_put, qi_iald, qi_lald, qi_aald, qi_iast, qi_zast, qi_cast, qi_last, qi_aast, qi_alen, qi_new, qi_newa, qi_newq, qi_obj, qi_invS, qi_invV, qi_invI, qi_iret, qi_zret, qi_lret, qi_vret, qi_acopy, qi_max, qi_min, at_o, at_i, at_l, at_q, at_a, lget, lset, lclr, lnon, lnth, spl, shrt, rpush, true_and, and_true, List.set, List.length, Nat.reduceAdd, Nat.reduceLT, Nat.reduceLeDiff, Nat.reduceEqDiff, Nat.reduceSub, p0, p4, w0, r0, hq.1]
  exact ⟨fun q => absurd (by first | trivial | rfl) q, fun _ => ⟨fun _ => l0, fun q => absurd q (nI_ne0 hn.1 (by omega))⟩⟩
end MO
