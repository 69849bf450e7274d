/-! THE MODEL: what is left when some are put. -/
/-- f tells P -/
def isb (P : Nat → Prop) (f : Nat → Nat) (d : Nat) : Prop := (f d = 1 ∧ P d) ∨ (f d = 0 ∧ ¬ P d)
theorem isb.c {P P' : Nat → Prop} {f f' : Nat → Nat} {d : Nat} (h : isb P f d) (hp : P d ↔ P' d) (hf : f' d = f d) : isb P' f' d := by
  rcases h with ⟨h1, h2⟩ | ⟨h1, h2⟩
  · exact Or.inl ⟨by rw [hf]; exact h1, hp.mp h2⟩
  · exact Or.inr ⟨by rw [hf]; exact h1, fun q => h2 (hp.mpr q)⟩
theorem isb.t {P : Nat → Prop} {f : Nat → Nat} {d : Nat} (h : isb P f d) : ¬ f d = 0 ↔ P d := by
  rcases h with ⟨h1, h2⟩ | ⟨h1, h2⟩
  · exact ⟨fun _ => h2, fun _ => by omega⟩
  · exact ⟨fun q => absurd h1 q, fun q => absurd q h2⟩
theorem isb.le {P : Nat → Prop} {f : Nat → Nat} {d : Nat} (h : isb P f d) : f d ≤ 1 := by
  rcases h with ⟨h1, -⟩ | ⟨h1, -⟩ <;> omega
theorem isb.n0 {P : Nat → Prop} {f : Nat → Nat} {d : Nat} (h : isb P f d) : nI (f d) = 0 ↔ ¬ P d := by
  rcases h with ⟨h1, h2⟩ | ⟨h1, h2⟩
  · rw [h1]; exact ⟨fun q => absurd q c10, fun q => absurd h2 q⟩
  · rw [h1]; exact ⟨fun _ => h2, fun _ => rfl⟩
theorem isb_up {P : Nat → Prop} {f : Nat → Nat} {d : Nat} {b : Bool} (h : b = true ↔ P d) : isb P (va_up f d b.toNat) d := by
  cases b
  · exact Or.inr ⟨up_eq, fun q => by have := h.mpr q; cases this⟩
  · exact Or.inl ⟨up_eq, h.mp rfl⟩
/-- a next station by which what is fixed is there -/
def lfE (W fx : Nat) (fi ne : Nat → Nat) (k d t : Nat) : Prop := rch W fx fi ne k d ∧ ed W ne d t ∧ t &&& fx = fi (k + 1)
def lfQ (W fx : Nat) (fi ne : Nat → Nat) (k j e : Nat) : Prop := (rch W fx fi ne k e ∧ fi (k + 1) = 0) ∨ ∃ d t, d < j ∧ lfE W fx fi ne k d t ∧ e = d ||| t
def lfS (W fx : Nat) (fi ne : Nat → Nat) (k j s e : Nat) : Prop := lfQ W fx fi ne k j e ∨ ∃ t, s < t ∧ lfE W fx fi ne k j t ∧ e = j ||| t
section MO
variable {h : hc_H} {m len um sp fs n C : Nat} {X : Nat → Nat → Nat} {Q : Nat → Int32} {T B A J S : Nat → Nat}
set_option maxRecDepth 8000 in
theorem c_R_left (hr : isR h m len um sp fs X Q) (hX : X 2 = rowP n C T B A J S) (hw : pw n T B A J S) (hn1 : 1 ≤ n) (hC : C ≤ 120) : ∃ h' X' r, MA M_R_left [.ref m] h (some (.int r)) h' ∧ isR h' m len um sp fs X' Q ∧ (∀ j, ¬ j = 5 → ¬ j = 6 → ¬ j = 9 → ¬ j = 10 → X' j = X j) ∧ frm h h' m 12 ∧ isMin (fun k => rch (2 ^ n - 1) (fxS S n) (fiS S n) (nd n C T B A J) k (2 ^ n - 1)) 12 r := by
  have hn := hw.1
  have l12 := pow_12 hn
  have hp2 : 2 ≤ 2 ^ n := by
    have : 2 ^ 1 ≤ 2 ^ n := Nat.pow_le_pow_right (by omega) hn1
    omega
  have v1 : vp_in (nI 1) 62 := vp_in_nI (by omega) (by omega)
  obtain ⟨h0, X0, a1, a2, a3, a4, a5⟩ := c_R_findGood hr hX hw (c := C) (by omega)
  have x0 : X0 2 = rowP n C T B A J S := by rw [a3 2 (by omega) (by omega), hX]
  obtain ⟨W, eW⟩ : ∃ z, 2 ^ n - 1 = z := ⟨_, rfl⟩
  obtain ⟨fx, efx⟩ : ∃ z, fxS S n = z := ⟨_, rfl⟩
  obtain ⟨fi, efi⟩ : ∃ z, fiS S n = z := ⟨_, rfl⟩
  obtain ⟨ne, ene⟩ : ∃ z, nd n C T B A J = z := ⟨_, rfl⟩
  have fxl : fx < 4096 := by rw [← efx]; exact fxS_lt hn
  have fil : ∀ k, fi k < 4096 := fun k => by rw [← efi]; exact bset_lt12 _ hn
  have hWn : W + 1 = 2 ^ n := by omega
  let Z : hc_H → (Nat → Nat → Nat) → Int32 → Prop := fun h' X' r => isR h' m len um sp fs X' Q ∧ (∀ j, ¬ j = 9 → ¬ j = 10 → X' j = X0 j) ∧ frm h h' m 12 ∧ isMin (fun k => rch W fx fi ne k W) 12 r
  have hg : ∀ X2 : Nat → Nat → Nat, (∀ j, ¬ j = 9 → ¬ j = 10 → X2 j = X0 j) → fgP n C T B A J X2 := fun X2 q x hx => by
    rw [q 5 (by omega) (by omega), q 6 (by omega) (by omega)]; exact a4 x hx
  have hz : ∀ X2 : Nat → Nat → Nat, (∀ j, ¬ j = 9 → ¬ j = 10 → X2 j = X0 j) → X2 2 0 = n := fun X2 q => by
    rw [q 2 (by omega) (by omega), x0]; rfl
  have lqS := lp_up (P := fun k => ∀ h1 X1, isR h1 m len um sp fs X1 Q → (∀ j, ¬ j = 9 → ¬ j = 10 → X1 j = X0 j) → frm h h1 m 12 → (∀ d, d < 2 ^ n → isb (rch W fx fi ne k) (X1 10) d) → (∀ j, j ≤ k → ¬ rch W fx fi ne j W) → ∃ h' X' r, Z h' X' r ∧ ∀ o3 o4 o5 o6 o7, cx hc_tt M_R_left h h' (some (.int r)) 50 [some (.ref m), some (.int (nI fx)), some (.int (nI (k + 1))), o3, o4, o5, o6, o7] [] h1) (n := 12)
    (by
      intro h1 X1 r1' q1 f1 c1 n1
      refine ⟨h1, X1, -4, ⟨r1', q1, f1, Or.inr ⟨n1, rfl⟩⟩, fun o3 o4 o5 o6 o7 => sn_R_left_50 _ _ _ ?_⟩
      simp only [vc_R_left_50, vc_R_left_276, qi_push, qi_pushl, qi_iload, qi_lload, qi_aload, qi_istore, qi_astore, qi_lstore, qi_iinc, qi_iadd, qi_isub, qi_imul, qi_iand, qi_ior, qi_ixor, qi_ishl, qi_ishr, qi_iushr, qi_idiv, qi_irem, qi_lor, qi_lmul, qi_ladd, qi_lsub, qi_land, qi_lshl, qi_lshr, qi_i2l, qi_l2i, qi_i2c, qi_lcmp, qi_dup, qi_dup2, qi_pop, qi_if_eq, qi_icmp_eq, qi_if_ne, qi_icmp_ne, qi_if_lt, qi_icmp_lt, qi_if_ge, qi_icmp_ge, qi_if_gt, qi_icmp_gt, qi_if_le, qi_icmp_le, qi_sw, qi_get, qi_put, qi_iald, qi_lald, qi_aald, qi_iast, qi_zast, qi_cast, qi_last, qi_aast, qi_alen, qi_new, qi_newa, qi_newq, qi_obj, qi_invS, qi_invV, qi_invI, qi_iret, qi_zret, qi_lret, qi_vret, qi_acopy, qi_max, qi_min, at_o, at_i, at_l, at_q, at_a, lget, lset, lclr, lnon, lnth, spl, shrt, rpush, true_and, and_true, List.set, List.length, Nat.reduceAdd, Nat.reduceLT, Nat.reduceLeDiff, Nat.reduceEqDiff, Nat.reduceSub]
      exact ⟨fun _ => trivial, fun q => absurd (by decide) q⟩)
    (fun k hk ihk h1 X1 r1' q1 f1 c1 n1 => by
      -- comes is made anew out of leads
      have lqC := lp_up (P := fun j => ∀ h2 X2, isR h2 m len um sp fs X2 Q → (∀ j, ¬ j = 9 → ¬ j = 10 → X2 j = X0 j) → frm h h2 m 12 → (∀ d, d < 2 ^ n → isb (rch W fx fi ne (k + 1)) (X2 9) d) → (∀ d, d < j → X2 10 d = X2 9 d) → ∃ h' X' r, Z h' X' r ∧ ∀ o3 o5 o6 o7, cx hc_tt M_R_left h h' (some (.int r)) 227 [some (.ref m), some (.int (nI fx)), some (.int (nI (k + 1))), o3, some (.int (nI j)), o5, o6, o7] [] h2) (n := 2 ^ n)
        (by
          intro h2 X2 r2 q2 f2 c2 g2
          have o0 := r2.1
          have o10 := r2.2.2.2.2.2.2.2.2.2.2.1
          have cW : isb (rch W fx fi ne (k + 1)) (X2 10) W := (c2 W (by omega)).c Iff.rfl (g2 W (by omega))
          by_cases w : rch W fx fi ne (k + 1) W
          · refine ⟨h2, X2, nI (k + 1), ⟨r2, q2, f2, Or.inl ⟨k + 1, by omega, w, fun j hj => n1 j (by omega), rfl⟩⟩, fun o3 o5 o6 o7 => sn_R_left_227 _ _ _ ?_⟩
            simp only [vc_R_left_227, vc_R_left_256, qi_push, qi_pushl, qi_iload, qi_lload, qi_aload, qi_istore, qi_astore, qi_lstore, qi_iinc, qi_iadd, qi_isub, qi_imul, qi_iand, qi_ior, qi_ixor, qi_ishl, qi_ishr, qi_iushr, qi_idiv, qi_irem, qi_lor, qi_lmul, qi_ladd, qi_lsub, qi_land, qi_lshl, qi_lshr, qi_i2l, qi_l2i, qi_i2c, qi_lcmp, qi_dup, qi_dup2, qi_pop, qi_if_eq, qi_icmp_eq, qi_if_ne, qi_icmp_ne, qi_if_lt, qi_icmp_lt, qi_if_ge, qi_icmp_ge, qi_if_gt, qi_icmp_gt, qi_if_le, qi_icmp_le, qi_sw, qi_get, qi_put, qi_iald, qi_lald, qi_aald, qi_iast, qi_zast, qi_cast, qi_last, qi_aast, qi_alen, qi_new, qi_newa, qi_newq, qi_obj, qi_invS, qi_invV, qi_invI, qi_iret, qi_zret, qi_lret, qi_vret, qi_acopy, qi_max, qi_min, at_o, at_i, at_l, at_q, at_a, lget, lset, lclr, lnon, lnth, spl, shrt, rpush, true_and, and_true, List.set, List.length, Nat.reduceAdd, Nat.reduceLT, Nat.reduceLeDiff, Nat.reduceEqDiff, Nat.reduceSub, o0]
            refine ⟨_, _, c_R_all r2 (hz X2 q2) hn, ?_⟩
            simp only [qi_push, qi_pushl, qi_iload, qi_lload, qi_aload, qi_istore, qi_astore, qi_lstore, qi_iinc, qi_iadd, qi_isub, qi_imul, qi_iand, qi_ior, qi_ixor, qi_ishl, qi_ishr, qi_iushr, qi_idiv, qi_irem, qi_lor, qi_lmul, qi_ladd, qi_lsub, qi_land, qi_lshl, qi_lshr, qi_i2l, qi_l2i, qi_i2c, qi_lcmp, qi_dup, qi_dup2, qi_pop, qi_if_eq, qi_icmp_eq, qi_if_ne, qi_icmp_ne, qi_if_lt, qi_icmp_lt, qi_if_ge, qi_icmp_ge, qi_if_gt, qi_icmp_gt, qi_if_le, qi_icmp_le, qi_sw, qi_get, qi_put, qi_iald, qi_lald, qi_aald, qi_iast, qi_zast, qi_cast, qi_last, qi_aast, qi_alen, qi_new, qi_newa, qi_newq, qi_obj, qi_invS, qi_invV, qi_invI, qi_iret, qi_zret, qi_lret, qi_vret, qi_acopy, qi_max, qi_min, at_o, at_i, at_l, at_q, at_a, lget, lset, lclr, lnon, lnth, spl, shrt, rpush, true_and, and_true, List.set, List.length, Nat.reduceAdd, Nat.reduceLT, Nat.reduceLeDiff, Nat.reduceEqDiff, Nat.reduceSub, o0]
            refine ⟨fun _ => ⟨_, _, c_R_all r2 (hz X2 q2) hn, ?_⟩, fun q => absurd (nI_lt (by omega) (by omega)) q⟩
            simp only [qi_push, qi_pushl, qi_iload, qi_lload, qi_aload, qi_istore, qi_astore, qi_lstore, qi_iinc, qi_iadd, qi_isub, qi_imul, qi_iand, qi_ior, qi_ixor, qi_ishl, qi_ishr, qi_iushr, qi_idiv, qi_irem, qi_lor, qi_lmul, qi_ladd, qi_lsub, qi_land, qi_lshl, qi_lshr, qi_i2l, qi_l2i, qi_i2c, qi_lcmp, qi_dup, qi_dup2, qi_pop, qi_if_eq, qi_icmp_eq, qi_if_ne, qi_icmp_ne, qi_if_lt, qi_icmp_lt, qi_if_ge, qi_icmp_ge, qi_if_gt, qi_icmp_gt, qi_if_le, qi_icmp_le, qi_sw, qi_get, qi_put, qi_iald, qi_lald, qi_aald, qi_iast, qi_zast, qi_cast, qi_last, qi_aast, qi_alen, qi_new, qi_newa, qi_newq, qi_obj, qi_invS, qi_invV, qi_invI, qi_iret, qi_zret, qi_lret, qi_vret, qi_acopy, qi_max, qi_min, at_o, at_i, at_l, at_q, at_a, lget, lset, lclr, lnon, lnth, spl, shrt, rpush, true_and, and_true, List.set, List.length, Nat.reduceAdd, Nat.reduceLT, Nat.reduceLeDiff, Nat.reduceEqDiff, Nat.reduceSub, o10]
            rw [eW, nI_clamp (by omega), cW.n0]
            exact ⟨vp_in_nI (by omega) (by omega), fun q => absurd w q, fun _ => (by first | trivial | exact ⟨rfl, rfl⟩)⟩
          · obtain ⟨h', X', r, z1, z2⟩ := ihk h2 X2 r2 q2 f2 (fun d hd => (c2 d hd).c Iff.rfl (g2 d hd)) (fun j hj => by
              by_cases e : j = k + 1
              · rw [e]; exact w
              · exact n1 j (by omega))
            refine ⟨h', X', r, z1, fun o3 o5 o6 o7 => sn_R_left_227 _ _ _ ?_⟩
            simp only [vc_R_left_227, vc_R_left_256, qi_push, qi_pushl, qi_iload, qi_lload, qi_aload, qi_istore, qi_astore, qi_lstore, qi_iinc, qi_iadd, qi_isub, qi_imul, qi_iand, qi_ior, qi_ixor, qi_ishl, qi_ishr, qi_iushr, qi_idiv, qi_irem, qi_lor, qi_lmul, qi_ladd, qi_lsub, qi_land, qi_lshl, qi_lshr, qi_i2l, qi_l2i, qi_i2c, qi_lcmp, qi_dup, qi_dup2, qi_pop, qi_if_eq, qi_icmp_eq, qi_if_ne, qi_icmp_ne, qi_if_lt, qi_icmp_lt, qi_if_ge, qi_icmp_ge, qi_if_gt, qi_icmp_gt, qi_if_le, qi_icmp_le, qi_sw, qi_get, qi_put, qi_iald, qi_lald, qi_aald, qi_iast, qi_zast, qi_cast, qi_last, qi_aast, qi_alen, qi_new, qi_newa, qi_newq, qi_obj, qi_invS, qi_invV, qi_invI, qi_iret, qi_zret, qi_lret, qi_vret, qi_acopy, qi_max, qi_min, at_o, at_i, at_l, at_q, at_a, lget, lset, lclr, lnon, lnth, spl, shrt, rpush, true_and, and_true, List.set, List.length, Nat.reduceAdd, Nat.reduceLT, Nat.reduceLeDiff, Nat.reduceEqDiff, Nat.reduceSub, o0]
            refine ⟨_, _, c_R_all r2 (hz X2 q2) hn, ?_⟩
            simp only [qi_push, qi_pushl, qi_iload, qi_lload, qi_aload, qi_istore, qi_astore, qi_lstore, qi_iinc, qi_iadd, qi_isub, qi_imul, qi_iand, qi_ior, qi_ixor, qi_ishl, qi_ishr, qi_iushr, qi_idiv, qi_irem, qi_lor, qi_lmul, qi_ladd, qi_lsub, qi_land, qi_lshl, qi_lshr, qi_i2l, qi_l2i, qi_i2c, qi_lcmp, qi_dup, qi_dup2, qi_pop, qi_if_eq, qi_icmp_eq, qi_if_ne, qi_icmp_ne, qi_if_lt, qi_icmp_lt, qi_if_ge, qi_icmp_ge, qi_if_gt, qi_icmp_gt, qi_if_le, qi_icmp_le, qi_sw, qi_get, qi_put, qi_iald, qi_lald, qi_aald, qi_iast, qi_zast, qi_cast, qi_last, qi_aast, qi_alen, qi_new, qi_newa, qi_newq, qi_obj, qi_invS, qi_invV, qi_invI, qi_iret, qi_zret, qi_lret, qi_vret, qi_acopy, qi_max, qi_min, at_o, at_i, at_l, at_q, at_a, lget, lset, lclr, lnon, lnth, spl, shrt, rpush, true_and, and_true, List.set, List.length, Nat.reduceAdd, Nat.reduceLT, Nat.reduceLeDiff, Nat.reduceEqDiff, Nat.reduceSub, o0]
            refine ⟨fun _ => ⟨_, _, c_R_all r2 (hz X2 q2) hn, ?_⟩, fun q => absurd (nI_lt (by omega) (by omega)) q⟩
            simp only [vc_R_left_270, qi_push, qi_pushl, qi_iload, qi_lload, qi_aload, qi_istore, qi_astore, qi_lstore, qi_iinc, qi_iadd, qi_isub, qi_imul, qi_iand, qi_ior, qi_ixor, qi_ishl, qi_ishr, qi_iushr, qi_idiv, qi_irem, qi_lor, qi_lmul, qi_ladd, qi_lsub, qi_land, qi_lshl, qi_lshr, qi_i2l, qi_l2i, qi_i2c, qi_lcmp, qi_dup, qi_dup2, qi_pop, qi_if_eq, qi_icmp_eq, qi_if_ne, qi_icmp_ne, qi_if_lt, qi_icmp_lt, qi_if_ge, qi_icmp_ge, qi_if_gt, qi_icmp_gt, qi_if_le, qi_icmp_le, qi_sw, qi_get, qi_put, qi_iald, qi_lald, qi_aald, qi_iast, qi_zast, qi_cast, qi_last, qi_aast, qi_alen, qi_new, qi_newa, qi_newq, qi_obj, qi_invS, qi_invV, qi_invI, qi_iret, qi_zret, qi_lret, qi_vret, qi_acopy, qi_max, qi_min, at_o, at_i, at_l, at_q, at_a, lget, lset, lclr, lnon, lnth, spl, shrt, rpush, true_and, and_true, List.set, List.length, Nat.reduceAdd, Nat.reduceLT, Nat.reduceLeDiff, Nat.reduceEqDiff, Nat.reduceSub, o10, nI_add]
            rw [eW, nI_clamp (by omega), cW.n0]
            exact ⟨vp_in_nI (by omega) (by omega), fun _ => z2 _ _ _ _ _, fun q => absurd w q⟩)
        (fun j hj ihj h2 X2 r2 q2 f2 c2 g2 => by
          have o0 := r2.1
          have o9 := r2.2.2.2.2.2.2.2.2.2.1
          have o10 := r2.2.2.2.2.2.2.2.2.2.2.1
          have vj : vp_in (nI j) 4096 := vp_in_nI (by omega) (by omega)
          have cj : (nI j).toNatClampNeg = j := nI_clamp (by omega)
          have l1 := (c2 j hj).le
          have r3 := r2.set10 (f := va_up (X2 10) j (X2 9 j))
          obtain ⟨h', X', r, z1, z2⟩ := ihj _ _ r3 (fun i i9 i10 => by rw [up_ne i10]; exact q2 i i9 i10) (f2.set (by omega)) c2 (fun d hd => by
            show va_up (X2 10) j (X2 9 j) d = X2 9 d
            by_cases e : d = j
            · rw [e, up_eq]
            · rw [up_ne e]; exact g2 d (by omega))
          refine ⟨h', X', r, z1, fun o3 o5 o6 o7 => sn_R_left_227 _ _ _ ?_⟩
          have eb : nI (X2 9 j) &&& 1 = nI (X2 9 j) := by rcases (show X2 9 j = 0 ∨ X2 9 j = 1 by omega) with q | q <;> rw [q] <;> decide
          simp only [vc_R_left_227, qi_push, qi_pushl, qi_iload, qi_lload, qi_aload, qi_istore, qi_astore, qi_lstore, qi_iinc, qi_iadd, qi_isub, qi_imul, qi_iand, qi_ior, qi_ixor, qi_ishl, qi_ishr, qi_iushr, qi_idiv, qi_irem, qi_lor, qi_lmul, qi_ladd, qi_lsub, qi_land, qi_lshl, qi_lshr, qi_i2l, qi_l2i, qi_i2c, qi_lcmp, qi_dup, qi_dup2, qi_pop, qi_if_eq, qi_icmp_eq, qi_if_ne, qi_icmp_ne, qi_if_lt, qi_icmp_lt, qi_if_ge, qi_icmp_ge, qi_if_gt, qi_icmp_gt, qi_if_le, qi_icmp_le, qi_sw, qi_get, qi_put, qi_iald, qi_lald, qi_aald, qi_iast, qi_zast, qi_cast, qi_last, qi_aast, qi_alen, qi_new, qi_newa, qi_newq, qi_obj, qi_invS, qi_invV, qi_invI, qi_iret, qi_zret, qi_lret, qi_vret, qi_acopy, qi_max, qi_min, at_o, at_i, at_l, at_q, at_a, lget, lset, lclr, lnon, lnth, spl, shrt, rpush, true_and, and_true, List.set, List.length, Nat.reduceAdd, Nat.reduceLT, Nat.reduceLeDiff, Nat.reduceEqDiff, Nat.reduceSub, o0]
          refine ⟨_, _, c_R_all r2 (hz X2 q2) hn, ?_⟩
          simp only [qi_push, qi_pushl, qi_iload, qi_lload, qi_aload, qi_istore, qi_astore, qi_lstore, qi_iinc, qi_iadd, qi_isub, qi_imul, qi_iand, qi_ior, qi_ixor, qi_ishl, qi_ishr, qi_iushr, qi_idiv, qi_irem, qi_lor, qi_lmul, qi_ladd, qi_lsub, qi_land, qi_lshl, qi_lshr, qi_i2l, qi_l2i, qi_i2c, qi_lcmp, qi_dup, qi_dup2, qi_pop, qi_if_eq, qi_icmp_eq, qi_if_ne, qi_icmp_ne, qi_if_lt, qi_icmp_lt, qi_if_ge, qi_icmp_ge, qi_if_gt, qi_icmp_gt, qi_if_le, qi_icmp_le, qi_sw, qi_get, qi_put, qi_iald, qi_lald, qi_aald, qi_iast, qi_zast, qi_cast, qi_last, qi_aast, qi_alen, qi_new, qi_newa, qi_newq, qi_obj, qi_invS, qi_invV, qi_invI, qi_iret, qi_zret, qi_lret, qi_vret, qi_acopy, qi_max, qi_min, at_o, at_i, at_l, at_q, at_a, lget, lset, lclr, lnon, lnth, spl, shrt, rpush, true_and, and_true, List.set, List.length, Nat.reduceAdd, Nat.reduceLT, Nat.reduceLeDiff, Nat.reduceEqDiff, Nat.reduceSub, o0, o9, o10, vj, cj, nI_add, eb]
          rw [upd_nI]
          exact ⟨fun q => absurd q (nI_nlt (by omega) (by omega)), fun _ => z2 _ _ _ _⟩)
      -- leads: all steps
      have lqD := lp_up (P := fun j => ∀ h2 X2, isR h2 m len um sp fs X2 Q → (∀ j, ¬ j = 9 → ¬ j = 10 → X2 j = X0 j) → frm h h2 m 12 → (∀ d, d < 2 ^ n → isb (rch W fx fi ne k) (X2 10) d) → (∀ d, d < 2 ^ n → isb (lfQ W fx fi ne k j) (X2 9) d) → ∃ h' X' r, Z h' X' r ∧ ∀ o5 o6 o7, cx hc_tt M_R_left h h' (some (.int r)) 108 [some (.ref m), some (.int (nI fx)), some (.int (nI (k + 1))), some (.int (nI (fi (k + 1)))), some (.int (nI j)), o5, o6, o7] [] h2) (n := 2 ^ n)
        (by
          intro h2 X2 r2 q2 f2 c2 g2
          have o0 := r2.1
          obtain ⟨h', X', r, z1, z2⟩ := lqC 0 (Nat.zero_le _) h2 X2 r2 q2 f2 (fun d hd => (g2 d hd).c ⟨fun q => by
            rcases q with q | ⟨e, t, -, ⟨t1, t2, t3⟩, t4⟩
            · exact Or.inl q
            · exact Or.inr ⟨e, t, t1, t2, t3, t4⟩, fun q => by
            rcases q with q | ⟨e, t, t1, t2, t3, t4⟩
            · exact Or.inl q
            · refine Or.inr ⟨e, t, ?_, ⟨t1, t2, t3⟩, t4⟩
              have := sub_le (rch_sub k e t1)
              omega⟩ rfl) (fun d hd => by omega)
          refine ⟨h', X', r, z1, fun o5 o6 o7 => sn_R_left_108 _ _ _ ?_⟩
          simp only [vc_R_left_108, vc_R_left_224, qi_push, qi_pushl, qi_iload, qi_lload, qi_aload, qi_istore, qi_astore, qi_lstore, qi_iinc, qi_iadd, qi_isub, qi_imul, qi_iand, qi_ior, qi_ixor, qi_ishl, qi_ishr, qi_iushr, qi_idiv, qi_irem, qi_lor, qi_lmul, qi_ladd, qi_lsub, qi_land, qi_lshl, qi_lshr, qi_i2l, qi_l2i, qi_i2c, qi_lcmp, qi_dup, qi_dup2, qi_pop, qi_if_eq, qi_icmp_eq, qi_if_ne, qi_icmp_ne, qi_if_lt, qi_icmp_lt, qi_if_ge, qi_icmp_ge, qi_if_gt, qi_icmp_gt, qi_if_le, qi_icmp_le, qi_sw, qi_get, qi_put, qi_iald, qi_lald, qi_aald, qi_iast, qi_zast, qi_cast, qi_last, qi_aast, qi_alen, qi_new, qi_newa, qi_newq, qi_obj, qi_invS, qi_invV, qi_invI, qi_iret, qi_zret, qi_lret, qi_vret, qi_acopy, qi_max, qi_min, at_o, at_i, at_l, at_q, at_a, lget, lset, lclr, lnon, lnth, spl, shrt, rpush, true_and, and_true, List.set, List.length, Nat.reduceAdd, Nat.reduceLT, Nat.reduceLeDiff, Nat.reduceEqDiff, Nat.reduceSub, o0]
          refine ⟨_, _, c_R_all r2 (hz X2 q2) hn, ?_⟩
          simp only [qi_push, qi_pushl, qi_iload, qi_lload, qi_aload, qi_istore, qi_astore, qi_lstore, qi_iinc, qi_iadd, qi_isub, qi_imul, qi_iand, qi_ior, qi_ixor, qi_ishl, qi_ishr, qi_iushr, qi_idiv, qi_irem, qi_lor, qi_lmul, qi_ladd, qi_lsub, qi_land, qi_lshl, qi_lshr, qi_i2l, qi_l2i, qi_i2c, qi_lcmp, qi_dup, qi_dup2, qi_pop, qi_if_eq, qi_icmp_eq, qi_if_ne, qi_icmp_ne, qi_if_lt, qi_icmp_lt, qi_if_ge, qi_icmp_ge, qi_if_gt, qi_icmp_gt, qi_if_le, qi_icmp_le, qi_sw, qi_get, qi_put, qi_iald, qi_lald, qi_aald, qi_iast, qi_zast, qi_cast, qi_last, qi_aast, qi_alen, qi_new, qi_newa, qi_newq, qi_obj, qi_invS, qi_invV, qi_invI, qi_iret, qi_zret, qi_lret, qi_vret, qi_acopy, qi_max, qi_min, at_o, at_i, at_l, at_q, at_a, lget, lset, lclr, lnon, lnth, spl, shrt, rpush, true_and, and_true, List.set, List.length, Nat.reduceAdd, Nat.reduceLT, Nat.reduceLeDiff, Nat.reduceEqDiff, Nat.reduceSub]
          exact ⟨fun _ => z2 _ _ _ _, fun q => absurd (nI_lt (by omega) (by omega)) q⟩)
        (fun j hj ihj h2 X2 r2 q2 f2 c2 g2 => by
          have vj : vp_in (nI j) 4096 := vp_in_nI (by omega) (by omega)
          have cj : (nI j).toNatClampNeg = j := nI_clamp (by omega)
          obtain ⟨op, eop⟩ : ∃ z, sdf W j = z := ⟨_, rfl⟩
          have opW : sub op W := by rw [← eop]; exact sdf_sub _ _
          have opl := sub_le opW
          have dis : ∀ s, sub s op → j &&& s = 0 := fun s hs => and_0.mpr fun i h1 h2 => by
            have := sub_iff.mp hs i h2
            rw [← eop, bit_sdf] at this
            exact this.2 h1
          have inO : ∀ t, ed W ne j t → sub t op := fun t ht => by
            rw [← eop, sub_iff]
            intro i hi
            rw [bit_sdf]
            exact ⟨sub_iff.mp ht.1 i hi, fun q => and_0.mp ht.2.1 i q hi⟩
          have lqI := subm_loop (o := op) (P := fun s => ∀ h3 X3, isR h3 m len um sp fs X3 Q → (∀ j, ¬ j = 9 → ¬ j = 10 → X3 j = X0 j) → frm h h3 m 12 → (∀ d, d < 2 ^ n → isb (rch W fx fi ne k) (X3 10) d) → (∀ d, d < 2 ^ n → isb (lfS W fx fi ne k j s) (X3 9) d) → ∃ h' X' r, Z h' X' r ∧ ∀ o7, cx hc_tt M_R_left h h' (some (.int r)) 132 [some (.ref m), some (.int (nI fx)), some (.int (nI (k + 1))), some (.int (nI (fi (k + 1)))), some (.int (nI j)), some (.int (nI op)), some (.int (nI s)), o7] [] h3)
            (by
              intro h3 X3 r3 q3 f3 c3 g3
              obtain ⟨h', X', r, z1, z2⟩ := ihj h3 X3 r3 q3 f3 c3 (fun d hd => (g3 d hd).c ⟨fun q => by
                rcases q with (q | ⟨e, t, t1, t2⟩) | ⟨t, t1, t2⟩
                · exact Or.inl q
                · exact Or.inr ⟨e, t, by omega, t2⟩
                · exact Or.inr ⟨j, t, by omega, t2⟩, fun q => by
                rcases q with q | ⟨e, t, t1, t2, t3⟩
                · exact Or.inl (Or.inl q)
                · by_cases w : e = j
                  · subst w; exact Or.inr ⟨t, t2.2.1.2.2.1, t2, t3⟩
                  · exact Or.inl (Or.inr ⟨e, t, by omega, t2, t3⟩)⟩ rfl)
              refine ⟨h', X', r, z1, fun o7 => sn_R_left_132 _ _ _ ?_⟩
              simp only [vc_R_left_132, vc_R_left_218, qi_push, qi_pushl, qi_iload, qi_lload, qi_aload, qi_istore, qi_astore, qi_lstore, qi_iinc, qi_iadd, qi_isub, qi_imul, qi_iand, qi_ior, qi_ixor, qi_ishl, qi_ishr, qi_iushr, qi_idiv, qi_irem, qi_lor, qi_lmul, qi_ladd, qi_lsub, qi_land, qi_lshl, qi_lshr, qi_i2l, qi_l2i, qi_i2c, qi_lcmp, qi_dup, qi_dup2, qi_pop, qi_if_eq, qi_icmp_eq, qi_if_ne, qi_icmp_ne, qi_if_lt, qi_icmp_lt, qi_if_ge, qi_icmp_ge, qi_if_gt, qi_icmp_gt, qi_if_le, qi_icmp_le, qi_sw, qi_get, qi_put, qi_iald, qi_lald, qi_aald, qi_iast, qi_zast, qi_cast, qi_last, qi_aast, qi_alen, qi_new, qi_newa, qi_newq, qi_obj, qi_invS, qi_invV, qi_invI, qi_iret, qi_zret, qi_lret, qi_vret, qi_acopy, qi_max, qi_min, at_o, at_i, at_l, at_q, at_a, lget, lset, lclr, lnon, lnth, spl, shrt, rpush, true_and, and_true, List.set, List.length, Nat.reduceAdd, Nat.reduceLT, Nat.reduceLeDiff, Nat.reduceEqDiff, Nat.reduceSub, nI_add]
              exact ⟨fun _ => z2 _ _ _, fun q => absurd (by decide) q⟩)
            (fun s hs s0 ihs h3 X3 r3 q3 f3 c3 g3 => by
              have sl : s ≤ W := Nat.le_trans (sub_le hs) opl
              have dl : j ||| s ≤ W := sub_le (or_sub (by rw [← eW]; exact sub_all.mpr (by omega)) (sub_trans hs opW))
              have vo : vp_in (nI (j ||| s)) 4096 := vp_in_nI (by omega) (by omega)
              have co : (nI (j ||| s)).toNatClampNeg = j ||| s := nI_clamp (by omega)
              have o0 := r3.1
              have o9 := r3.2.2.2.2.2.2.2.2.2.1
              have o10 := r3.2.2.2.2.2.2.2.2.2.2.1
              have cjj := c3 j hj
              have csl := sub_le (sub_and (s - 1) op)
              by_cases w : rch W fx fi ne k j
              · have xed : nxb n C T B A J j s = true ↔ ed W ne j s := by
                  have := nx_ed (c := C) (T := T) (B := B) (A := A) (J := J) hn (show j < 2 ^ n by omega) (show s < 2 ^ n by omega) (dis s hs)
                  rw [eW, ene] at this
                  exact this
                have nxt : ∀ b : Bool, (b = true ↔ (s &&& fx = fi (k + 1) ∧ nxb n C T B A J j s = true)) → ∃ h' X' r, Z h' X' r ∧ ∀ o7, vc_R_left_171 (some (.int r)) h' (cx hc_tt M_R_left h h' (some (.int r))) [some (.ref m), some (.int (nI fx)), some (.int (nI (k + 1))), some (.int (nI (fi (k + 1)))), some (.int (nI j)), some (.int (nI op)), some (.int (nI s)), o7] [.int (nI b.toNat)] h3 := by
                  intro b hb
                  have hb2 : b = true ↔ lfE W fx fi ne k j s := by
                    rw [hb, xed]
                    exact ⟨fun q => ⟨w, q.2, q.1⟩, fun q => ⟨q.2.2, q.2.1⟩⟩
                  obtain ⟨b2, eb2⟩ : ∃ z : Bool, (decide (¬ X3 9 (j ||| s) = 0) || b) = z := ⟨_, rfl⟩
                  have gs := g3 (j ||| s) (by omega)
                  have r4 := r3.set9 (f := va_up (X3 9) (j ||| s) b2.toNat)
                  obtain ⟨h', X', r, z1, z2⟩ := ihs _ _ r4 (fun i i9 i10 => by rw [up_ne i9]; exact q3 i i9 i10) (f3.set (by omega)) c3 (fun d hd => by
                    have eq : lfS W fx fi ne k j s d ∨ (b = true ∧ d = j ||| s) ↔ lfS W fx fi ne k j ((s - 1) &&& op) d := by
                      constructor
                      · rintro ((q | ⟨t, t1, t2⟩) | ⟨q1, q2⟩)
                        · exact Or.inl q
                        · exact Or.inr ⟨t, by have := (subm_seen hs s0 (inO t t2.1.2.1)).mpr (by omega); omega, t2⟩
                        · exact Or.inr ⟨s, (subm_seen hs s0 hs).mpr (Nat.le_refl _), hb2.mp q1, q2⟩
                      · rintro (q | ⟨t, t1, t2⟩)
                        · exact Or.inl (Or.inl q)
                        · have := (subm_seen hs s0 (inO t t2.1.2.1)).mp t1
                          by_cases e : t = s
                          · subst e; exact Or.inr ⟨hb2.mpr t2.1, t2.2⟩
                          · exact Or.inl (Or.inr ⟨t, by omega, t2⟩)
                    by_cases e : d = j ||| s
                    · subst e
                      refine isb_up ?_
                      rw [← eb2, Bool.or_eq_true, decide_eq_true_eq, gs.t, ← eq]
                      exact ⟨fun q => q.elim Or.inl (fun q => Or.inr ⟨q, rfl⟩), fun q => q.elim Or.inl (fun q => Or.inr q.1)⟩
                    · refine (g3 d hd).c ?_ (up_ne e)
                      rw [← eq]
                      exact ⟨fun q => Or.inl q, fun q => q.elim id (fun q => absurd q.2 e)⟩)
                  refine ⟨h', X', r, z1, fun o7 => ?_⟩
                  simp only [vc_R_left_171, vc_R_left_200, vc_R_left_204, vc_R_left_205, qi_push, qi_pushl, qi_iload, qi_lload, qi_aload, qi_istore, qi_astore, qi_lstore, qi_iinc, qi_iadd, qi_isub, qi_imul, qi_iand, qi_ior, qi_ixor, qi_ishl, qi_ishr, qi_iushr, qi_idiv, qi_irem, qi_lor, qi_lmul, qi_ladd, qi_lsub, qi_land, qi_lshl, qi_lshr, qi_i2l, qi_l2i, qi_i2c, qi_lcmp, qi_dup, qi_dup2, qi_pop, qi_if_eq, qi_icmp_eq, qi_if_ne, qi_icmp_ne, qi_if_lt, qi_icmp_lt, qi_if_ge, qi_icmp_ge, qi_if_gt, qi_icmp_gt, qi_if_le, qi_icmp_le, qi_sw, qi_get, qi_put, qi_iald, qi_lald, qi_aald, qi_iast, qi_zast, qi_cast, qi_last, qi_aast, qi_alen, qi_new, qi_newa, qi_newq, qi_obj, qi_invS, qi_invV, qi_invI, qi_iret, qi_zret, qi_lret, qi_vret, qi_acopy, qi_max, qi_min, at_o, at_i, at_l, at_q, at_a, lget, lset, lclr, lnon, lnth, spl, shrt, rpush, true_and, and_true, List.set, List.length, Nat.reduceAdd, Nat.reduceLT, Nat.reduceLeDiff, Nat.reduceEqDiff, Nat.reduceSub, o0, o9, ni_or, vo, co]
                  rw [pk_sub (by omega), ni_and, show nI 1 = nI (true.toNat) from rfl, show nI 0 = nI (false.toNat) from rfl, updZ, updZ]
                  refine ⟨fun c => ?_, fun c => ⟨fun c2 => ?_, fun c2 => ?_⟩⟩
                  · have : b2 = true := by rw [← eb2, decide_eq_true (p := ¬ X3 9 (j ||| s) = 0) (fun q => c (by rw [q]; rfl))]; rfl
                    rw [this] at z2; exact z2 _
                  · have e1 : X3 9 (j ||| s) = 0 := by
                      have := gs.le
                      have : ¬ X3 9 (j ||| s) = 1 := fun q => by rw [q] at c; exact absurd c c10
                      omega
                    have : b2 = false := by rw [← eb2, decide_eq_false (p := ¬ X3 9 (j ||| s) = 0) (fun q => q e1), (nb_eq0 _).mp c2]; rfl
                    rw [this] at z2; exact z2 _
                  · have : b2 = true := by rw [← eb2, (nb_ne0 _).mp c2, Bool.or_true]
                    rw [this] at z2; exact z2 _
                by_cases w2 : s &&& fx = fi (k + 1)
                · obtain ⟨h', X', r, z1, z2⟩ := nxt (nxb n C T B A J j s) ⟨fun q => ⟨w2, q⟩, fun q => q.2⟩
                  refine ⟨h', X', r, z1, fun o7 => sn_R_left_132 _ _ _ ?_⟩
                  simp only [vc_R_left_132, qi_push, qi_pushl, qi_iload, qi_lload, qi_aload, qi_istore, qi_astore, qi_lstore, qi_iinc, qi_iadd, qi_isub, qi_imul, qi_iand, qi_ior, qi_ixor, qi_ishl, qi_ishr, qi_iushr, qi_idiv, qi_irem, qi_lor, qi_lmul, qi_ladd, qi_lsub, qi_land, qi_lshl, qi_lshr, qi_i2l, qi_l2i, qi_i2c, qi_lcmp, qi_dup, qi_dup2, qi_pop, qi_if_eq, qi_icmp_eq, qi_if_ne, qi_icmp_ne, qi_if_lt, qi_icmp_lt, qi_if_ge, qi_icmp_ge, qi_if_gt, qi_icmp_gt, qi_if_le, qi_icmp_le, qi_sw, qi_get, qi_put, qi_iald, qi_lald, qi_aald, qi_iast, qi_zast, qi_cast, qi_last, qi_aast, qi_alen, qi_new, qi_newa, qi_newq, qi_obj, qi_invS, qi_invV, qi_invI, qi_iret, qi_zret, qi_lret, qi_vret, qi_acopy, qi_max, qi_min, at_o, at_i, at_l, at_q, at_a, lget, lset, lclr, lnon, lnth, spl, shrt, rpush, true_and, and_true, List.set, List.length, Nat.reduceAdd, Nat.reduceLT, Nat.reduceLeDiff, Nat.reduceEqDiff, Nat.reduceSub, o0, o10, vj, cj, ni_and]
                  rw [cjj.n0, w2]
                  refine ⟨fun q => absurd q (nI_nle s0 (by omega)), fun _ => ⟨fun q => absurd w q, fun _ => ⟨fun q => absurd rfl q, fun _ => ⟨_, _, c_R_isNext r3 (hg X3 q3) hn hw.2.2.1 (d := j) (s := s) (by omega) (by omega), ?_⟩⟩⟩⟩
                  simp only [vc_R_left_170, qi_push, qi_pushl, qi_iload, qi_lload, qi_aload, qi_istore, qi_astore, qi_lstore, qi_iinc, qi_iadd, qi_isub, qi_imul, qi_iand, qi_ior, qi_ixor, qi_ishl, qi_ishr, qi_iushr, qi_idiv, qi_irem, qi_lor, qi_lmul, qi_ladd, qi_lsub, qi_land, qi_lshl, qi_lshr, qi_i2l, qi_l2i, qi_i2c, qi_lcmp, qi_dup, qi_dup2, qi_pop, qi_if_eq, qi_icmp_eq, qi_if_ne, qi_icmp_ne, qi_if_lt, qi_icmp_lt, qi_if_ge, qi_icmp_ge, qi_if_gt, qi_icmp_gt, qi_if_le, qi_icmp_le, qi_sw, qi_get, qi_put, qi_iald, qi_lald, qi_aald, qi_iast, qi_zast, qi_cast, qi_last, qi_aast, qi_alen, qi_new, qi_newa, qi_newq, qi_obj, qi_invS, qi_invV, qi_invI, qi_iret, qi_zret, qi_lret, qi_vret, qi_acopy, qi_max, qi_min, at_o, at_i, at_l, at_q, at_a, lget, lset, lclr, lnon, lnth, spl, shrt, rpush, true_and, and_true, List.set, List.length, Nat.reduceAdd, Nat.reduceLT, Nat.reduceLeDiff, Nat.reduceEqDiff, Nat.reduceSub]
                  refine ⟨fun q => ?_, fun q => ?_⟩
                  · have := z2 o7
                    rw [(nb_eq0 _).mp q] at this; exact this
                  · have := z2 o7
                    rw [(nb_ne0 _).mp q] at this; exact this
                · obtain ⟨h', X', r, z1, z2⟩ := nxt false ⟨fun q => (by cases q), fun q => absurd q.1 w2⟩
                  refine ⟨h', X', r, z1, fun o7 => sn_R_left_132 _ _ _ ?_⟩
                  simp only [vc_R_left_132, vc_R_left_170, qi_push, qi_pushl, qi_iload, qi_lload, qi_aload, qi_istore, qi_astore, qi_lstore, qi_iinc, qi_iadd, qi_isub, qi_imul, qi_iand, qi_ior, qi_ixor, qi_ishl, qi_ishr, qi_iushr, qi_idiv, qi_irem, qi_lor, qi_lmul, qi_ladd, qi_lsub, qi_land, qi_lshl, qi_lshr, qi_i2l, qi_l2i, qi_i2c, qi_lcmp, qi_dup, qi_dup2, qi_pop, qi_if_eq, qi_icmp_eq, qi_if_ne, qi_icmp_ne, qi_if_lt, qi_icmp_lt, qi_if_ge, qi_icmp_ge, qi_if_gt, qi_icmp_gt, qi_if_le, qi_icmp_le, qi_sw, qi_get, qi_put, qi_iald, qi_lald, qi_aald, qi_iast, qi_zast, qi_cast, qi_last, qi_aast, qi_alen, qi_new, qi_newa, qi_newq, qi_obj, qi_invS, qi_invV, qi_invI, qi_iret, qi_zret, qi_lret, qi_vret, qi_acopy, qi_max, qi_min, at_o, at_i, at_l, at_q, at_a, lget, lset, lclr, lnon, lnth, spl, shrt, rpush, true_and, and_true, List.set, List.length, Nat.reduceAdd, Nat.reduceLT, Nat.reduceLeDiff, Nat.reduceEqDiff, Nat.reduceSub, o0, o10, vj, cj, ni_and]
                  rw [cjj.n0, nI_eq (and_31 (by omega)) (by have := fil (k + 1); omega)]
                  exact ⟨fun q => absurd q (nI_nle s0 (by omega)), fun _ => ⟨fun q => absurd w q, fun _ => ⟨fun _ => z2 _, fun q => absurd q w2⟩⟩⟩
              · -- nothing comes here: no step
                obtain ⟨h', X', r, z1, z2⟩ := ihj h3 X3 r3 q3 f3 c3 (fun d hd => (g3 d hd).c ⟨fun q => by
                  rcases q with (q | ⟨e, t, t1, t2⟩) | ⟨t, t1, t2⟩
                  · exact Or.inl q
                  · exact Or.inr ⟨e, t, by omega, t2⟩
                  · exact absurd t2.1.1 w, fun q => by
                  rcases q with q | ⟨e, t, t1, t2, t3⟩
                  · exact Or.inl (Or.inl q)
                  · by_cases w3 : e = j
                    · subst w3; exact absurd t2.1 w
                    · exact Or.inl (Or.inr ⟨e, t, by omega, t2, t3⟩)⟩ rfl)
                refine ⟨h', X', r, z1, fun o7 => sn_R_left_132 _ _ _ ?_⟩
                simp only [vc_R_left_132, vc_R_left_218, qi_push, qi_pushl, qi_iload, qi_lload, qi_aload, qi_istore, qi_astore, qi_lstore, qi_iinc, qi_iadd, qi_isub, qi_imul, qi_iand, qi_ior, qi_ixor, qi_ishl, qi_ishr, qi_iushr, qi_idiv, qi_irem, qi_lor, qi_lmul, qi_ladd, qi_lsub, qi_land, qi_lshl, qi_lshr, qi_i2l, qi_l2i, qi_i2c, qi_lcmp, qi_dup, qi_dup2, qi_pop, qi_if_eq, qi_icmp_eq, qi_if_ne, qi_icmp_ne, qi_if_lt, qi_icmp_lt, qi_if_ge, qi_icmp_ge, qi_if_gt, qi_icmp_gt, qi_if_le, qi_icmp_le, qi_sw, qi_get, qi_put, qi_iald, qi_lald, qi_aald, qi_iast, qi_zast, qi_cast, qi_last, qi_aast, qi_alen, qi_new, qi_newa, qi_newq, qi_obj, qi_invS, qi_invV, qi_invI, qi_iret, qi_zret, qi_lret, qi_vret, qi_acopy, qi_max, qi_min, at_o, at_i, at_l, at_q, at_a, lget, lset, lclr, lnon, lnth, spl, shrt, rpush, true_and, and_true, List.set, List.length, Nat.reduceAdd, Nat.reduceLT, Nat.reduceLeDiff, Nat.reduceEqDiff, Nat.reduceSub, o0, o10, vj, cj, nI_add]
                rw [cjj.n0]
                exact ⟨fun q => absurd q (nI_nle s0 (by omega)), fun _ => ⟨fun _ => z2 _ _ _, fun q => absurd w q⟩⟩)
          obtain ⟨h', X', r, z1, z2⟩ := lqI op (sub_rfl op) h2 X2 r2 q2 f2 c2 (fun d hd => (g2 d hd).c ⟨fun q => Or.inl q, fun q => by
            rcases q with q | ⟨t, t1, t2⟩
            · exact q
            · have := sub_le (inO t t2.1.2.1)
              omega⟩ rfl)
          have o0 := r2.1
          refine ⟨h', X', r, z1, fun o5 o6 o7 => sn_R_left_108 _ _ _ ?_⟩
          simp only [vc_R_left_108, qi_push, qi_pushl, qi_iload, qi_lload, qi_aload, qi_istore, qi_astore, qi_lstore, qi_iinc, qi_iadd, qi_isub, qi_imul, qi_iand, qi_ior, qi_ixor, qi_ishl, qi_ishr, qi_iushr, qi_idiv, qi_irem, qi_lor, qi_lmul, qi_ladd, qi_lsub, qi_land, qi_lshl, qi_lshr, qi_i2l, qi_l2i, qi_i2c, qi_lcmp, qi_dup, qi_dup2, qi_pop, qi_if_eq, qi_icmp_eq, qi_if_ne, qi_icmp_ne, qi_if_lt, qi_icmp_lt, qi_if_ge, qi_icmp_ge, qi_if_gt, qi_icmp_gt, qi_if_le, qi_icmp_le, qi_sw, qi_get, qi_put, qi_iald, qi_lald, qi_aald, qi_iast, qi_zast, qi_cast, qi_last, qi_aast, qi_alen, qi_new, qi_newa, qi_newq, qi_obj, qi_invS, qi_invV, qi_invI, qi_iret, qi_zret, qi_lret, qi_vret, qi_acopy, qi_max, qi_min, at_o, at_i, at_l, at_q, at_a, lget, lset, lclr, lnon, lnth, spl, shrt, rpush, true_and, and_true, List.set, List.length, Nat.reduceAdd, Nat.reduceLT, Nat.reduceLeDiff, Nat.reduceEqDiff, Nat.reduceSub, o0]
          refine ⟨_, _, c_R_all r2 (hz X2 q2) hn, ?_⟩
          simp only [qi_push, qi_pushl, qi_iload, qi_lload, qi_aload, qi_istore, qi_astore, qi_lstore, qi_iinc, qi_iadd, qi_isub, qi_imul, qi_iand, qi_ior, qi_ixor, qi_ishl, qi_ishr, qi_iushr, qi_idiv, qi_irem, qi_lor, qi_lmul, qi_ladd, qi_lsub, qi_land, qi_lshl, qi_lshr, qi_i2l, qi_l2i, qi_i2c, qi_lcmp, qi_dup, qi_dup2, qi_pop, qi_if_eq, qi_icmp_eq, qi_if_ne, qi_icmp_ne, qi_if_lt, qi_icmp_lt, qi_if_ge, qi_icmp_ge, qi_if_gt, qi_icmp_gt, qi_if_le, qi_icmp_le, qi_sw, qi_get, qi_put, qi_iald, qi_lald, qi_aald, qi_iast, qi_zast, qi_cast, qi_last, qi_aast, qi_alen, qi_new, qi_newa, qi_newq, qi_obj, qi_invS, qi_invV, qi_invI, qi_iret, qi_zret, qi_lret, qi_vret, qi_acopy, qi_max, qi_min, at_o, at_i, at_l, at_q, at_a, lget, lset, lclr, lnon, lnth, spl, shrt, rpush, true_and, and_true, List.set, List.length, Nat.reduceAdd, Nat.reduceLT, Nat.reduceLeDiff, Nat.reduceEqDiff, Nat.reduceSub, o0]
          refine ⟨fun q => absurd q (nI_nlt (by omega) (by omega)), fun _ => ⟨_, _, c_R_all r2 (hz X2 q2) hn, ?_⟩⟩
          simp only [qi_push, qi_pushl, qi_iload, qi_lload, qi_aload, qi_istore, qi_astore, qi_lstore, qi_iinc, qi_iadd, qi_isub, qi_imul, qi_iand, qi_ior, qi_ixor, qi_ishl, qi_ishr, qi_iushr, qi_idiv, qi_irem, qi_lor, qi_lmul, qi_ladd, qi_lsub, qi_land, qi_lshl, qi_lshr, qi_i2l, qi_l2i, qi_i2c, qi_lcmp, qi_dup, qi_dup2, qi_pop, qi_if_eq, qi_icmp_eq, qi_if_ne, qi_icmp_ne, qi_if_lt, qi_icmp_lt, qi_if_ge, qi_icmp_ge, qi_if_gt, qi_icmp_gt, qi_if_le, qi_icmp_le, qi_sw, qi_get, qi_put, qi_iald, qi_lald, qi_aald, qi_iast, qi_zast, qi_cast, qi_last, qi_aast, qi_alen, qi_new, qi_newa, qi_newq, qi_obj, qi_invS, qi_invV, qi_invI, qi_iret, qi_zret, qi_lret, qi_vret, qi_acopy, qi_max, qi_min, at_o, at_i, at_l, at_q, at_a, lget, lset, lclr, lnon, lnth, spl, shrt, rpush, true_and, and_true, List.set, List.length, Nat.reduceAdd, Nat.reduceLT, Nat.reduceLeDiff, Nat.reduceEqDiff, Nat.reduceSub]
          rw [ni_not, eW, eop]
          exact z2 _)
      -- leads: nothing in this station
      have lqB : ∀ j, j ≤ 2 ^ n → ∀ h2 X2, isR h2 m len um sp fs X2 Q → (∀ j, ¬ j = 9 → ¬ j = 10 → X2 j = X0 j) → frm h h2 m 12 → (∀ d, d < 2 ^ n → isb (rch W fx fi ne k) (X2 10) d) → (∀ d, j ≤ d → d < 2 ^ n → isb (lfQ W fx fi ne k 0) (X2 9) d) → ∃ h' X' r, Z h' X' r ∧ ∀ o5 o6 o7, cx hc_tt M_R_left h h' (some (.int r)) 68 [some (.ref m), some (.int (nI fx)), some (.int (nI (k + 1))), some (.int (nI (fi (k + 1)))), some (.int (nI j + (-1))), o5, o6, o7] [] h2 := by
        intro j
        induction j with
        | zero =>
          intro _ h2 X2 r2 q2 f2 c2 g2
          obtain ⟨h', X', r, z1, z2⟩ := lqD 0 (Nat.zero_le _) h2 X2 r2 q2 f2 c2 (fun d hd => g2 d (Nat.zero_le _) hd)
          refine ⟨h', X', r, z1, fun o5 o6 o7 => sn_R_left_68 _ _ _ ?_⟩
          simp only [vc_R_left_68, vc_R_left_105, qi_push, qi_pushl, qi_iload, qi_lload, qi_aload, qi_istore, qi_astore, qi_lstore, qi_iinc, qi_iadd, qi_isub, qi_imul, qi_iand, qi_ior, qi_ixor, qi_ishl, qi_ishr, qi_iushr, qi_idiv, qi_irem, qi_lor, qi_lmul, qi_ladd, qi_lsub, qi_land, qi_lshl, qi_lshr, qi_i2l, qi_l2i, qi_i2c, qi_lcmp, qi_dup, qi_dup2, qi_pop, qi_if_eq, qi_icmp_eq, qi_if_ne, qi_icmp_ne, qi_if_lt, qi_icmp_lt, qi_if_ge, qi_icmp_ge, qi_if_gt, qi_icmp_gt, qi_if_le, qi_icmp_le, qi_sw, qi_get, qi_put, qi_iald, qi_lald, qi_aald, qi_iast, qi_zast, qi_cast, qi_last, qi_aast, qi_alen, qi_new, qi_newa, qi_newq, qi_obj, qi_invS, qi_invV, qi_invI, qi_iret, qi_zret, qi_lret, qi_vret, qi_acopy, qi_max, qi_min, at_o, at_i, at_l, at_q, at_a, lget, lset, lclr, lnon, lnth, spl, shrt, rpush, true_and, and_true, List.set, List.length, Nat.reduceAdd, Nat.reduceLT, Nat.reduceLeDiff, Nat.reduceEqDiff, Nat.reduceSub]
          exact ⟨fun _ => z2 _ _ _, fun q => absurd ni_neg q⟩
        | succ j ihj =>
          intro hj h2 X2 r2 q2 f2 c2 g2
          have o0 := r2.1
          have o9 := r2.2.2.2.2.2.2.2.2.2.1
          have o10 := r2.2.2.2.2.2.2.2.2.2.2.1
          have vj : vp_in (nI j) 4096 := vp_in_nI (by omega) (by omega)
          have cj : (nI j).toNatClampNeg = j := nI_clamp (by omega)
          have cjj := c2 j (by omega)
          have nxt : ∀ b : Bool, (b = true ↔ (rch W fx fi ne k j ∧ fi (k + 1) = 0)) → ∃ h' X' r, Z h' X' r ∧ ∀ o5 o6 o7, vc_R_left_98 (some (.int r)) h' (cx hc_tt M_R_left h h' (some (.int r))) [some (.ref m), some (.int (nI fx)), some (.int (nI (k + 1))), some (.int (nI (fi (k + 1)))), some (.int (nI j)), o5, o6, o7] [.int (nI b.toNat), .int (nI j), .ref (m + 9)] h2 := by
            intro b hb
            have r3 := r2.set9 (f := va_up (X2 9) j b.toNat)
            obtain ⟨h', X', r, z1, z2⟩ := ihj (by omega) _ _ r3 (fun i i9 i10 => by rw [up_ne i9]; exact q2 i i9 i10) (f2.set (by omega)) c2 (fun d d1 d2 => by
              by_cases e : d = j
              · subst e
                refine isb_up ?_
                rw [hb]
                exact ⟨fun q => Or.inl q, fun q => q.elim id (fun ⟨_, _, q, _⟩ => by omega)⟩
              · exact (g2 d (by omega) d2).c Iff.rfl (up_ne e))
            refine ⟨h', X', r, z1, fun o5 o6 o7 => ?_⟩
            simp only [vc_R_left_98, qi_push, qi_pushl, qi_iload, qi_lload, qi_aload, qi_istore, qi_astore, qi_lstore, qi_iinc, qi_iadd, qi_isub, qi_imul, qi_iand, qi_ior, qi_ixor, qi_ishl, qi_ishr, qi_iushr, qi_idiv, qi_irem, qi_lor, qi_lmul, qi_ladd, qi_lsub, qi_land, qi_lshl, qi_lshr, qi_i2l, qi_l2i, qi_i2c, qi_lcmp, qi_dup, qi_dup2, qi_pop, qi_if_eq, qi_icmp_eq, qi_if_ne, qi_icmp_ne, qi_if_lt, qi_icmp_lt, qi_if_ge, qi_icmp_ge, qi_if_gt, qi_icmp_gt, qi_if_le, qi_icmp_le, qi_sw, qi_get, qi_put, qi_iald, qi_lald, qi_aald, qi_iast, qi_zast, qi_cast, qi_last, qi_aast, qi_alen, qi_new, qi_newa, qi_newq, qi_obj, qi_invS, qi_invV, qi_invI, qi_iret, qi_zret, qi_lret, qi_vret, qi_acopy, qi_max, qi_min, at_o, at_i, at_l, at_q, at_a, lget, lset, lclr, lnon, lnth, spl, shrt, rpush, true_and, and_true, List.set, List.length, Nat.reduceAdd, Nat.reduceLT, Nat.reduceLeDiff, Nat.reduceEqDiff, Nat.reduceSub, o9, vj, cj]
            rw [updZ]
            exact z2 _ _ _
          by_cases w : rch W fx fi ne k j ∧ fi (k + 1) = 0
          · obtain ⟨h', X', r, z1, z2⟩ := nxt true ⟨fun _ => w, fun _ => rfl⟩
            refine ⟨h', X', r, z1, fun o5 o6 o7 => sn_R_left_68 _ _ _ ?_⟩
            rw [ni_dec]
            simp only [vc_R_left_68, vc_R_left_97, qi_push, qi_pushl, qi_iload, qi_lload, qi_aload, qi_istore, qi_astore, qi_lstore, qi_iinc, qi_iadd, qi_isub, qi_imul, qi_iand, qi_ior, qi_ixor, qi_ishl, qi_ishr, qi_iushr, qi_idiv, qi_irem, qi_lor, qi_lmul, qi_ladd, qi_lsub, qi_land, qi_lshl, qi_lshr, qi_i2l, qi_l2i, qi_i2c, qi_lcmp, qi_dup, qi_dup2, qi_pop, qi_if_eq, qi_icmp_eq, qi_if_ne, qi_icmp_ne, qi_if_lt, qi_icmp_lt, qi_if_ge, qi_icmp_ge, qi_if_gt, qi_icmp_gt, qi_if_le, qi_icmp_le, qi_sw, qi_get, qi_put, qi_iald, qi_lald, qi_aald, qi_iast, qi_zast, qi_cast, qi_last, qi_aast, qi_alen, qi_new, qi_newa, qi_newq, qi_obj, qi_invS, qi_invV, qi_invI, qi_iret, qi_zret, qi_lret, qi_vret, qi_acopy, qi_max, qi_min, at_o, at_i, at_l, at_q, at_a, lget, lset, lclr, lnon, lnth, spl, shrt, rpush, true_and, and_true, List.set, List.length, Nat.reduceAdd, Nat.reduceLT, Nat.reduceLeDiff, Nat.reduceEqDiff, Nat.reduceSub, o0, o10, vj, cj]
            rw [cjj.n0, w.2]
            exact ⟨fun q => absurd q (nI_pos (by omega)), fun _ => ⟨fun q => absurd w.1 q, fun _ => ⟨fun q => absurd rfl q, fun _ => by have := z2 o5 o6 o7; rw [w.2] at this; exact this⟩⟩⟩
          · obtain ⟨h', X', r, z1, z2⟩ := nxt false ⟨fun q => (by cases q), fun q => absurd q w⟩
            refine ⟨h', X', r, z1, fun o5 o6 o7 => sn_R_left_68 _ _ _ ?_⟩
            rw [ni_dec]
            simp only [vc_R_left_68, vc_R_left_97, qi_push, qi_pushl, qi_iload, qi_lload, qi_aload, qi_istore, qi_astore, qi_lstore, qi_iinc, qi_iadd, qi_isub, qi_imul, qi_iand, qi_ior, qi_ixor, qi_ishl, qi_ishr, qi_iushr, qi_idiv, qi_irem, qi_lor, qi_lmul, qi_ladd, qi_lsub, qi_land, qi_lshl, qi_lshr, qi_i2l, qi_l2i, qi_i2c, qi_lcmp, qi_dup, qi_dup2, qi_pop, qi_if_eq, qi_icmp_eq, qi_if_ne, qi_icmp_ne, qi_if_lt, qi_icmp_lt, qi_if_ge, qi_icmp_ge, qi_if_gt, qi_icmp_gt, qi_if_le, qi_icmp_le, qi_sw, qi_get, qi_put, qi_iald, qi_lald, qi_aald, qi_iast, qi_zast, qi_cast, qi_last, qi_aast, qi_alen, qi_new, qi_newa, qi_newq, qi_obj, qi_invS, qi_invV, qi_invI, qi_iret, qi_zret, qi_lret, qi_vret, qi_acopy, qi_max, qi_min, at_o, at_i, at_l, at_q, at_a, lget, lset, lclr, lnon, lnth, spl, shrt, rpush, true_and, and_true, List.set, List.length, Nat.reduceAdd, Nat.reduceLT, Nat.reduceLeDiff, Nat.reduceEqDiff, Nat.reduceSub, o0, o10, vj, cj]
            rw [cjj.n0]
            refine ⟨fun q => absurd q (nI_pos (by omega)), fun _ => ⟨fun _ => z2 _ _ _, fun q => ⟨fun _ => z2 _ _ _, fun q2 => ?_⟩⟩⟩
            rw [← nI_0, nI_eq (by have := fil (k + 1); omega) (by omega)] at q2
            exact absurd ⟨Classical.not_not.mp q, q2⟩ w
      obtain ⟨h', X', r, z1, z2⟩ := lqB (2 ^ n) (Nat.le_refl _) h1 X1 r1' q1 f1 c1 (fun d d1 d2 => by omega)
      have o0 := r1'.1
      refine ⟨h', X', r, z1, fun o3 o4 o5 o6 o7 => sn_R_left_50 _ _ _ ?_⟩
      simp only [vc_R_left_50, qi_push, qi_pushl, qi_iload, qi_lload, qi_aload, qi_istore, qi_astore, qi_lstore, qi_iinc, qi_iadd, qi_isub, qi_imul, qi_iand, qi_ior, qi_ixor, qi_ishl, qi_ishr, qi_iushr, qi_idiv, qi_irem, qi_lor, qi_lmul, qi_ladd, qi_lsub, qi_land, qi_lshl, qi_lshr, qi_i2l, qi_l2i, qi_i2c, qi_lcmp, qi_dup, qi_dup2, qi_pop, qi_if_eq, qi_icmp_eq, qi_if_ne, qi_icmp_ne, qi_if_lt, qi_icmp_lt, qi_if_ge, qi_icmp_ge, qi_if_gt, qi_icmp_gt, qi_if_le, qi_icmp_le, qi_sw, qi_get, qi_put, qi_iald, qi_lald, qi_aald, qi_iast, qi_zast, qi_cast, qi_last, qi_aast, qi_alen, qi_new, qi_newa, qi_newq, qi_obj, qi_invS, qi_invV, qi_invI, qi_iret, qi_zret, qi_lret, qi_vret, qi_acopy, qi_max, qi_min, at_o, at_i, at_l, at_q, at_a, lget, lset, lclr, lnon, lnth, spl, shrt, rpush, true_and, and_true, List.set, List.length, Nat.reduceAdd, Nat.reduceLT, Nat.reduceLeDiff, Nat.reduceEqDiff, Nat.reduceSub, o0]
      refine ⟨fun q => absurd q (nI_nlt (by omega) (by omega)), fun _ => ⟨_, _, c_R_putIn r1' (by rw [q1 2 (by omega) (by omega), x0]) hw (s := k + 1) (by omega), ?_⟩⟩
      simp only [qi_push, qi_pushl, qi_iload, qi_lload, qi_aload, qi_istore, qi_astore, qi_lstore, qi_iinc, qi_iadd, qi_isub, qi_imul, qi_iand, qi_ior, qi_ixor, qi_ishl, qi_ishr, qi_iushr, qi_idiv, qi_irem, qi_lor, qi_lmul, qi_ladd, qi_lsub, qi_land, qi_lshl, qi_lshr, qi_i2l, qi_l2i, qi_i2c, qi_lcmp, qi_dup, qi_dup2, qi_pop, qi_if_eq, qi_icmp_eq, qi_if_ne, qi_icmp_ne, qi_if_lt, qi_icmp_lt, qi_if_ge, qi_icmp_ge, qi_if_gt, qi_icmp_gt, qi_if_le, qi_icmp_le, qi_sw, qi_get, qi_put, qi_iald, qi_lald, qi_aald, qi_iast, qi_zast, qi_cast, qi_last, qi_aast, qi_alen, qi_new, qi_newa, qi_newq, qi_obj, qi_invS, qi_invV, qi_invI, qi_iret, qi_zret, qi_lret, qi_vret, qi_acopy, qi_max, qi_min, at_o, at_i, at_l, at_q, at_a, lget, lset, lclr, lnon, lnth, spl, shrt, rpush, true_and, and_true, List.set, List.length, Nat.reduceAdd, Nat.reduceLT, Nat.reduceLeDiff, Nat.reduceEqDiff, Nat.reduceSub, o0]
      refine ⟨_, _, c_R_all r1' (hz X1 q1) hn, ?_⟩
      simp only [qi_push, qi_pushl, qi_iload, qi_lload, qi_aload, qi_istore, qi_astore, qi_lstore, qi_iinc, qi_iadd, qi_isub, qi_imul, qi_iand, qi_ior, qi_ixor, qi_ishl, qi_ishr, qi_iushr, qi_idiv, qi_irem, qi_lor, qi_lmul, qi_ladd, qi_lsub, qi_land, qi_lshl, qi_lshr, qi_i2l, qi_l2i, qi_i2c, qi_lcmp, qi_dup, qi_dup2, qi_pop, qi_if_eq, qi_icmp_eq, qi_if_ne, qi_icmp_ne, qi_if_lt, qi_icmp_lt, qi_if_ge, qi_icmp_ge, qi_if_gt, qi_icmp_gt, qi_if_le, qi_icmp_le, qi_sw, qi_get, qi_put, qi_iald, qi_lald, qi_aald, qi_iast, qi_zast, qi_cast, qi_last, qi_aast, qi_alen, qi_new, qi_newa, qi_newq, qi_obj, qi_invS, qi_invV, qi_invI, qi_iret, qi_zret, qi_lret, qi_vret, qi_acopy, qi_max, qi_min, at_o, at_i, at_l, at_q, at_a, lget, lset, lclr, lnon, lnth, spl, shrt, rpush, true_and, and_true, List.set, List.length, Nat.reduceAdd, Nat.reduceLT, Nat.reduceLeDiff, Nat.reduceEqDiff, Nat.reduceSub]
      have e1 : nI (2 ^ n - 1) = nI (2 ^ n) + (-1) := by
        rw [show 2 ^ n = 2 ^ n - 1 + 1 by omega, ni_dec, show 2 ^ n - 1 + 1 - 1 = 2 ^ n - 1 by omega]
      have e2 : bset (fun x => S x == k + 1) n = fi (k + 1) := by rw [← efi]
      rw [e1, e2]
      exact z2 _ _ _)
  -- at first nothing is done
  have lqA := lp_up (P := fun j => ∀ h2 X2, isR h2 m len um sp fs X2 Q → (∀ j, ¬ j = 9 → ¬ j = 10 → X2 j = X0 j) → frm h h2 m 12 → (∀ d, d < j → isb (rch W fx fi ne 0) (X2 10) d) → ∃ h' X' r, Z h' X' r ∧ ∀ o3 o4 o5 o6 o7, cx hc_tt M_R_left h h' (some (.int r)) 19 [some (.ref m), some (.int (nI fx)), some (.int (nI j)), o3, o4, o5, o6, o7] [] h2) (n := 2 ^ n)
    (by
      intro h2 X2 r2 q2 f2 c2
      have o0 := r2.1
      obtain ⟨h', X', r, z1, z2⟩ := lqS 0 (by omega) h2 X2 r2 q2 f2 c2 (fun j hj q => by
        rw [show j = 0 by omega] at q
        have : W = 0 := q
        omega)
      refine ⟨h', X', r, z1, fun o3 o4 o5 o6 o7 => sn_R_left_19 _ _ _ ?_⟩
      simp only [vc_R_left_19, vc_R_left_48, qi_push, qi_pushl, qi_iload, qi_lload, qi_aload, qi_istore, qi_astore, qi_lstore, qi_iinc, qi_iadd, qi_isub, qi_imul, qi_iand, qi_ior, qi_ixor, qi_ishl, qi_ishr, qi_iushr, qi_idiv, qi_irem, qi_lor, qi_lmul, qi_ladd, qi_lsub, qi_land, qi_lshl, qi_lshr, qi_i2l, qi_l2i, qi_i2c, qi_lcmp, qi_dup, qi_dup2, qi_pop, qi_if_eq, qi_icmp_eq, qi_if_ne, qi_icmp_ne, qi_if_lt, qi_icmp_lt, qi_if_ge, qi_icmp_ge, qi_if_gt, qi_icmp_gt, qi_if_le, qi_icmp_le, qi_sw, qi_get, qi_put, qi_iald, qi_lald, qi_aald, qi_iast, qi_zast, qi_cast, qi_last, qi_aast, qi_alen, qi_new, qi_newa, qi_newq, qi_obj, qi_invS, qi_invV, qi_invI, qi_iret, qi_zret, qi_lret, qi_vret, qi_acopy, qi_max, qi_min, at_o, at_i, at_l, at_q, at_a, lget, lset, lclr, lnon, lnth, spl, shrt, rpush, true_and, and_true, List.set, List.length, Nat.reduceAdd, Nat.reduceLT, Nat.reduceLeDiff, Nat.reduceEqDiff, Nat.reduceSub, o0]
      refine ⟨_, _, c_R_all r2 (hz X2 q2) hn, ?_⟩
      simp only [qi_push, qi_pushl, qi_iload, qi_lload, qi_aload, qi_istore, qi_astore, qi_lstore, qi_iinc, qi_iadd, qi_isub, qi_imul, qi_iand, qi_ior, qi_ixor, qi_ishl, qi_ishr, qi_iushr, qi_idiv, qi_irem, qi_lor, qi_lmul, qi_ladd, qi_lsub, qi_land, qi_lshl, qi_lshr, qi_i2l, qi_l2i, qi_i2c, qi_lcmp, qi_dup, qi_dup2, qi_pop, qi_if_eq, qi_icmp_eq, qi_if_ne, qi_icmp_ne, qi_if_lt, qi_icmp_lt, qi_if_ge, qi_icmp_ge, qi_if_gt, qi_icmp_gt, qi_if_le, qi_icmp_le, qi_sw, qi_get, qi_put, qi_iald, qi_lald, qi_aald, qi_iast, qi_zast, qi_cast, qi_last, qi_aast, qi_alen, qi_new, qi_newa, qi_newq, qi_obj, qi_invS, qi_invV, qi_invI, qi_iret, qi_zret, qi_lret, qi_vret, qi_acopy, qi_max, qi_min, at_o, at_i, at_l, at_q, at_a, lget, lset, lclr, lnon, lnth, spl, shrt, rpush, true_and, and_true, List.set, List.length, Nat.reduceAdd, Nat.reduceLT, Nat.reduceLeDiff, Nat.reduceEqDiff, Nat.reduceSub]
      exact ⟨fun _ => z2 _ _ _ _ _, fun q => absurd (nI_lt (by omega) (by omega)) q⟩)
    (fun j hj ihj h2 X2 r2 q2 f2 c2 => by
      have o0 := r2.1
      have o10 := r2.2.2.2.2.2.2.2.2.2.2.1
      have vj : vp_in (nI j) 4096 := vp_in_nI (by omega) (by omega)
      have cj : (nI j).toNatClampNeg = j := nI_clamp (by omega)
      have r3 := r2.set10 (f := va_up (X2 10) j (decide (j = 0)).toNat)
      obtain ⟨h', X', r, z1, z2⟩ := ihj _ _ r3 (fun i i9 i10 => by rw [up_ne i10]; exact q2 i i9 i10) (f2.set (by omega)) (fun d hd => by
        by_cases e : d = j
        · subst e
          refine isb_up ?_
          rw [decide_eq_true_eq]; exact Iff.rfl
        · exact (c2 d (by omega)).c Iff.rfl (up_ne e))
      refine ⟨h', X', r, z1, fun o3 o4 o5 o6 o7 => sn_R_left_19 _ _ _ ?_⟩
      simp only [vc_R_left_19, qi_push, qi_pushl, qi_iload, qi_lload, qi_aload, qi_istore, qi_astore, qi_lstore, qi_iinc, qi_iadd, qi_isub, qi_imul, qi_iand, qi_ior, qi_ixor, qi_ishl, qi_ishr, qi_iushr, qi_idiv, qi_irem, qi_lor, qi_lmul, qi_ladd, qi_lsub, qi_land, qi_lshl, qi_lshr, qi_i2l, qi_l2i, qi_i2c, qi_lcmp, qi_dup, qi_dup2, qi_pop, qi_if_eq, qi_icmp_eq, qi_if_ne, qi_icmp_ne, qi_if_lt, qi_icmp_lt, qi_if_ge, qi_icmp_ge, qi_if_gt, qi_icmp_gt, qi_if_le, qi_icmp_le, qi_sw, qi_get, qi_put, qi_iald, qi_lald, qi_aald, qi_iast, qi_zast, qi_cast, qi_last, qi_aast, qi_alen, qi_new, qi_newa, qi_newq, qi_obj, qi_invS, qi_invV, qi_invI, qi_iret, qi_zret, qi_lret, qi_vret, qi_acopy, qi_max, qi_min, at_o, at_i, at_l, at_q, at_a, lget, lset, lclr, lnon, lnth, spl, shrt, rpush, true_and, and_true, List.set, List.length, Nat.reduceAdd, Nat.reduceLT, Nat.reduceLeDiff, Nat.reduceEqDiff, Nat.reduceSub, o0]
      refine ⟨_, _, c_R_all r2 (hz X2 q2) hn, ?_⟩
      simp only [vc_R_left_40, vc_R_left_41, qi_push, qi_pushl, qi_iload, qi_lload, qi_aload, qi_istore, qi_astore, qi_lstore, qi_iinc, qi_iadd, qi_isub, qi_imul, qi_iand, qi_ior, qi_ixor, qi_ishl, qi_ishr, qi_iushr, qi_idiv, qi_irem, qi_lor, qi_lmul, qi_ladd, qi_lsub, qi_land, qi_lshl, qi_lshr, qi_i2l, qi_l2i, qi_i2c, qi_lcmp, qi_dup, qi_dup2, qi_pop, qi_if_eq, qi_icmp_eq, qi_if_ne, qi_icmp_ne, qi_if_lt, qi_icmp_lt, qi_if_ge, qi_icmp_ge, qi_if_gt, qi_icmp_gt, qi_if_le, qi_icmp_le, qi_sw, qi_get, qi_put, qi_iald, qi_lald, qi_aald, qi_iast, qi_zast, qi_cast, qi_last, qi_aast, qi_alen, qi_new, qi_newa, qi_newq, qi_obj, qi_invS, qi_invV, qi_invI, qi_iret, qi_zret, qi_lret, qi_vret, qi_acopy, qi_max, qi_min, at_o, at_i, at_l, at_q, at_a, lget, lset, lclr, lnon, lnth, spl, shrt, rpush, true_and, and_true, List.set, List.length, Nat.reduceAdd, Nat.reduceLT, Nat.reduceLeDiff, Nat.reduceEqDiff, Nat.reduceSub, o0, o10, vj, cj, nI_add]
      rw [show nI 1 = nI (true.toNat) from rfl, show nI 0 = nI (false.toNat) from rfl, updZ, updZ, ← nI_0, nI_eq (by omega) (by omega)]
      refine ⟨fun q => absurd q (nI_nlt (by omega) (by omega)), fun _ => ⟨fun q => ?_, fun q => ?_⟩⟩
      · rw [decide_eq_false q] at z2; exact z2 _ _ _ _ _
      · rw [decide_eq_true q] at z2; exact z2 _ _ _ _ _)
  obtain ⟨h', X', r, z1, z2⟩ := lqA 0 (Nat.zero_le _) h0 X0 a2 (fun _ _ _ => rfl) a5 (fun d hd => by omega)
  refine ⟨h', X', r, MX.of (lv := [some (.ref m), none, none, none, none, none, none, none]) 7 rfl (by decide) (Nat.le_of_ble_eq_true rfl) (sn_R_left_0 _ _ _ ?_), z1.1, fun j j5 j6 j9 j10 => by rw [z1.2.1 j j9 j10]; exact a3 j j5 j6, z1.2.2.1, by rw [eW, efx, efi, ene]; exact z1.2.2.2⟩
  have o0 := hr.1
  have o2 := hr.2.2.1
  have p0 := a2.1
  rw [hX] at o2
  simp only [vc_R_left_0, qi_push, qi_pushl, qi_iload, qi_lload, qi_aload, qi_istore, qi_astore, qi_lstore, qi_iinc, qi_iadd, qi_isub, qi_imul, qi_iand, qi_ior, qi_ixor, qi_ishl, qi_ishr, qi_iushr, qi_idiv, qi_irem, qi_lor, qi_lmul, qi_ladd, qi_lsub, qi_land, qi_lshl, qi_lshr, qi_i2l, qi_l2i, qi_i2c, qi_lcmp, qi_dup, qi_dup2, qi_pop, qi_if_eq, qi_icmp_eq, qi_if_ne, qi_icmp_ne, qi_if_lt, qi_icmp_lt, qi_if_ge, qi_icmp_ge, qi_if_gt, qi_icmp_gt, qi_if_le, qi_icmp_le, qi_sw, qi_get, qi_put, qi_iald, qi_lald, qi_aald, qi_iast, qi_zast, qi_cast, qi_last, qi_aast, qi_alen, qi_new, qi_newa, qi_newq, qi_obj, qi_invS, qi_invV, qi_invI, qi_iret, qi_zret, qi_lret, qi_vret, qi_acopy, qi_max, qi_min, at_o, at_i, at_l, at_q, at_a, lget, lset, lclr, lnon, lnth, spl, shrt, rpush, true_and, and_true, List.set, List.length, Nat.reduceAdd, Nat.reduceLT, Nat.reduceLeDiff, Nat.reduceEqDiff, Nat.reduceSub, o0, o2, v1, r1, rp_1]
  refine ⟨_, _, a1, ?_⟩
  simp only [qi_push, qi_pushl, qi_iload, qi_lload, qi_aload, qi_istore, qi_astore, qi_lstore, qi_iinc, qi_iadd, qi_isub, qi_imul, qi_iand, qi_ior, qi_ixor, qi_ishl, qi_ishr, qi_iushr, qi_idiv, qi_irem, qi_lor, qi_lmul, qi_ladd, qi_lsub, qi_land, qi_lshl, qi_lshr, qi_i2l, qi_l2i, qi_i2c, qi_lcmp, qi_dup, qi_dup2, qi_pop, qi_if_eq, qi_icmp_eq, qi_if_ne, qi_icmp_ne, qi_if_lt, qi_icmp_lt, qi_if_ge, qi_icmp_ge, qi_if_gt, qi_icmp_gt, qi_if_le, qi_icmp_le, qi_sw, qi_get, qi_put, qi_iald, qi_lald, qi_aald, qi_iast, qi_zast, qi_cast, qi_last, qi_aast, qi_alen, qi_new, qi_newa, qi_newq, qi_obj, qi_invS, qi_invV, qi_invI, qi_iret, qi_zret, qi_lret, qi_vret, qi_acopy, qi_max, qi_min, at_o, at_i, at_l, at_q, at_a, lget, lset, lclr, lnon, lnth, spl, shrt, rpush, true_and, and_true, List.set, List.length, Nat.reduceAdd, Nat.reduceLT, Nat.reduceLeDiff, Nat.reduceEqDiff, Nat.reduceSub, p0]
  refine ⟨_, _, c_R_putBy a2 x0 hw (by omega) (nI 1), ?_⟩
  simp only [qi_push, qi_pushl, qi_iload, qi_lload, qi_aload, qi_istore, qi_astore, qi_lstore, qi_iinc, qi_iadd, qi_isub, qi_imul, qi_iand, qi_ior, qi_ixor, qi_ishl, qi_ishr, qi_iushr, qi_idiv, qi_irem, qi_lor, qi_lmul, qi_ladd, qi_lsub, qi_land, qi_lshl, qi_lshr, qi_i2l, qi_l2i, qi_i2c, qi_lcmp, qi_dup, qi_dup2, qi_pop, qi_if_eq, qi_icmp_eq, qi_if_ne, qi_icmp_ne, qi_if_lt, qi_icmp_lt, qi_if_ge, qi_icmp_ge, qi_if_gt, qi_icmp_gt, qi_if_le, qi_icmp_le, qi_sw, qi_get, qi_put, qi_iald, qi_lald, qi_aald, qi_iast, qi_zast, qi_cast, qi_last, qi_aast, qi_alen, qi_new, qi_newa, qi_newq, qi_obj, qi_invS, qi_invV, qi_invI, qi_iret, qi_zret, qi_lret, qi_vret, qi_acopy, qi_max, qi_min, at_o, at_i, at_l, at_q, at_a, lget, lset, lclr, lnon, lnth, spl, shrt, rpush, true_and, and_true, List.set, List.length, Nat.reduceAdd, Nat.reduceLT, Nat.reduceLeDiff, Nat.reduceEqDiff, Nat.reduceSub]
  rw [pby_01, efx]
  exact z2 _ _ _ _ _
end MO
