/-! SCRIPT: reading a text. -/
def fgn (L : Nat → Nat) : Nat → Nat → Nat → Option Nat
  | 0, _, v => some v
  | k + 1, x, v => if 48 ≤ L x ∧ L x ≤ 57 then fgn L k (x + 1) (10 * v + (L x - 48)) else none
def figs (L : Nat → Nat) (f e m : Nat) : Option Nat := if 1 ≤ e - f ∧ e - f ≤ m then fgn L (e - f) f 0 else none
def optI : Option Nat → Int32
  | some v => nI v
  | none => -1
def pwv (v : pv) : Prop := pw v.1 v.2.2.1 v.2.2.2.1 v.2.2.2.2.1 v.2.2.2.2.2.1 v.2.2.2.2.2.2
theorem fgn_lt {L : Nat → Nat} : ∀ (k x v w : Nat), fgn L k x v = some w → w < (v + 1) * 10 ^ k := by
  intro k
  induction k with
  | zero => intro x v w h; simp [fgn] at h; omega
  | succ k ih =>
    intro x v w h
    simp only [fgn] at h
    split at h
    · rename_i q
      have := ih _ _ _ h
      rw [Nat.pow_succ]
      have h2 : (10 * v + (L x - 48) + 1) * 10 ^ k ≤ ((v + 1) * 10) * 10 ^ k := Nat.mul_le_mul_right _ (by omega)
      have h3 : ((v + 1) * 10) * 10 ^ k = (v + 1) * (10 ^ k * 10) := by rw [Nat.mul_assoc, Nat.mul_comm 10]
      omega
    · cases h
theorem figs_lt {L : Nat → Nat} {f e m w : Nat} (hm : m ≤ 3) (h : figs L f e m = some w) : w < 1000 := by
  unfold figs at h
  split at h
  · rename_i q
    have := fgn_lt _ _ _ _ h
    have h2 : 10 ^ (e - f) ≤ 10 ^ 3 := Nat.pow_le_pow_right (by omega) (by omega)
    omega
  · cases h
theorem optI_in {o : Option Nat} {lo hi : Nat} (hlo : lo < 1000) (hhi : hi < 1000) (ho : ∀ w, o = some w → w < 1000) : (nI lo ≤ optI o ∧ optI o ≤ nI hi) ↔ ∃ w, o = some w ∧ lo ≤ w ∧ w ≤ hi := by
  cases o with
  | none =>
    refine ⟨fun h => absurd h.1 ?_, fun ⟨w, h, _⟩ => by cases h⟩
    show ¬ nI lo ≤ -1
    rw [Int32.le_iff_toInt_le, nI_toInt (by omega)]
    show ¬ (lo : Int) ≤ -1
    omega
  | some w =>
    have hw := ho w rfl
    show nI lo ≤ nI w ∧ nI w ≤ nI hi ↔ _
    rw [nI_leI (by omega) (by omega), nI_leI (by omega) (by omega)]
    exact ⟨fun h => ⟨w, rfl, h⟩, fun ⟨w', h, h2⟩ => by cases h; exact h2⟩
def pvB (v : pv) (B : Nat → Nat) : pv := (v.1, v.2.1, v.2.2.1, B, v.2.2.2.2.1, v.2.2.2.2.2.1, v.2.2.2.2.2.2)
def pvAJ (v : pv) (A J : Nat → Nat) : pv := (v.1, v.2.1, v.2.2.1, v.2.2.2.1, A, J, v.2.2.2.2.2.2)
def pvC (v : pv) (c : Int32) : pv := (v.1, c, v.2.2)
def pvT (v : pv) (x : Nat) : pv := (v.1 + 1, v.2.1, va_up v.2.2.1 v.1 x, v.2.2.2)
/-- a pair's item at x: its two letters -/
def itP (L : Nat → Nat) (x : Nat) (v : pv) : Option pv :=
  if (97 ≤ L (x + 1) ∧ L (x + 1) - 97 < v.1) ∧ (97 ≤ L (x + 2) ∧ L (x + 2) - 97 < v.1) ∧ L (x + 1) ≠ L (x + 2) then
    if L x = 112 then
      if (v.2.2.2.1 (L (x + 2) - 97)).testBit (L (x + 1) - 97) ∨ (ab_r v.2.2.2.1 (L (x + 2) - 97) v.1 v.1).testBit (L (x + 1) - 97) then none
      else some (pvB v (va_up v.2.2.2.1 (L (x + 2) - 97) (v.2.2.2.1 (L (x + 2) - 97) ||| 2 ^ (L (x + 1) - 97))))
    else if (v.2.2.2.2.1 (L (x + 1) - 97)).testBit (L (x + 2) - 97) ∨ (v.2.2.2.2.2.1 (L (x + 1) - 97)).testBit (L (x + 2) - 97) then none
    else some (pvAJ v (prs v.2.2.2.2.1 (L (x + 1) - 97) (L (x + 2) - 97) (decide (L x = 120))) (prs v.2.2.2.2.2.1 (L (x + 1) - 97) (L (x + 2) - 97) (decide (¬ L x = 120))))
  else none
def itC (L : Nat → Nat) (x e : Nat) (v : pv) : Option pv :=
  if x = 0 then (if L 0 = 99 then (match figs L 1 e 3 with
    | some k => if 1 ≤ k ∧ k ≤ 120 then some (pvC v (nI k)) else none
    | none => none) else none)
  else if L x = 116 then (match figs L (x + 1) e 2 with
    | some k => if (1 ≤ k ∧ k ≤ 60) ∧ v.1 < 12 then some (pvT v k) else none
    | none => none)
  else if (L x = 112 ∨ L x = 120 ∨ L x = 106) ∧ e = x + 3 then itP L x v else none
section SC
variable {h : hc_H} {a len : Nat} {L : Nat → Nat}
theorem c_S_figures (hp : isSc h a len L) (hl : len ≤ 200) (hL : ∀ j, L j < 65536) {f e m : Nat} (hf : f ≤ 201) (he : e ≤ len) (hm : m ≤ 3) : MA M_S_figures [.ref a, .int (nI f), .int (nI e), .int (nI m)] h (some (.int (optI (figs L f e m)))) h := by
  obtain ⟨e0, e1⟩ := id hp
  have loop : ∀ (k x v : Nat), x + k = e → fgn L k x v = figs L f e m → cx hc_tt M_S_figures h h (some (.int (optI (figs L f e m)))) 19 [some (.ref a), some (.int (nI f)), some (.int (nI e)), some (.int (nI m)), some (.int (nI v)), some (.int (nI x))] [] h := by
    intro k
    induction k with
    | zero =>
      intro x v hx hq
      refine sn_S_figures_19 _ _ _ ?_
      simp only [vc_S_figures_19, vc_S_figures_68, qi_push, qi_pushl, qi_iload, qi_lload, qi_aload, qi_istore, qi_astore, qi_lstore, qi_iinc, qi_iadd, qi_isub, qi_imul, qi_iand, qi_ior, qi_ixor, qi_ishl, qi_ishr, qi_iushr, qi_idiv, qi_irem, qi_lor, qi_lmul, qi_ladd, qi_lsub, qi_land, qi_lshl, qi_lshr, qi_i2l, qi_l2i, qi_i2c, qi_lcmp, qi_dup, qi_dup2, qi_pop, qi_if_eq, qi_icmp_eq, qi_if_ne, qi_icmp_ne, qi_if_lt, qi_icmp_lt, qi_if_ge, qi_icmp_ge, qi_if_gt, qi_icmp_gt, qi_if_le, qi_icmp_le, qi_sw, qi_get, qi_put, qi_iald, qi_lald, qi_aald, qi_iast, qi_zast, qi_cast, qi_last, qi_aast, qi_alen, qi_new, qi_newa, qi_newq, qi_obj, qi_invS, qi_invV, qi_invI, qi_iret, qi_zret, qi_lret, qi_vret, qi_acopy, qi_max, qi_min, at_o, at_i, at_l, at_q, at_a, lget, lset, lclr, lnon, lnth, spl, shrt, rpush, true_and, and_true, List.set, List.length, Nat.reduceAdd, Nat.reduceLT, Nat.reduceLeDiff, Nat.reduceEqDiff, Nat.reduceSub]
      exact ⟨fun _ => by rw [← hq]; rfl, fun c => absurd (nI_le (by omega) (by omega)) c⟩
    | succ k ih =>
      intro x v hx hq
      refine sn_S_figures_19 _ _ _ ?_
      simp only [vc_S_figures_19, qi_push, qi_pushl, qi_iload, qi_lload, qi_aload, qi_istore, qi_astore, qi_lstore, qi_iinc, qi_iadd, qi_isub, qi_imul, qi_iand, qi_ior, qi_ixor, qi_ishl, qi_ishr, qi_iushr, qi_idiv, qi_irem, qi_lor, qi_lmul, qi_ladd, qi_lsub, qi_land, qi_lshl, qi_lshr, qi_i2l, qi_l2i, qi_i2c, qi_lcmp, qi_dup, qi_dup2, qi_pop, qi_if_eq, qi_icmp_eq, qi_if_ne, qi_icmp_ne, qi_if_lt, qi_icmp_lt, qi_if_ge, qi_icmp_ge, qi_if_gt, qi_icmp_gt, qi_if_le, qi_icmp_le, qi_sw, qi_get, qi_put, qi_iald, qi_lald, qi_aald, qi_iast, qi_zast, qi_cast, qi_last, qi_aast, qi_alen, qi_new, qi_newa, qi_newq, qi_obj, qi_invS, qi_invV, qi_invI, qi_iret, qi_zret, qi_lret, qi_vret, qi_acopy, qi_max, qi_min, at_o, at_i, at_l, at_q, at_a, lget, lset, lclr, lnon, lnth, spl, shrt, rpush, true_and, and_true, List.set, List.length, Nat.reduceAdd, Nat.reduceLT, Nat.reduceLeDiff, Nat.reduceEqDiff, Nat.reduceSub, e0, e1]
      have hLx := hL x
      refine ⟨fun c => absurd c (nI_ge (by omega) (by omega)), fun _ => ⟨vp_in_nI (by omega) (by omega), ?_⟩⟩
      rw [nI_clamp (by omega)]
      refine ⟨_, _, c_B_isWithin h _ _ _, ?_⟩
      simp only [vc_S_figures_44, qi_push, qi_pushl, qi_iload, qi_lload, qi_aload, qi_istore, qi_astore, qi_lstore, qi_iinc, qi_iadd, qi_isub, qi_imul, qi_iand, qi_ior, qi_ixor, qi_ishl, qi_ishr, qi_iushr, qi_idiv, qi_irem, qi_lor, qi_lmul, qi_ladd, qi_lsub, qi_land, qi_lshl, qi_lshr, qi_i2l, qi_l2i, qi_i2c, qi_lcmp, qi_dup, qi_dup2, qi_pop, qi_if_eq, qi_icmp_eq, qi_if_ne, qi_icmp_ne, qi_if_lt, qi_icmp_lt, qi_if_ge, qi_icmp_ge, qi_if_gt, qi_icmp_gt, qi_if_le, qi_icmp_le, qi_sw, qi_get, qi_put, qi_iald, qi_lald, qi_aald, qi_iast, qi_zast, qi_cast, qi_last, qi_aast, qi_alen, qi_new, qi_newa, qi_newq, qi_obj, qi_invS, qi_invV, qi_invI, qi_iret, qi_zret, qi_lret, qi_vret, qi_acopy, qi_max, qi_min, at_o, at_i, at_l, at_q, at_a, lget, lset, lclr, lnon, lnth, spl, shrt, rpush, true_and, and_true, List.set, List.length, Nat.reduceAdd, Nat.reduceLT, Nat.reduceLeDiff, Nat.reduceEqDiff, Nat.reduceSub, e0, e1, nb_eq0, nb_ne0, decide_eq_false_iff_not, decide_eq_true_eq, Classical.not_not]
      rw [nI_leI (by omega) (by omega), nI_leI (by omega) (by omega)]
      simp only [fgn] at hq
      refine ⟨fun c' => ⟨vp_in_nI (by omega) (by omega), ?_⟩, fun c' => ?_⟩
      · rw [if_pos c'] at hq
        rw [nI_clamp (by omega), pk_mul, nI_add, pk_sub (by omega), nI_add, show v * 10 + L x - 48 = 10 * v + (L x - 48) by omega]
        exact ih (x + 1) _ (by omega) hq
      · rw [if_neg c'] at hq
        rw [← hq]; rfl
  refine MX.of (lv := [some (.ref a), some (.int (nI f)), some (.int (nI e)), some (.int (nI m)), none, none]) 2 rfl (by decide) (Nat.le_of_ble_eq_true rfl) (sn_S_figures_0 _ _ _ ?_)
  simp only [vc_S_figures_0, qi_push, qi_pushl, qi_iload, qi_lload, qi_aload, qi_istore, qi_astore, qi_lstore, qi_iinc, qi_iadd, qi_isub, qi_imul, qi_iand, qi_ior, qi_ixor, qi_ishl, qi_ishr, qi_iushr, qi_idiv, qi_irem, qi_lor, qi_lmul, qi_ladd, qi_lsub, qi_land, qi_lshl, qi_lshr, qi_i2l, qi_l2i, qi_i2c, qi_lcmp, qi_dup, qi_dup2, qi_pop, qi_if_eq, qi_icmp_eq, qi_if_ne, qi_icmp_ne, qi_if_lt, qi_icmp_lt, qi_if_ge, qi_icmp_ge, qi_if_gt, qi_icmp_gt, qi_if_le, qi_icmp_le, qi_sw, qi_get, qi_put, qi_iald, qi_lald, qi_aald, qi_iast, qi_zast, qi_cast, qi_last, qi_aast, qi_alen, qi_new, qi_newa, qi_newq, qi_obj, qi_invS, qi_invV, qi_invI, qi_iret, qi_zret, qi_lret, qi_vret, qi_acopy, qi_max, qi_min, at_o, at_i, at_l, at_q, at_a, lget, lset, lclr, lnon, lnth, spl, shrt, rpush, true_and, and_true, List.set, List.length, Nat.reduceAdd, Nat.reduceLT, Nat.reduceLeDiff, Nat.reduceEqDiff, Nat.reduceSub]
  refine ⟨_, _, c_B_isWithin h _ _ _, ?_⟩
  simp only [vc_S_figures_13, qi_push, qi_pushl, qi_iload, qi_lload, qi_aload, qi_istore, qi_astore, qi_lstore, qi_iinc, qi_iadd, qi_isub, qi_imul, qi_iand, qi_ior, qi_ixor, qi_ishl, qi_ishr, qi_iushr, qi_idiv, qi_irem, qi_lor, qi_lmul, qi_ladd, qi_lsub, qi_land, qi_lshl, qi_lshr, qi_i2l, qi_l2i, qi_i2c, qi_lcmp, qi_dup, qi_dup2, qi_pop, qi_if_eq, qi_icmp_eq, qi_if_ne, qi_icmp_ne, qi_if_lt, qi_icmp_lt, qi_if_ge, qi_icmp_ge, qi_if_gt, qi_icmp_gt, qi_if_le, qi_icmp_le, qi_sw, qi_get, qi_put, qi_iald, qi_lald, qi_aald, qi_iast, qi_zast, qi_cast, qi_last, qi_aast, qi_alen, qi_new, qi_newa, qi_newq, qi_obj, qi_invS, qi_invV, qi_invI, qi_iret, qi_zret, qi_lret, qi_vret, qi_acopy, qi_max, qi_min, at_o, at_i, at_l, at_q, at_a, lget, lset, lclr, lnon, lnth, spl, shrt, rpush, true_and, and_true, List.set, List.length, Nat.reduceAdd, Nat.reduceLT, Nat.reduceLeDiff, Nat.reduceEqDiff, Nat.reduceSub, nb_eq0, nb_ne0, decide_eq_false_iff_not, decide_eq_true_eq, Classical.not_not]
  by_cases q : f ≤ e
  · rw [pk_sub q, nI_leI (by omega) (by omega), nI_leI (by omega) (by omega)]
    refine ⟨fun c => loop (e - f) f 0 (by omega) (by unfold figs; rw [if_pos c]), fun c => by unfold figs; rw [if_neg c]; rfl⟩
  · have q2 : nI e - nI f < 0 := pk_sneg (by omega) (by omega)
    have q3 : ¬ (nI 1 ≤ nI e - nI f ∧ nI e - nI f ≤ nI m) := fun c => by
      have h1 := Int32.le_iff_toInt_le.mp c.1
      have h2 := Int32.lt_iff_toInt_lt.mp q2
      rw [nI_toInt (by omega)] at h1
      have h3 : (0 : Int32).toInt = 0 := by decide
      omega
    refine ⟨fun c => absurd c q3, fun _ => ?_⟩
    unfold figs; rw [if_neg (by omega)]; rfl
variable {p : Nat} {v : pv}
theorem c_S_takeCycle (hp : isSc h a len L) (hl : len ≤ 200) (hL : ∀ j, L j < 65536) (hv : isPv h p v) (hd : a + 2 ≤ p ∨ p + 6 ≤ a) {e : Nat} (he : e ≤ len) : ∃ h', MA M_S_takeCycle [.ref a, .int (nI e), .ref p] h (some (.int (nI (decide (∃ w, figs L 1 e 3 = some w ∧ 1 ≤ w ∧ w ≤ 120)).toNat))) h' ∧ isPv h' p (pvC v (optI (figs L 1 e 3))) ∧ frm h h' p 6 := by
  obtain ⟨n, c, T, B, A, J, S⟩ := v
  obtain ⟨e0, -⟩ := id hp
  have hv' : isPl h p n c T B A J S := hv
  refine ⟨hc_set h p (.inr (2, [.int (nI n), .int (optI (figs L 1 e 3)), .ref (p + 1), .ref (p + 2), .ref (p + 3), .ref (p + 4), .ref (p + 5)])), ?_, hv'.setO, frm.rfl'.set (by omega)⟩
  refine MX.of (lv := [some (.ref a), some (.int (nI e)), some (.ref p)]) 0 rfl (by decide) (Nat.le_of_ble_eq_true rfl) (sn_S_takeCycle_0 _ _ _ ?_)
  simp only [vc_S_takeCycle_0, qi_push, qi_pushl, qi_iload, qi_lload, qi_aload, qi_istore, qi_astore, qi_lstore, qi_iinc, qi_iadd, qi_isub, qi_imul, qi_iand, qi_ior, qi_ixor, qi_ishl, qi_ishr, qi_iushr, qi_idiv, qi_irem, qi_lor, qi_lmul, qi_ladd, qi_lsub, qi_land, qi_lshl, qi_lshr, qi_i2l, qi_l2i, qi_i2c, qi_lcmp, qi_dup, qi_dup2, qi_pop, qi_if_eq, qi_icmp_eq, qi_if_ne, qi_icmp_ne, qi_if_lt, qi_icmp_lt, qi_if_ge, qi_icmp_ge, qi_if_gt, qi_icmp_gt, qi_if_le, qi_icmp_le, qi_sw, qi_get, qi_put, qi_iald, qi_lald, qi_aald, qi_iast, qi_zast, qi_cast, qi_last, qi_aast, qi_alen, qi_new, qi_newa, qi_newq, qi_obj, qi_invS, qi_invV, qi_invI, qi_iret, qi_zret, qi_lret, qi_vret, qi_acopy, qi_max, qi_min, at_o, at_i, at_l, at_q, at_a, lget, lset, lclr, lnon, lnth, spl, shrt, rpush, true_and, and_true, List.set, List.length, Nat.reduceAdd, Nat.reduceLT, Nat.reduceLeDiff, Nat.reduceEqDiff, Nat.reduceSub, e0]
  refine ⟨_, _, c_S_figures hp hl hL (by omega) he (by omega), ?_⟩
  simp only [qi_push, qi_pushl, qi_iload, qi_lload, qi_aload, qi_istore, qi_astore, qi_lstore, qi_iinc, qi_iadd, qi_isub, qi_imul, qi_iand, qi_ior, qi_ixor, qi_ishl, qi_ishr, qi_iushr, qi_idiv, qi_irem, qi_lor, qi_lmul, qi_ladd, qi_lsub, qi_land, qi_lshl, qi_lshr, qi_i2l, qi_l2i, qi_i2c, qi_lcmp, qi_dup, qi_dup2, qi_pop, qi_if_eq, qi_icmp_eq, qi_if_ne, qi_icmp_ne, qi_if_lt, qi_icmp_lt, qi_if_ge, qi_icmp_ge, qi_if_gt, qi_icmp_gt, qi_if_le, qi_icmp_le, qi_sw, qi_get, qi_put, qi_iald, qi_lald, qi_aald, qi_iast, qi_zast, qi_cast, qi_last, qi_aast, qi_alen, qi_new, qi_newa, qi_newq, qi_obj, qi_invS, qi_invV, qi_invI, qi_iret, qi_zret, qi_lret, qi_vret, qi_acopy, qi_max, qi_min, at_o, at_i, at_l, at_q, at_a, lget, lset, lclr, lnon, lnth, spl, shrt, rpush, true_and, and_true, List.set, List.length, Nat.reduceAdd, Nat.reduceLT, Nat.reduceLeDiff, Nat.reduceEqDiff, Nat.reduceSub, hv'.1, hs_eq]
  refine ⟨hc_fit_i, _, _, c_B_isWithin _ _ _ _, ?_⟩
  simp only [qi_push, qi_pushl, qi_iload, qi_lload, qi_aload, qi_istore, qi_astore, qi_lstore, qi_iinc, qi_iadd, qi_isub, qi_imul, qi_iand, qi_ior, qi_ixor, qi_ishl, qi_ishr, qi_iushr, qi_idiv, qi_irem, qi_lor, qi_lmul, qi_ladd, qi_lsub, qi_land, qi_lshl, qi_lshr, qi_i2l, qi_l2i, qi_i2c, qi_lcmp, qi_dup, qi_dup2, qi_pop, qi_if_eq, qi_icmp_eq, qi_if_ne, qi_icmp_ne, qi_if_lt, qi_icmp_lt, qi_if_ge, qi_icmp_ge, qi_if_gt, qi_icmp_gt, qi_if_le, qi_icmp_le, qi_sw, qi_get, qi_put, qi_iald, qi_lald, qi_aald, qi_iast, qi_zast, qi_cast, qi_last, qi_aast, qi_alen, qi_new, qi_newa, qi_newq, qi_obj, qi_invS, qi_invV, qi_invI, qi_iret, qi_zret, qi_lret, qi_vret, qi_acopy, qi_max, qi_min, at_o, at_i, at_l, at_q, at_a, lget, lset, lclr, lnon, lnth, spl, shrt, rpush, true_and, and_true, List.set, List.length, Nat.reduceAdd, Nat.reduceLT, Nat.reduceLeDiff, Nat.reduceEqDiff, Nat.reduceSub]
  refine ⟨nb_01 _, ?_⟩
  have := optI_in (o := figs L 1 e 3) (lo := 1) (hi := 120) (by omega) (by omega) (fun w hw => figs_lt (by omega) hw)
  simp only [this]
theorem c_S_takeTask (hp : isSc h a len L) (hl : len ≤ 200) (hL : ∀ j, L j < 65536) (hv : isPv h p v) (hw : pwv v) (hd : a + 2 ≤ p ∨ p + 6 ≤ a) {x e : Nat} (hx : x < 200) (he : e ≤ len) : ∃ h' v', MA M_S_takeTask [.ref a, .int (nI x), .int (nI e), .ref p] h (some (.int (nI (decide (∃ w, figs L (x + 1) e 2 = some w ∧ (1 ≤ w ∧ w ≤ 60) ∧ v.1 < 12)).toNat))) h' ∧ isPv h' p v' ∧ pwv v' ∧ frm h h' p 6 ∧ ∀ w, figs L (x + 1) e 2 = some w → 1 ≤ w ∧ w ≤ 60 → v.1 < 12 → v' = pvT v w := by
  obtain ⟨n, c, T, B, A, J, S⟩ := v
  obtain ⟨e0, -⟩ := id hp
  have hv' : isPl h p n c T B A J S := hv
  have hn : n ≤ 12 := hw.1
  have hfl := fun w hw => figs_lt (L := L) (f := x + 1) (e := e) (m := 2) (w := w) (by omega) hw
  have hin := optI_in (o := figs L (x + 1) e 2) (lo := 1) (hi := 60) (by omega) (by omega) hfl
  by_cases q : ∃ w, figs L (x + 1) e 2 = some w ∧ 1 ≤ w ∧ w ≤ 60
  · obtain ⟨w, q1, q2⟩ := q
    rcases c_P_addTask hv' hn w with ⟨g1, g2⟩ | ⟨g1, h', g2, g3, g4⟩
    · refine ⟨h, (n, c, T, B, A, J, S), ?_, hv, hw, frm.rfl', fun _ _ _ z => absurd z (by show ¬ n < 12; omega)⟩
      refine MX.of (lv := [some (.ref a), some (.int (nI x)), some (.int (nI e)), some (.ref p), none]) 1 rfl (by decide) (Nat.le_of_ble_eq_true rfl) (sn_S_takeTask_0 _ _ _ ?_)
      simp only [vc_S_takeTask_0, qi_push, qi_pushl, qi_iload, qi_lload, qi_aload, qi_istore, qi_astore, qi_lstore, qi_iinc, qi_iadd, qi_isub, qi_imul, qi_iand, qi_ior, qi_ixor, qi_ishl, qi_ishr, qi_iushr, qi_idiv, qi_irem, qi_lor, qi_lmul, qi_ladd, qi_lsub, qi_land, qi_lshl, qi_lshr, qi_i2l, qi_l2i, qi_i2c, qi_lcmp, qi_dup, qi_dup2, qi_pop, qi_if_eq, qi_icmp_eq, qi_if_ne, qi_icmp_ne, qi_if_lt, qi_icmp_lt, qi_if_ge, qi_icmp_ge, qi_if_gt, qi_icmp_gt, qi_if_le, qi_icmp_le, qi_sw, qi_get, qi_put, qi_iald, qi_lald, qi_aald, qi_iast, qi_zast, qi_cast, qi_last, qi_aast, qi_alen, qi_new, qi_newa, qi_newq, qi_obj, qi_invS, qi_invV, qi_invI, qi_iret, qi_zret, qi_lret, qi_vret, qi_acopy, qi_max, qi_min, at_o, at_i, at_l, at_q, at_a, lget, lset, lclr, lnon, lnth, spl, shrt, rpush, true_and, and_true, List.set, List.length, Nat.reduceAdd, Nat.reduceLT, Nat.reduceLeDiff, Nat.reduceEqDiff, Nat.reduceSub, e0, nI_add]
      refine ⟨_, _, c_S_figures hp hl hL (by omega) he (by omega), ?_⟩
      simp only [qi_push, qi_pushl, qi_iload, qi_lload, qi_aload, qi_istore, qi_astore, qi_lstore, qi_iinc, qi_iadd, qi_isub, qi_imul, qi_iand, qi_ior, qi_ixor, qi_ishl, qi_ishr, qi_iushr, qi_idiv, qi_irem, qi_lor, qi_lmul, qi_ladd, qi_lsub, qi_land, qi_lshl, qi_lshr, qi_i2l, qi_l2i, qi_i2c, qi_lcmp, qi_dup, qi_dup2, qi_pop, qi_if_eq, qi_icmp_eq, qi_if_ne, qi_icmp_ne, qi_if_lt, qi_icmp_lt, qi_if_ge, qi_icmp_ge, qi_if_gt, qi_icmp_gt, qi_if_le, qi_icmp_le, qi_sw, qi_get, qi_put, qi_iald, qi_lald, qi_aald, qi_iast, qi_zast, qi_cast, qi_last, qi_aast, qi_alen, qi_new, qi_newa, qi_newq, qi_obj, qi_invS, qi_invV, qi_invI, qi_iret, qi_zret, qi_lret, qi_vret, qi_acopy, qi_max, qi_min, at_o, at_i, at_l, at_q, at_a, lget, lset, lclr, lnon, lnth, spl, shrt, rpush, true_and, and_true, List.set, List.length, Nat.reduceAdd, Nat.reduceLT, Nat.reduceLeDiff, Nat.reduceEqDiff, Nat.reduceSub]
      refine ⟨_, _, c_B_isWithin _ _ _ _, ?_⟩
      simp only [vc_S_takeTask_35, vc_S_takeTask_36, qi_push, qi_pushl, qi_iload, qi_lload, qi_aload, qi_istore, qi_astore, qi_lstore, qi_iinc, qi_iadd, qi_isub, qi_imul, qi_iand, qi_ior, qi_ixor, qi_ishl, qi_ishr, qi_iushr, qi_idiv, qi_irem, qi_lor, qi_lmul, qi_ladd, qi_lsub, qi_land, qi_lshl, qi_lshr, qi_i2l, qi_l2i, qi_i2c, qi_lcmp, qi_dup, qi_dup2, qi_pop, qi_if_eq, qi_icmp_eq, qi_if_ne, qi_icmp_ne, qi_if_lt, qi_icmp_lt, qi_if_ge, qi_icmp_ge, qi_if_gt, qi_icmp_gt, qi_if_le, qi_icmp_le, qi_sw, qi_get, qi_put, qi_iald, qi_lald, qi_aald, qi_iast, qi_zast, qi_cast, qi_last, qi_aast, qi_alen, qi_new, qi_newa, qi_newq, qi_obj, qi_invS, qi_invV, qi_invI, qi_iret, qi_zret, qi_lret, qi_vret, qi_acopy, qi_max, qi_min, at_o, at_i, at_l, at_q, at_a, lget, lset, lclr, lnon, lnth, spl, shrt, rpush, true_and, and_true, List.set, List.length, Nat.reduceAdd, Nat.reduceLT, Nat.reduceLeDiff, Nat.reduceEqDiff, Nat.reduceSub, hv'.1, nb_eq0, nb_ne0, decide_eq_false_iff_not, decide_eq_true_eq, Classical.not_not, hin]
      refine ⟨fun z => absurd ⟨w, q1, q2⟩ z, fun _ => ?_⟩
      rw [q1]
      refine ⟨_, _, g2, ?_⟩
      simp only [qi_push, qi_pushl, qi_iload, qi_lload, qi_aload, qi_istore, qi_astore, qi_lstore, qi_iinc, qi_iadd, qi_isub, qi_imul, qi_iand, qi_ior, qi_ixor, qi_ishl, qi_ishr, qi_iushr, qi_idiv, qi_irem, qi_lor, qi_lmul, qi_ladd, qi_lsub, qi_land, qi_lshl, qi_lshr, qi_i2l, qi_l2i, qi_i2c, qi_lcmp, qi_dup, qi_dup2, qi_pop, qi_if_eq, qi_icmp_eq, qi_if_ne, qi_icmp_ne, qi_if_lt, qi_icmp_lt, qi_if_ge, qi_icmp_ge, qi_if_gt, qi_icmp_gt, qi_if_le, qi_icmp_le, qi_sw, qi_get, qi_put, qi_iald, qi_lald, qi_aald, qi_iast, qi_zast, qi_cast, qi_last, qi_aast, qi_alen, qi_new, qi_newa, qi_newq, qi_obj, qi_invS, qi_invV, qi_invI, qi_iret, qi_zret, qi_lret, qi_vret, qi_acopy, qi_max, qi_min, at_o, at_i, at_l, at_q, at_a, lget, lset, lclr, lnon, lnth, spl, shrt, rpush, true_and, and_true, List.set, List.length, Nat.reduceAdd, Nat.reduceLT, Nat.reduceLeDiff, Nat.reduceEqDiff, Nat.reduceSub]
      refine ⟨fun _ => ⟨Or.inl rfl, ?_⟩, fun z => absurd rfl z⟩
      rw [decide_eq_false (fun ⟨w', z1, z2, z3⟩ => by omega)]; rfl
    · refine ⟨h', (n + 1, c, va_up T n w, B, A, J, S), ?_, g3, ⟨by show n + 1 ≤ 12; omega, fun y => ?_, hw.2.2⟩, g4, fun w' z1 _ _ => by rw [q1] at z1; cases z1; rfl⟩
      · refine MX.of (lv := [some (.ref a), some (.int (nI x)), some (.int (nI e)), some (.ref p), none]) 1 rfl (by decide) (Nat.le_of_ble_eq_true rfl) (sn_S_takeTask_0 _ _ _ ?_)
        simp only [vc_S_takeTask_0, qi_push, qi_pushl, qi_iload, qi_lload, qi_aload, qi_istore, qi_astore, qi_lstore, qi_iinc, qi_iadd, qi_isub, qi_imul, qi_iand, qi_ior, qi_ixor, qi_ishl, qi_ishr, qi_iushr, qi_idiv, qi_irem, qi_lor, qi_lmul, qi_ladd, qi_lsub, qi_land, qi_lshl, qi_lshr, qi_i2l, qi_l2i, qi_i2c, qi_lcmp, qi_dup, qi_dup2, qi_pop, qi_if_eq, qi_icmp_eq, qi_if_ne, qi_icmp_ne, qi_if_lt, qi_icmp_lt, qi_if_ge, qi_icmp_ge, qi_if_gt, qi_icmp_gt, qi_if_le, qi_icmp_le, qi_sw, qi_get, qi_put, qi_iald, qi_lald, qi_aald, qi_iast, qi_zast, qi_cast, qi_last, qi_aast, qi_alen, qi_new, qi_newa, qi_newq, qi_obj, qi_invS, qi_invV, qi_invI, qi_iret, qi_zret, qi_lret, qi_vret, qi_acopy, qi_max, qi_min, at_o, at_i, at_l, at_q, at_a, lget, lset, lclr, lnon, lnth, spl, shrt, rpush, true_and, and_true, List.set, List.length, Nat.reduceAdd, Nat.reduceLT, Nat.reduceLeDiff, Nat.reduceEqDiff, Nat.reduceSub, e0, nI_add]
        refine ⟨_, _, c_S_figures hp hl hL (by omega) he (by omega), ?_⟩
        simp only [qi_push, qi_pushl, qi_iload, qi_lload, qi_aload, qi_istore, qi_astore, qi_lstore, qi_iinc, qi_iadd, qi_isub, qi_imul, qi_iand, qi_ior, qi_ixor, qi_ishl, qi_ishr, qi_iushr, qi_idiv, qi_irem, qi_lor, qi_lmul, qi_ladd, qi_lsub, qi_land, qi_lshl, qi_lshr, qi_i2l, qi_l2i, qi_i2c, qi_lcmp, qi_dup, qi_dup2, qi_pop, qi_if_eq, qi_icmp_eq, qi_if_ne, qi_icmp_ne, qi_if_lt, qi_icmp_lt, qi_if_ge, qi_icmp_ge, qi_if_gt, qi_icmp_gt, qi_if_le, qi_icmp_le, qi_sw, qi_get, qi_put, qi_iald, qi_lald, qi_aald, qi_iast, qi_zast, qi_cast, qi_last, qi_aast, qi_alen, qi_new, qi_newa, qi_newq, qi_obj, qi_invS, qi_invV, qi_invI, qi_iret, qi_zret, qi_lret, qi_vret, qi_acopy, qi_max, qi_min, at_o, at_i, at_l, at_q, at_a, lget, lset, lclr, lnon, lnth, spl, shrt, rpush, true_and, and_true, List.set, List.length, Nat.reduceAdd, Nat.reduceLT, Nat.reduceLeDiff, Nat.reduceEqDiff, Nat.reduceSub]
        refine ⟨_, _, c_B_isWithin _ _ _ _, ?_⟩
        simp only [vc_S_takeTask_35, vc_S_takeTask_36, qi_push, qi_pushl, qi_iload, qi_lload, qi_aload, qi_istore, qi_astore, qi_lstore, qi_iinc, qi_iadd, qi_isub, qi_imul, qi_iand, qi_ior, qi_ixor, qi_ishl, qi_ishr, qi_iushr, qi_idiv, qi_irem, qi_lor, qi_lmul, qi_ladd, qi_lsub, qi_land, qi_lshl, qi_lshr, qi_i2l, qi_l2i, qi_i2c, qi_lcmp, qi_dup, qi_dup2, qi_pop, qi_if_eq, qi_icmp_eq, qi_if_ne, qi_icmp_ne, qi_if_lt, qi_icmp_lt, qi_if_ge, qi_icmp_ge, qi_if_gt, qi_icmp_gt, qi_if_le, qi_icmp_le, qi_sw, qi_get, qi_put, qi_iald, qi_lald, qi_aald, qi_iast, qi_zast, qi_cast, qi_last, qi_aast, qi_alen, qi_new, qi_newa, qi_newq, qi_obj, qi_invS, qi_invV, qi_invI, qi_iret, qi_zret, qi_lret, qi_vret, qi_acopy, qi_max, qi_min, at_o, at_i, at_l, at_q, at_a, lget, lset, lclr, lnon, lnth, spl, shrt, rpush, true_and, and_true, List.set, List.length, Nat.reduceAdd, Nat.reduceLT, Nat.reduceLeDiff, Nat.reduceEqDiff, Nat.reduceSub, hv'.1, nb_eq0, nb_ne0, decide_eq_false_iff_not, decide_eq_true_eq, Classical.not_not, hin]
        refine ⟨fun z => absurd ⟨w, q1, q2⟩ z, fun _ => ?_⟩
        rw [q1]
        refine ⟨_, _, g2, ?_⟩
        simp only [qi_push, qi_pushl, qi_iload, qi_lload, qi_aload, qi_istore, qi_astore, qi_lstore, qi_iinc, qi_iadd, qi_isub, qi_imul, qi_iand, qi_ior, qi_ixor, qi_ishl, qi_ishr, qi_iushr, qi_idiv, qi_irem, qi_lor, qi_lmul, qi_ladd, qi_lsub, qi_land, qi_lshl, qi_lshr, qi_i2l, qi_l2i, qi_i2c, qi_lcmp, qi_dup, qi_dup2, qi_pop, qi_if_eq, qi_icmp_eq, qi_if_ne, qi_icmp_ne, qi_if_lt, qi_icmp_lt, qi_if_ge, qi_icmp_ge, qi_if_gt, qi_icmp_gt, qi_if_le, qi_icmp_le, qi_sw, qi_get, qi_put, qi_iald, qi_lald, qi_aald, qi_iast, qi_zast, qi_cast, qi_last, qi_aast, qi_alen, qi_new, qi_newa, qi_newq, qi_obj, qi_invS, qi_invV, qi_invI, qi_iret, qi_zret, qi_lret, qi_vret, qi_acopy, qi_max, qi_min, at_o, at_i, at_l, at_q, at_a, lget, lset, lclr, lnon, lnth, spl, shrt, rpush, true_and, and_true, List.set, List.length, Nat.reduceAdd, Nat.reduceLT, Nat.reduceLeDiff, Nat.reduceEqDiff, Nat.reduceSub]
        refine ⟨fun z => absurd z (by decide), fun _ => ⟨Or.inr rfl, ?_⟩⟩
        rw [decide_eq_true ⟨w, rfl, q2, g1⟩]; rfl
      · show va_up T n w y ≤ 60
        unfold va_up
        split
        · omega
        · exact hw.2.1 y
  · refine ⟨h, (n, c, T, B, A, J, S), ?_, hv, hw, frm.rfl', fun w z1 z2 _ => absurd ⟨w, z1, z2⟩ q⟩
    refine MX.of (lv := [some (.ref a), some (.int (nI x)), some (.int (nI e)), some (.ref p), none]) 1 rfl (by decide) (Nat.le_of_ble_eq_true rfl) (sn_S_takeTask_0 _ _ _ ?_)
    simp only [vc_S_takeTask_0, qi_push, qi_pushl, qi_iload, qi_lload, qi_aload, qi_istore, qi_astore, qi_lstore, qi_iinc, qi_iadd, qi_isub, qi_imul, qi_iand, qi_ior, qi_ixor, qi_ishl, qi_ishr, qi_iushr, qi_idiv, qi_irem, qi_lor, qi_lmul, qi_ladd, qi_lsub, qi_land, qi_lshl, qi_lshr, qi_i2l, qi_l2i, qi_i2c, qi_lcmp, qi_dup, qi_dup2, qi_pop, qi_if_eq, qi_icmp_eq, qi_if_ne, qi_icmp_ne, qi_if_lt, qi_icmp_lt, qi_if_ge, qi_icmp_ge, qi_if_gt, qi_icmp_gt, qi_if_le, qi_icmp_le, qi_sw, qi_get, qi_put, qi_iald, qi_lald, qi_aald, qi_iast, qi_zast, qi_cast, qi_last, qi_aast, qi_alen, qi_new, qi_newa, qi_newq, qi_obj, qi_invS, qi_invV, qi_invI, qi_iret, qi_zret, qi_lret, qi_vret, qi_acopy, qi_max, qi_min, at_o, at_i, at_l, at_q, at_a, lget, lset, lclr, lnon, lnth, spl, shrt, rpush, true_and, and_true, List.set, List.length, Nat.reduceAdd, Nat.reduceLT, Nat.reduceLeDiff, Nat.reduceEqDiff, Nat.reduceSub, e0, nI_add]
    refine ⟨_, _, c_S_figures hp hl hL (by omega) he (by omega), ?_⟩
    simp only [qi_push, qi_pushl, qi_iload, qi_lload, qi_aload, qi_istore, qi_astore, qi_lstore, qi_iinc, qi_iadd, qi_isub, qi_imul, qi_iand, qi_ior, qi_ixor, qi_ishl, qi_ishr, qi_iushr, qi_idiv, qi_irem, qi_lor, qi_lmul, qi_ladd, qi_lsub, qi_land, qi_lshl, qi_lshr, qi_i2l, qi_l2i, qi_i2c, qi_lcmp, qi_dup, qi_dup2, qi_pop, qi_if_eq, qi_icmp_eq, qi_if_ne, qi_icmp_ne, qi_if_lt, qi_icmp_lt, qi_if_ge, qi_icmp_ge, qi_if_gt, qi_icmp_gt, qi_if_le, qi_icmp_le, qi_sw, qi_get, qi_put, qi_iald, qi_lald, qi_aald, qi_iast, qi_zast, qi_cast, qi_last, qi_aast, qi_alen, qi_new, qi_newa, qi_newq, qi_obj, qi_invS, qi_invV, qi_invI, qi_iret, qi_zret, qi_lret, qi_vret, qi_acopy, qi_max, qi_min, at_o, at_i, at_l, at_q, at_a, lget, lset, lclr, lnon, lnth, spl, shrt, rpush, true_and, and_true, List.set, List.length, Nat.reduceAdd, Nat.reduceLT, Nat.reduceLeDiff, Nat.reduceEqDiff, Nat.reduceSub]
    refine ⟨_, _, c_B_isWithin _ _ _ _, ?_⟩
    simp only [vc_S_takeTask_35, vc_S_takeTask_36, qi_push, qi_pushl, qi_iload, qi_lload, qi_aload, qi_istore, qi_astore, qi_lstore, qi_iinc, qi_iadd, qi_isub, qi_imul, qi_iand, qi_ior, qi_ixor, qi_ishl, qi_ishr, qi_iushr, qi_idiv, qi_irem, qi_lor, qi_lmul, qi_ladd, qi_lsub, qi_land, qi_lshl, qi_lshr, qi_i2l, qi_l2i, qi_i2c, qi_lcmp, qi_dup, qi_dup2, qi_pop, qi_if_eq, qi_icmp_eq, qi_if_ne, qi_icmp_ne, qi_if_lt, qi_icmp_lt, qi_if_ge, qi_icmp_ge, qi_if_gt, qi_icmp_gt, qi_if_le, qi_icmp_le, qi_sw, qi_get, qi_put, qi_iald, qi_lald, qi_aald, qi_iast, qi_zast, qi_cast, qi_last, qi_aast, qi_alen, qi_new, qi_newa, qi_newq, qi_obj, qi_invS, qi_invV, qi_invI, qi_iret, qi_zret, qi_lret, qi_vret, qi_acopy, qi_max, qi_min, at_o, at_i, at_l, at_q, at_a, lget, lset, lclr, lnon, lnth, spl, shrt, rpush, true_and, and_true, List.set, List.length, Nat.reduceAdd, Nat.reduceLT, Nat.reduceLeDiff, Nat.reduceEqDiff, Nat.reduceSub, hv'.1, nb_eq0, nb_ne0, decide_eq_false_iff_not, decide_eq_true_eq, Classical.not_not, hin]
    refine ⟨fun _ => ⟨Or.inl rfl, ?_⟩, fun z => absurd z q⟩
    rw [decide_eq_false (fun ⟨w', z1, z2, z3⟩ => q ⟨w', z1, z2⟩)]; rfl
theorem c_S_takeOrder (hv : isPv h p v) (hw : pwv v) (sc : ∃ fs, h.1 a = some (.inr (3, fs))) {x y : Nat} (hx : x < 12) (hy : y < 12) : ∃ h' v', MA M_S_takeOrder [.ref a, .int (nI x), .int (nI y), .ref p] h (some (.int (nI (decide (¬ ((v.2.2.2.1 y).testBit x = true ∨ (ab_r v.2.2.2.1 y v.1 v.1).testBit x = true))).toNat))) h' ∧ isPv h' p v' ∧ pwv v' ∧ frm h h' p 6 ∧ (¬ ((v.2.2.2.1 y).testBit x = true ∨ (ab_r v.2.2.2.1 y v.1 v.1).testBit x = true) → v' = pvB v (va_up v.2.2.2.1 y (v.2.2.2.1 y ||| 2 ^ x))) := by
  obtain ⟨n, c, T, B, A, J, S⟩ := v
  have hv' : isPl h p n c T B A J S := hv
  have hw' : pw n T B A J S := hw
  by_cases q : (B y).testBit x = true ∨ (ab_r B y n n).testBit x = true
  · refine ⟨h, (n, c, T, B, A, J, S), ?_, hv, hw, frm.rfl', fun z => absurd q z⟩
    refine MX.of (lv := [some (.ref a), some (.int (nI x)), some (.int (nI y)), some (.ref p)]) 0 rfl (by decide) (Nat.le_of_ble_eq_true rfl) (sn_S_takeOrder_0 _ _ _ ?_)
    simp only [vc_S_takeOrder_0, qi_push, qi_pushl, qi_iload, qi_lload, qi_aload, qi_istore, qi_astore, qi_lstore, qi_iinc, qi_iadd, qi_isub, qi_imul, qi_iand, qi_ior, qi_ixor, qi_ishl, qi_ishr, qi_iushr, qi_idiv, qi_irem, qi_lor, qi_lmul, qi_ladd, qi_lsub, qi_land, qi_lshl, qi_lshr, qi_i2l, qi_l2i, qi_i2c, qi_lcmp, qi_dup, qi_dup2, qi_pop, qi_if_eq, qi_icmp_eq, qi_if_ne, qi_icmp_ne, qi_if_lt, qi_icmp_lt, qi_if_ge, qi_icmp_ge, qi_if_gt, qi_icmp_gt, qi_if_le, qi_icmp_le, qi_sw, qi_get, qi_put, qi_iald, qi_lald, qi_aald, qi_iast, qi_zast, qi_cast, qi_last, qi_aast, qi_alen, qi_new, qi_newa, qi_newq, qi_obj, qi_invS, qi_invV, qi_invI, qi_iret, qi_zret, qi_lret, qi_vret, qi_acopy, qi_max, qi_min, at_o, at_i, at_l, at_q, at_a, lget, lset, lclr, lnon, lnth, spl, shrt, rpush, true_and, and_true, List.set, List.length, Nat.reduceAdd, Nat.reduceLT, Nat.reduceLeDiff, Nat.reduceEqDiff, Nat.reduceSub, hv'.1]
    refine ⟨_, _, c_P_isBehind hv' hw' hy (by omega), ?_⟩
    simp only [vc_S_takeOrder_18, qi_push, qi_pushl, qi_iload, qi_lload, qi_aload, qi_istore, qi_astore, qi_lstore, qi_iinc, qi_iadd, qi_isub, qi_imul, qi_iand, qi_ior, qi_ixor, qi_ishl, qi_ishr, qi_iushr, qi_idiv, qi_irem, qi_lor, qi_lmul, qi_ladd, qi_lsub, qi_land, qi_lshl, qi_lshr, qi_i2l, qi_l2i, qi_i2c, qi_lcmp, qi_dup, qi_dup2, qi_pop, qi_if_eq, qi_icmp_eq, qi_if_ne, qi_icmp_ne, qi_if_lt, qi_icmp_lt, qi_if_ge, qi_icmp_ge, qi_if_gt, qi_icmp_gt, qi_if_le, qi_icmp_le, qi_sw, qi_get, qi_put, qi_iald, qi_lald, qi_aald, qi_iast, qi_zast, qi_cast, qi_last, qi_aast, qi_alen, qi_new, qi_newa, qi_newq, qi_obj, qi_invS, qi_invV, qi_invI, qi_iret, qi_zret, qi_lret, qi_vret, qi_acopy, qi_max, qi_min, at_o, at_i, at_l, at_q, at_a, lget, lset, lclr, lnon, lnth, spl, shrt, rpush, true_and, and_true, List.set, List.length, Nat.reduceAdd, Nat.reduceLT, Nat.reduceLeDiff, Nat.reduceEqDiff, Nat.reduceSub, hv'.1, nb_eq0, nb_ne0, Bool.not_eq_false]
    show (_ → (nI 0 = 0 ∨ nI 0 = 1) ∧ some (Value.int (nI (decide (¬ ((B y).testBit x = true ∨ (ab_r B y n n).testBit x = true))).toNat)) = some (.int (nI 0))) ∧ _
    rw [decide_eq_false (Classical.not_not.mpr q)]
    refine ⟨fun _ => ⟨Or.inl rfl, rfl⟩, fun z => ⟨_, _, c_P_wouldGoRound hv' hw' hx hy, ?_⟩⟩
    simp only [vc_S_takeOrder_20, vc_S_takeOrder_18, qi_push, qi_pushl, qi_iload, qi_lload, qi_aload, qi_istore, qi_astore, qi_lstore, qi_iinc, qi_iadd, qi_isub, qi_imul, qi_iand, qi_ior, qi_ixor, qi_ishl, qi_ishr, qi_iushr, qi_idiv, qi_irem, qi_lor, qi_lmul, qi_ladd, qi_lsub, qi_land, qi_lshl, qi_lshr, qi_i2l, qi_l2i, qi_i2c, qi_lcmp, qi_dup, qi_dup2, qi_pop, qi_if_eq, qi_icmp_eq, qi_if_ne, qi_icmp_ne, qi_if_lt, qi_icmp_lt, qi_if_ge, qi_icmp_ge, qi_if_gt, qi_icmp_gt, qi_if_le, qi_icmp_le, qi_sw, qi_get, qi_put, qi_iald, qi_lald, qi_aald, qi_iast, qi_zast, qi_cast, qi_last, qi_aast, qi_alen, qi_new, qi_newa, qi_newq, qi_obj, qi_invS, qi_invV, qi_invI, qi_iret, qi_zret, qi_lret, qi_vret, qi_acopy, qi_max, qi_min, at_o, at_i, at_l, at_q, at_a, lget, lset, lclr, lnon, lnth, spl, shrt, rpush, true_and, and_true, List.set, List.length, Nat.reduceAdd, Nat.reduceLT, Nat.reduceLeDiff, Nat.reduceEqDiff, Nat.reduceSub, hv'.1, nb_eq0, nb_ne0, Bool.not_eq_false]
    refine ⟨fun z2 => ?_, fun _ => ⟨Or.inl rfl, rfl⟩⟩
    rw [z, z2] at q; simp at q
  · obtain ⟨h', g1, g2, g3⟩ := c_P_setOrder hv' hx hy true
    refine ⟨h', pvB (n, c, T, B, A, J, S) (va_up B y (B y ||| 2 ^ x)), ?_, g2, ⟨hw.1, hw.2.1, fun k => ?_, hw.2.2.2⟩, g3, fun _ => rfl⟩
    · refine MX.of (lv := [some (.ref a), some (.int (nI x)), some (.int (nI y)), some (.ref p)]) 0 rfl (by decide) (Nat.le_of_ble_eq_true rfl) (sn_S_takeOrder_0 _ _ _ ?_)
      simp only [vc_S_takeOrder_0, qi_push, qi_pushl, qi_iload, qi_lload, qi_aload, qi_istore, qi_astore, qi_lstore, qi_iinc, qi_iadd, qi_isub, qi_imul, qi_iand, qi_ior, qi_ixor, qi_ishl, qi_ishr, qi_iushr, qi_idiv, qi_irem, qi_lor, qi_lmul, qi_ladd, qi_lsub, qi_land, qi_lshl, qi_lshr, qi_i2l, qi_l2i, qi_i2c, qi_lcmp, qi_dup, qi_dup2, qi_pop, qi_if_eq, qi_icmp_eq, qi_if_ne, qi_icmp_ne, qi_if_lt, qi_icmp_lt, qi_if_ge, qi_icmp_ge, qi_if_gt, qi_icmp_gt, qi_if_le, qi_icmp_le, qi_sw, qi_get, qi_put, qi_iald, qi_lald, qi_aald, qi_iast, qi_zast, qi_cast, qi_last, qi_aast, qi_alen, qi_new, qi_newa, qi_newq, qi_obj, qi_invS, qi_invV, qi_invI, qi_iret, qi_zret, qi_lret, qi_vret, qi_acopy, qi_max, qi_min, at_o, at_i, at_l, at_q, at_a, lget, lset, lclr, lnon, lnth, spl, shrt, rpush, true_and, and_true, List.set, List.length, Nat.reduceAdd, Nat.reduceLT, Nat.reduceLeDiff, Nat.reduceEqDiff, Nat.reduceSub, hv'.1]
      refine ⟨_, _, c_P_isBehind hv' hw' hy (by omega), ?_⟩
      simp only [vc_S_takeOrder_18, qi_push, qi_pushl, qi_iload, qi_lload, qi_aload, qi_istore, qi_astore, qi_lstore, qi_iinc, qi_iadd, qi_isub, qi_imul, qi_iand, qi_ior, qi_ixor, qi_ishl, qi_ishr, qi_iushr, qi_idiv, qi_irem, qi_lor, qi_lmul, qi_ladd, qi_lsub, qi_land, qi_lshl, qi_lshr, qi_i2l, qi_l2i, qi_i2c, qi_lcmp, qi_dup, qi_dup2, qi_pop, qi_if_eq, qi_icmp_eq, qi_if_ne, qi_icmp_ne, qi_if_lt, qi_icmp_lt, qi_if_ge, qi_icmp_ge, qi_if_gt, qi_icmp_gt, qi_if_le, qi_icmp_le, qi_sw, qi_get, qi_put, qi_iald, qi_lald, qi_aald, qi_iast, qi_zast, qi_cast, qi_last, qi_aast, qi_alen, qi_new, qi_newa, qi_newq, qi_obj, qi_invS, qi_invV, qi_invI, qi_iret, qi_zret, qi_lret, qi_vret, qi_acopy, qi_max, qi_min, at_o, at_i, at_l, at_q, at_a, lget, lset, lclr, lnon, lnth, spl, shrt, rpush, true_and, and_true, List.set, List.length, Nat.reduceAdd, Nat.reduceLT, Nat.reduceLeDiff, Nat.reduceEqDiff, Nat.reduceSub, hv'.1, nb_eq0, nb_ne0, Bool.not_eq_false]
      refine ⟨fun z => absurd (Or.inl z) q, fun z => ⟨_, _, c_P_wouldGoRound hv' hw' hx hy, ?_⟩⟩
      simp only [vc_S_takeOrder_20, vc_S_takeOrder_18, qi_push, qi_pushl, qi_iload, qi_lload, qi_aload, qi_istore, qi_astore, qi_lstore, qi_iinc, qi_iadd, qi_isub, qi_imul, qi_iand, qi_ior, qi_ixor, qi_ishl, qi_ishr, qi_iushr, qi_idiv, qi_irem, qi_lor, qi_lmul, qi_ladd, qi_lsub, qi_land, qi_lshl, qi_lshr, qi_i2l, qi_l2i, qi_i2c, qi_lcmp, qi_dup, qi_dup2, qi_pop, qi_if_eq, qi_icmp_eq, qi_if_ne, qi_icmp_ne, qi_if_lt, qi_icmp_lt, qi_if_ge, qi_icmp_ge, qi_if_gt, qi_icmp_gt, qi_if_le, qi_icmp_le, qi_sw, qi_get, qi_put, qi_iald, qi_lald, qi_aald, qi_iast, qi_zast, qi_cast, qi_last, qi_aast, qi_alen, qi_new, qi_newa, qi_newq, qi_obj, qi_invS, qi_invV, qi_invI, qi_iret, qi_zret, qi_lret, qi_vret, qi_acopy, qi_max, qi_min, at_o, at_i, at_l, at_q, at_a, lget, lset, lclr, lnon, lnth, spl, shrt, rpush, true_and, and_true, List.set, List.length, Nat.reduceAdd, Nat.reduceLT, Nat.reduceLeDiff, Nat.reduceEqDiff, Nat.reduceSub, hv'.1, nb_eq0, nb_ne0, Bool.not_eq_false]
      refine ⟨fun z2 => ⟨_, _, g1, ?_⟩, fun z2 => absurd (Or.inr z2) q⟩
      simp only [qi_push, qi_pushl, qi_iload, qi_lload, qi_aload, qi_istore, qi_astore, qi_lstore, qi_iinc, qi_iadd, qi_isub, qi_imul, qi_iand, qi_ior, qi_ixor, qi_ishl, qi_ishr, qi_iushr, qi_idiv, qi_irem, qi_lor, qi_lmul, qi_ladd, qi_lsub, qi_land, qi_lshl, qi_lshr, qi_i2l, qi_l2i, qi_i2c, qi_lcmp, qi_dup, qi_dup2, qi_pop, qi_if_eq, qi_icmp_eq, qi_if_ne, qi_icmp_ne, qi_if_lt, qi_icmp_lt, qi_if_ge, qi_icmp_ge, qi_if_gt, qi_icmp_gt, qi_if_le, qi_icmp_le, qi_sw, qi_get, qi_put, qi_iald, qi_lald, qi_aald, qi_iast, qi_zast, qi_cast, qi_last, qi_aast, qi_alen, qi_new, qi_newa, qi_newq, qi_obj, qi_invS, qi_invV, qi_invI, qi_iret, qi_zret, qi_lret, qi_vret, qi_acopy, qi_max, qi_min, at_o, at_i, at_l, at_q, at_a, lget, lset, lclr, lnon, lnth, spl, shrt, rpush, true_and, and_true, List.set, List.length, Nat.reduceAdd, Nat.reduceLT, Nat.reduceLeDiff, Nat.reduceEqDiff, Nat.reduceSub]
      refine ⟨Or.inr rfl, ?_⟩
      show some (Value.int (nI (decide (¬ ((B y).testBit x = true ∨ (ab_r B y n n).testBit x = true))).toNat)) = _
      rw [decide_eq_true q]; rfl
    · show va_up B y (B y ||| 2 ^ x) k < 4096
      unfold va_up
      split
      · exact or_lt (k := 12) (hw.2.2.1 y) (pow_lt12 hx)
      · exact hw.2.2.1 k
end SC
