/-! PLAN: reasons, floors. -/
theorem MX.eqv {Ph : Nat → State → Prop} {M : hc_M} {as : List Value} {h h' h'' : hc_H} {r : Option Value} (e : heq h' h'') (k : MX Ph M as h r h') : MX Ph M as h r h'' := by
  have e2 : h'.2 = h''.2 := e.1
  refine ⟨by rw [← e2]; exact k.1, fun l D tc bs => ?_⟩
  have K := k.2 l D tc bs
  have hR : hc_R M h h' = hc_R M h h'' := by unfold hc_R; rw [e2]
  rw [hR, e2] at K
  intro p e ha hc hk s m args below hf hap hP hK
  obtain ⟨n, o, a1, a2, a3, ⟨q1, q2, q3⟩, rest⟩ := K p e ha hc hk s m args below hf hap hP hK
  exact ⟨n, o, a1, a2, a3, ⟨q1, q2.eqv ‹_›, q3⟩, rest⟩
theorem heq.rfl' {h : hc_H} : heq h h := ⟨rfl, fun _ => Or.inl rfl⟩
theorem heq.set2 {h h' : hc_H} {a n k : Nat} {f g : Nat → Int32} (e : heq h h') (q : ∀ j, j < n → f j = g j) : heq (hc_set h a (.inl (k, n, .inl f))) (hc_set h' a (.inl (k, n, .inl g))) := by
  refine ⟨e.1, fun x => ?_⟩
  rw [hs_at, hs_at]
  by_cases hq : x = a
  · rw [if_pos hq, if_pos hq]; exact Or.inr ⟨k, n, f, g, rfl, rfl, q⟩
  · rw [if_neg hq, if_neg hq]; exact e.2 x
theorem heq.set1 {h h' : hc_H} {a : Nat} {x : hc_C} (e : heq h h') : heq (hc_set h a x) (hc_set h' a x) := by
  refine ⟨e.1, fun q => ?_⟩
  rw [hs_at, hs_at]
  by_cases hq : q = a
  · rw [if_pos hq, if_pos hq]; exact Or.inl rfl
  · rw [if_neg hq, if_neg hq]; exact e.2 q
theorem upd_nI (f : Nat → Nat) (k v : Nat) : upd (fun j => nI (f j)) k (nI v) = fun j => nI (va_up f k v j) := by
  funext j
  unfold upd va_up
  by_cases h : j = k <;> simp [h]
/-- the first of two reasons; 0 is none -/
def fo (a b : Nat) : Nat := if a = 0 ∨ b = 0 then a + b else min a b
def cl (B A J S : Nat → Nat) (t s x : Nat) : Nat := if (B t).testBit x ∧ s < S x then 1 else if (B x).testBit t ∧ S x < s then 2 else if (A t).testBit x then (if S x = s then 4 else 0) else if (J t).testBit x then (if S x = s then 0 else 5) else 0
theorem cl_le (B A J S : Nat → Nat) (t s x : Nat) : cl B A J S t s x ≤ 5 := by unfold cl; repeat' split
                                                                               all_goals omega
theorem fo_le {a b : Nat} (ha : a ≤ 5) (hb : b ≤ 5) : fo a b ≤ 5 := by unfold fo; split <;> omega
def wnf (B A J S : Nat → Nat) (t s : Nat) : Nat → Nat
  | 0 => 0
  | x + 1 => if x ≠ t ∧ S x ≠ 0 then fo (wnf B A J S t s x) (cl B A J S t s x) else wnf B A J S t s x
def wns (T S : Nat → Nat) (t s : Nat) : Nat → Nat
  | 0 => T t
  | x + 1 => if x ≠ t ∧ S x ≠ 0 ∧ S x = s then wns T S t s x + T x else wns T S t s x
theorem wnf_le (B A J S : Nat → Nat) (t s : Nat) : ∀ x, wnf B A J S t s x ≤ 5 := by
  intro x
  induction x with
  | zero => exact Nat.zero_le _
  | succ x ih =>
    simp only [wnf]
    split
    · exact fo_le ih (cl_le ..)
    · exact ih
theorem wns_le {T S : Nat → Nat} {t s : Nat} (hT : ∀ x, T x ≤ 60) : ∀ x, wns T S t s x ≤ 60 * (x + 1) := by
  intro x
  induction x with
  | zero => simp only [wns]; have := hT t; omega
  | succ x ih =>
    simp only [wns]
    have := hT x
    split <;> omega
/-- WHY NOT -/
def wn (n C : Nat) (T B A J S : Nat → Nat) (t s : Nat) : Nat := if C < wns T S t s n then fo (wnf B A J S t s n) 3 else wnf B A J S t s n
theorem wn_le (n C : Nat) (T B A J S : Nat → Nat) (t s : Nat) : wn n C T B A J S t s ≤ 5 := by unfold wn; split; exact fo_le (wnf_le ..) (by omega); exact wnf_le ..
def cnt (P : Nat → Bool) : Nat → Nat
  | 0 => 0
  | n + 1 => cnt P n + (P n).toNat
theorem cnt_le (P : Nat → Bool) : ∀ n, cnt P n ≤ n := by
  intro n
  induction n with
  | zero => exact Nat.le_refl _
  | succ n ih => simp only [cnt]; have := Bool.toNat_le (P n); omega
def fl0 (n C : Nat) (T : Nat → Nat) : Nat := ru (tsum T (2 ^ n - 1) n) C
def fl1 (n C : Nat) (T : Nat → Nat) : Nat := cnt (fun x => decide (C < 2 * T x)) n + ru (cnt (fun x => decide (2 * T x = C)) n) 2
def fl2 (n C : Nat) (T B : Nat → Nat) : Nat := ru (mx (fun x => tsum T (aa_r B n (B x) n ||| 2 ^ x) n) n) C
section PL
variable {h : hc_H} {p n C : Nat} {T B A J S : Nat → Nat}
theorem c_P_firstOf {a b : Nat} (ha : a < 100) (hb : b < 100) : MA M_P_firstOf [.int (nI a), .int (nI b)] h (some (.int (nI (fo a b)))) h := by
  refine MX.of (lv := [some (.int (nI a)), some (.int (nI b))]) 0 rfl (by decide) (Nat.le_of_ble_eq_true rfl) (sn_P_firstOf_0 _ _ _ ?_)
  simp only [vc_P_firstOf_0, vc_P_firstOf_8, vc_P_firstOf_12, qi_push, qi_pushl, qi_iload, qi_lload, qi_aload, qi_istore, qi_astore, qi_lstore, qi_iinc, qi_iadd, qi_isub, qi_imul, qi_iand, qi_ior, qi_ixor, qi_ishl, qi_ishr, qi_iushr, qi_idiv, qi_irem, qi_lor, qi_lmul, qi_ladd, qi_lsub, qi_land, qi_lshl, qi_lshr, qi_i2l, qi_l2i, qi_i2c, qi_lcmp, qi_dup, qi_dup2, qi_pop, qi_if_eq, qi_icmp_eq, qi_if_ne, qi_icmp_ne, qi_if_lt, qi_icmp_lt, qi_if_ge, qi_icmp_ge, qi_if_gt, qi_icmp_gt, qi_if_le, qi_icmp_le, qi_sw, qi_get, qi_put, qi_iald, qi_lald, qi_aald, qi_iast, qi_zast, qi_cast, qi_last, qi_aast, qi_alen, qi_new, qi_newa, qi_newq, qi_obj, qi_invS, qi_invV, qi_invI, qi_iret, qi_zret, qi_lret, qi_vret, qi_acopy, qi_max, qi_min, at_o, at_i, at_l, at_q, at_a, lget, lset, lclr, lnon, lnth, spl, shrt, rpush, true_and, and_true, List.set, List.length, Nat.reduceAdd, Nat.reduceLT, Nat.reduceLeDiff, Nat.reduceEqDiff, Nat.reduceSub]
  rw [← nI_0, nI_eq (by omega) (by omega), nI_eq (by omega) (by omega), ni_min (by omega) (by omega), nI_add]
  refine ⟨fun c => ?_, fun c => ⟨fun c2 => ?_, fun c2 => ?_⟩⟩
  · rw [fo, if_pos (Or.inl c)]
  · rw [fo, if_neg (fun q => q.elim c c2)]
  · rw [fo, if_pos (Or.inr c2)]
theorem c_P_clash (hp : isPl h p n (nI C) T B A J S) (hw : pw n T B A J S) {t s x : Nat} (ht : t < 12) (hx : x < 12) (hs : s < 100) : MA M_P_clash [.ref p, .int (nI t), .int (nI s), .int (nI x)] h (some (.int (nI (cl B A J S t s x)))) h := by
  have hS := hw.2.2.2.2.2 x
  have e0 := hp.1
  have e5 := hp.2.2.2.2.2
  have c42 : vc_P_clash_42 (some (.int (nI (cl B A J S t s x)))) h (cx hc_tt M_P_clash h h (some (.int (nI (cl B A J S t s x))))) [some (.ref p), some (.int (nI t)), some (.int (nI s)), some (.int (nI x)), none] [] h ∨ ((B t).testBit x = true ∧ s < S x) ∨ ((B x).testBit t = true ∧ S x < s) := by
    by_cases q1 : (B t).testBit x = true ∧ s < S x
    · exact Or.inr (Or.inl q1)
    by_cases q2 : (B x).testBit t = true ∧ S x < s
    · exact Or.inr (Or.inr q2)
    refine Or.inl ?_
    simp only [vc_P_clash_42, qi_push, qi_pushl, qi_iload, qi_lload, qi_aload, qi_istore, qi_astore, qi_lstore, qi_iinc, qi_iadd, qi_isub, qi_imul, qi_iand, qi_ior, qi_ixor, qi_ishl, qi_ishr, qi_iushr, qi_idiv, qi_irem, qi_lor, qi_lmul, qi_ladd, qi_lsub, qi_land, qi_lshl, qi_lshr, qi_i2l, qi_l2i, qi_i2c, qi_lcmp, qi_dup, qi_dup2, qi_pop, qi_if_eq, qi_icmp_eq, qi_if_ne, qi_icmp_ne, qi_if_lt, qi_icmp_lt, qi_if_ge, qi_icmp_ge, qi_if_gt, qi_icmp_gt, qi_if_le, qi_icmp_le, qi_sw, qi_get, qi_put, qi_iald, qi_lald, qi_aald, qi_iast, qi_zast, qi_cast, qi_last, qi_aast, qi_alen, qi_new, qi_newa, qi_newq, qi_obj, qi_invS, qi_invV, qi_invI, qi_iret, qi_zret, qi_lret, qi_vret, qi_acopy, qi_max, qi_min, at_o, at_i, at_l, at_q, at_a, lget, lset, lclr, lnon, lnth, spl, shrt, rpush, true_and, and_true, List.set, List.length, Nat.reduceAdd, Nat.reduceLT, Nat.reduceLeDiff, Nat.reduceEqDiff, Nat.reduceSub, e0]
    refine ⟨_, _, c_P_zoneOf hp hw ht hx, ?_⟩
    simp only [vc_P_clash_68, vc_P_clash_88, vc_P_clash_89, qi_push, qi_pushl, qi_iload, qi_lload, qi_aload, qi_istore, qi_astore, qi_lstore, qi_iinc, qi_iadd, qi_isub, qi_imul, qi_iand, qi_ior, qi_ixor, qi_ishl, qi_ishr, qi_iushr, qi_idiv, qi_irem, qi_lor, qi_lmul, qi_ladd, qi_lsub, qi_land, qi_lshl, qi_lshr, qi_i2l, qi_l2i, qi_i2c, qi_lcmp, qi_dup, qi_dup2, qi_pop, qi_if_eq, qi_icmp_eq, qi_if_ne, qi_icmp_ne, qi_if_lt, qi_icmp_lt, qi_if_ge, qi_icmp_ge, qi_if_gt, qi_icmp_gt, qi_if_le, qi_icmp_le, qi_sw, qi_get, qi_put, qi_iald, qi_lald, qi_aald, qi_iast, qi_zast, qi_cast, qi_last, qi_aast, qi_alen, qi_new, qi_newa, qi_newq, qi_obj, qi_invS, qi_invV, qi_invI, qi_iret, qi_zret, qi_lret, qi_vret, qi_acopy, qi_max, qi_min, at_o, at_i, at_l, at_q, at_a, lget, lset, lclr, lnon, lnth, spl, shrt, rpush, true_and, and_true, List.set, List.length, Nat.reduceAdd, Nat.reduceLT, Nat.reduceLeDiff, Nat.reduceEqDiff, Nat.reduceSub, e0, e5]
    have e : ∀ k, k < 100 → (nI (if (A t).testBit x then 1 else if (J t).testBit x then 2 else 0) = nI k ↔ (if (A t).testBit x then 1 else if (J t).testBit x then 2 else 0) = k) := fun k hk => nI_eq (by split <;> (try split) <;> omega) (by omega)
    rw [e 1 (by omega), e 2 (by omega), nI_clamp (by omega), nI_eq (by omega) (by omega)]
    have hv : vp_in (nI x) 12 := vp_in_nI hx (by omega)
    unfold cl
    rw [if_neg q1, if_neg q2]
    cases hA : (A t).testBit x <;> cases hJ : (J t).testBit x <;> by_cases hS0 : S x = s <;> simp [hS0, hv]
  refine MX.of (lv := [some (.ref p), some (.int (nI t)), some (.int (nI s)), some (.int (nI x)), none]) 1 rfl (by decide) (Nat.le_of_ble_eq_true rfl) (sn_P_clash_0 _ _ _ ?_)
  simp only [vc_P_clash_0, qi_push, qi_pushl, qi_iload, qi_lload, qi_aload, qi_istore, qi_astore, qi_lstore, qi_iinc, qi_iadd, qi_isub, qi_imul, qi_iand, qi_ior, qi_ixor, qi_ishl, qi_ishr, qi_iushr, qi_idiv, qi_irem, qi_lor, qi_lmul, qi_ladd, qi_lsub, qi_land, qi_lshl, qi_lshr, qi_i2l, qi_l2i, qi_i2c, qi_lcmp, qi_dup, qi_dup2, qi_pop, qi_if_eq, qi_icmp_eq, qi_if_ne, qi_icmp_ne, qi_if_lt, qi_icmp_lt, qi_if_ge, qi_icmp_ge, qi_if_gt, qi_icmp_gt, qi_if_le, qi_icmp_le, qi_sw, qi_get, qi_put, qi_iald, qi_lald, qi_aald, qi_iast, qi_zast, qi_cast, qi_last, qi_aast, qi_alen, qi_new, qi_newa, qi_newq, qi_obj, qi_invS, qi_invV, qi_invI, qi_iret, qi_zret, qi_lret, qi_vret, qi_acopy, qi_max, qi_min, at_o, at_i, at_l, at_q, at_a, lget, lset, lclr, lnon, lnth, spl, shrt, rpush, true_and, and_true, List.set, List.length, Nat.reduceAdd, Nat.reduceLT, Nat.reduceLeDiff, Nat.reduceEqDiff, Nat.reduceSub, e0]
  refine ⟨_, _, c_P_isBehind hp hw ht (by omega), ?_⟩
  simp only [vc_P_clash_21, qi_push, qi_pushl, qi_iload, qi_lload, qi_aload, qi_istore, qi_astore, qi_lstore, qi_iinc, qi_iadd, qi_isub, qi_imul, qi_iand, qi_ior, qi_ixor, qi_ishl, qi_ishr, qi_iushr, qi_idiv, qi_irem, qi_lor, qi_lmul, qi_ladd, qi_lsub, qi_land, qi_lshl, qi_lshr, qi_i2l, qi_l2i, qi_i2c, qi_lcmp, qi_dup, qi_dup2, qi_pop, qi_if_eq, qi_icmp_eq, qi_if_ne, qi_icmp_ne, qi_if_lt, qi_icmp_lt, qi_if_ge, qi_icmp_ge, qi_if_gt, qi_icmp_gt, qi_if_le, qi_icmp_le, qi_sw, qi_get, qi_put, qi_iald, qi_lald, qi_aald, qi_iast, qi_zast, qi_cast, qi_last, qi_aast, qi_alen, qi_new, qi_newa, qi_newq, qi_obj, qi_invS, qi_invV, qi_invI, qi_iret, qi_zret, qi_lret, qi_vret, qi_acopy, qi_max, qi_min, at_o, at_i, at_l, at_q, at_a, lget, lset, lclr, lnon, lnth, spl, shrt, rpush, true_and, and_true, List.set, List.length, Nat.reduceAdd, Nat.reduceLT, Nat.reduceLeDiff, Nat.reduceEqDiff, Nat.reduceSub, e0, e5, nb_eq0, nb_ne0]
  have hv : vp_in (nI x) 12 := vp_in_nI hx (by omega)
  have k21 : (¬ ((B t).testBit x = true ∧ s < S x)) → (∃ r' h', MX hc_tt M_P_isBehind [.ref p, .int (nI x), .int (nI t)] h r' h' ∧ qi_if_eq (vc_P_clash_42 (some (.int (nI (cl B A J S t s x)))) h (cx hc_tt M_P_clash h h (some (.int (nI (cl B A J S t s x)))))) (qi_aload 0 (qi_get 2 6 (qi_iload 3 (qi_iald 0 (qi_iload 2 (qi_icmp_ge (vc_P_clash_42 (some (.int (nI (cl B A J S t s x)))) h (cx hc_tt M_P_clash h h (some (.int (nI (cl B A J S t s x)))))) (qi_push (nI 2) (qi_iret (some (.int (nI (cl B A J S t s x)))) h)))))))) [some (.ref p), some (.int (nI t)), some (.int (nI s)), some (.int (nI x)), none] (rpush r' []) h') := by
    intro q1
    refine ⟨_, _, c_P_isBehind hp hw hx (by omega), ?_⟩
    simp only [qi_push, qi_pushl, qi_iload, qi_lload, qi_aload, qi_istore, qi_astore, qi_lstore, qi_iinc, qi_iadd, qi_isub, qi_imul, qi_iand, qi_ior, qi_ixor, qi_ishl, qi_ishr, qi_iushr, qi_idiv, qi_irem, qi_lor, qi_lmul, qi_ladd, qi_lsub, qi_land, qi_lshl, qi_lshr, qi_i2l, qi_l2i, qi_i2c, qi_lcmp, qi_dup, qi_dup2, qi_pop, qi_if_eq, qi_icmp_eq, qi_if_ne, qi_icmp_ne, qi_if_lt, qi_icmp_lt, qi_if_ge, qi_icmp_ge, qi_if_gt, qi_icmp_gt, qi_if_le, qi_icmp_le, qi_sw, qi_get, qi_put, qi_iald, qi_lald, qi_aald, qi_iast, qi_zast, qi_cast, qi_last, qi_aast, qi_alen, qi_new, qi_newa, qi_newq, qi_obj, qi_invS, qi_invV, qi_invI, qi_iret, qi_zret, qi_lret, qi_vret, qi_acopy, qi_max, qi_min, at_o, at_i, at_l, at_q, at_a, lget, lset, lclr, lnon, lnth, spl, shrt, rpush, true_and, and_true, List.set, List.length, Nat.reduceAdd, Nat.reduceLT, Nat.reduceLeDiff, Nat.reduceEqDiff, Nat.reduceSub, e0, e5, nb_eq0, nb_ne0]
    refine ⟨fun c => ?_, fun c => ⟨hv, ?_⟩⟩
    · rcases c42 with k | k | k
      · exact k
      · exact absurd k q1
      · rw [c] at k; exact absurd k.1 (by decide)
    · rw [nI_clamp (by omega), nI_leI (by omega) (by omega)]
      refine ⟨fun c2 => ?_, fun c2 => ?_⟩
      · rcases c42 with k | k | k
        · exact k
        · exact absurd k q1
        · exact absurd k.2 (by omega)
      · unfold cl; rw [if_neg q1, if_pos ⟨by simpa using c, by omega⟩]
  refine ⟨fun c => k21 (fun q => by rw [c] at q; exact absurd q.1 (by decide)), fun c => ⟨hv, ?_⟩⟩
  rw [nI_clamp (by omega), nI_leI (by omega) (by omega)]
  refine ⟨fun c2 => k21 (fun q => by omega), fun c2 => ?_⟩
  unfold cl; rw [if_pos ⟨by simpa using c, by omega⟩]
theorem c_P_whyNot (hp : isPl h p n (nI C) T B A J S) (hw : pw n T B A J S) (hC : C < 1000) {t s : Nat} (ht : t < 12) (hs : s < 100) : MA M_P_whyNot [.ref p, .int (nI t), .int (nI s)] h (some (.int (nI (wn n C T B A J S t s)))) h := by
  have hn := hw.1
  obtain ⟨e0, e1, e2, e3, e4, e5⟩ := id hp
  have loop := lp_up (P := fun x => cx hc_tt M_P_whyNot h h (some (.int (nI (wn n C T B A J S t s)))) 13 [some (.ref p), some (.int (nI t)), some (.int (nI s)), some (.int (nI (wnf B A J S t s x))), some (.int (nI (wns T S t s x))), some (.int (nI x))] [] h) (n := n)
    (by refine sn_P_whyNot_13 _ _ _ ?_
        simp only [vc_P_whyNot_13, vc_P_whyNot_84, vc_P_whyNot_101, vc_P_whyNot_102, qi_push, qi_pushl, qi_iload, qi_lload, qi_aload, qi_istore, qi_astore, qi_lstore, qi_iinc, qi_iadd, qi_isub, qi_imul, qi_iand, qi_ior, qi_ixor, qi_ishl, qi_ishr, qi_iushr, qi_idiv, qi_irem, qi_lor, qi_lmul, qi_ladd, qi_lsub, qi_land, qi_lshl, qi_lshr, qi_i2l, qi_l2i, qi_i2c, qi_lcmp, qi_dup, qi_dup2, qi_pop, qi_if_eq, qi_icmp_eq, qi_if_ne, qi_icmp_ne, qi_if_lt, qi_icmp_lt, qi_if_ge, qi_icmp_ge, qi_if_gt, qi_icmp_gt, qi_if_le, qi_icmp_le, qi_sw, qi_get, qi_put, qi_iald, qi_lald, qi_aald, qi_iast, qi_zast, qi_cast, qi_last, qi_aast, qi_alen, qi_new, qi_newa, qi_newq, qi_obj, qi_invS, qi_invV, qi_invI, qi_iret, qi_zret, qi_lret, qi_vret, qi_acopy, qi_max, qi_min, at_o, at_i, at_l, at_q, at_a, lget, lset, lclr, lnon, lnth, spl, shrt, rpush, true_and, and_true, List.set, List.length, Nat.reduceAdd, Nat.reduceLT, Nat.reduceLeDiff, Nat.reduceEqDiff, Nat.reduceSub, e0]
        refine ⟨fun _ => ?_, fun c => absurd (nI_le (by omega) (by omega)) c⟩
        have l1 := wns_le (S := S) (t := t) (s := s) hw.2.1 n
        have l2 := wnf_le B A J S t s n
        rw [nI_leI (by omega) (by omega)]
        refine ⟨fun c => ?_, fun c => ⟨_, _, c_P_firstOf (by omega) (by omega), ?_⟩⟩
        · rw [wn, if_neg (by omega)]
        · simp only [qi_push, qi_pushl, qi_iload, qi_lload, qi_aload, qi_istore, qi_astore, qi_lstore, qi_iinc, qi_iadd, qi_isub, qi_imul, qi_iand, qi_ior, qi_ixor, qi_ishl, qi_ishr, qi_iushr, qi_idiv, qi_irem, qi_lor, qi_lmul, qi_ladd, qi_lsub, qi_land, qi_lshl, qi_lshr, qi_i2l, qi_l2i, qi_i2c, qi_lcmp, qi_dup, qi_dup2, qi_pop, qi_if_eq, qi_icmp_eq, qi_if_ne, qi_icmp_ne, qi_if_lt, qi_icmp_lt, qi_if_ge, qi_icmp_ge, qi_if_gt, qi_icmp_gt, qi_if_le, qi_icmp_le, qi_sw, qi_get, qi_put, qi_iald, qi_lald, qi_aald, qi_iast, qi_zast, qi_cast, qi_last, qi_aast, qi_alen, qi_new, qi_newa, qi_newq, qi_obj, qi_invS, qi_invV, qi_invI, qi_iret, qi_zret, qi_lret, qi_vret, qi_acopy, qi_max, qi_min, at_o, at_i, at_l, at_q, at_a, lget, lset, lclr, lnon, lnth, spl, shrt, rpush, true_and, and_true, List.set, List.length, Nat.reduceAdd, Nat.reduceLT, Nat.reduceLeDiff, Nat.reduceEqDiff, Nat.reduceSub]
          rw [wn, if_pos (by omega)])
    (fun x hx ih => by
        refine sn_P_whyNot_13 _ _ _ ?_
        simp only [vc_P_whyNot_13, vc_P_whyNot_78, qi_push, qi_pushl, qi_iload, qi_lload, qi_aload, qi_istore, qi_astore, qi_lstore, qi_iinc, qi_iadd, qi_isub, qi_imul, qi_iand, qi_ior, qi_ixor, qi_ishl, qi_ishr, qi_iushr, qi_idiv, qi_irem, qi_lor, qi_lmul, qi_ladd, qi_lsub, qi_land, qi_lshl, qi_lshr, qi_i2l, qi_l2i, qi_i2c, qi_lcmp, qi_dup, qi_dup2, qi_pop, qi_if_eq, qi_icmp_eq, qi_if_ne, qi_icmp_ne, qi_if_lt, qi_icmp_lt, qi_if_ge, qi_icmp_ge, qi_if_gt, qi_icmp_gt, qi_if_le, qi_icmp_le, qi_sw, qi_get, qi_put, qi_iald, qi_lald, qi_aald, qi_iast, qi_zast, qi_cast, qi_last, qi_aast, qi_alen, qi_new, qi_newa, qi_newq, qi_obj, qi_invS, qi_invV, qi_invI, qi_iret, qi_zret, qi_lret, qi_vret, qi_acopy, qi_max, qi_min, at_o, at_i, at_l, at_q, at_a, lget, lset, lclr, lnon, lnth, spl, shrt, rpush, true_and, and_true, List.set, List.length, Nat.reduceAdd, Nat.reduceLT, Nat.reduceLeDiff, Nat.reduceEqDiff, Nat.reduceSub, e0, e5, e1]
        have hv : vp_in (nI x) 12 := vp_in_nI (by omega) (by omega)
        have lS := hw.2.2.2.2.2 x
        have l2 := wnf_le B A J S t s x
        have l3 := cl_le B A J S t s x
        refine ⟨fun c => absurd c (nI_ge hx (by omega)), fun _ => ?_⟩
        rw [nI_eq (by omega) (by omega), nI_clamp (by omega), ← nI_0, nI_eq (by omega) (by omega), nI_add]
        simp only [wnf, wns] at ih
        refine ⟨fun c => ?_, fun c => ⟨hv, fun c2 => ?_, fun c2 => ⟨_, _, c_P_clash hp hw ht (by omega) hs, ?_⟩⟩⟩
        · rw [if_neg (fun q => q.1 c), if_neg (fun q => q.1 c)] at ih; exact ih
        · rw [if_neg (fun q => q.2 c2), if_neg (fun q => q.2.1 c2)] at ih; exact ih
        · simp only [qi_push, qi_pushl, qi_iload, qi_lload, qi_aload, qi_istore, qi_astore, qi_lstore, qi_iinc, qi_iadd, qi_isub, qi_imul, qi_iand, qi_ior, qi_ixor, qi_ishl, qi_ishr, qi_iushr, qi_idiv, qi_irem, qi_lor, qi_lmul, qi_ladd, qi_lsub, qi_land, qi_lshl, qi_lshr, qi_i2l, qi_l2i, qi_i2c, qi_lcmp, qi_dup, qi_dup2, qi_pop, qi_if_eq, qi_icmp_eq, qi_if_ne, qi_icmp_ne, qi_if_lt, qi_icmp_lt, qi_if_ge, qi_icmp_ge, qi_if_gt, qi_icmp_gt, qi_if_le, qi_icmp_le, qi_sw, qi_get, qi_put, qi_iald, qi_lald, qi_aald, qi_iast, qi_zast, qi_cast, qi_last, qi_aast, qi_alen, qi_new, qi_newa, qi_newq, qi_obj, qi_invS, qi_invV, qi_invI, qi_iret, qi_zret, qi_lret, qi_vret, qi_acopy, qi_max, qi_min, at_o, at_i, at_l, at_q, at_a, lget, lset, lclr, lnon, lnth, spl, shrt, rpush, true_and, and_true, List.set, List.length, Nat.reduceAdd, Nat.reduceLT, Nat.reduceLeDiff, Nat.reduceEqDiff, Nat.reduceSub]
          refine ⟨_, _, c_P_firstOf (by omega) (by omega), ?_⟩
          simp only [vc_P_whyNot_74, vc_P_whyNot_75, vc_P_whyNot_78, qi_push, qi_pushl, qi_iload, qi_lload, qi_aload, qi_istore, qi_astore, qi_lstore, qi_iinc, qi_iadd, qi_isub, qi_imul, qi_iand, qi_ior, qi_ixor, qi_ishl, qi_ishr, qi_iushr, qi_idiv, qi_irem, qi_lor, qi_lmul, qi_ladd, qi_lsub, qi_land, qi_lshl, qi_lshr, qi_i2l, qi_l2i, qi_i2c, qi_lcmp, qi_dup, qi_dup2, qi_pop, qi_if_eq, qi_icmp_eq, qi_if_ne, qi_icmp_ne, qi_if_lt, qi_icmp_lt, qi_if_ge, qi_icmp_ge, qi_if_gt, qi_icmp_gt, qi_if_le, qi_icmp_le, qi_sw, qi_get, qi_put, qi_iald, qi_lald, qi_aald, qi_iast, qi_zast, qi_cast, qi_last, qi_aast, qi_alen, qi_new, qi_newa, qi_newq, qi_obj, qi_invS, qi_invV, qi_invI, qi_iret, qi_zret, qi_lret, qi_vret, qi_acopy, qi_max, qi_min, at_o, at_i, at_l, at_q, at_a, lget, lset, lclr, lnon, lnth, spl, shrt, rpush, true_and, and_true, List.set, List.length, Nat.reduceAdd, Nat.reduceLT, Nat.reduceLeDiff, Nat.reduceEqDiff, Nat.reduceSub, e0, e5, e1]
          rw [nI_clamp (by omega), nI_eq (by omega) (by omega), nI_add, nI_add, nI_add]
          rw [if_pos ⟨c, c2⟩] at ih
          refine ⟨hv, fun c3 => ?_, fun c3 => ⟨hv, ?_⟩⟩
          · rw [if_neg (fun q => c3 q.2.2)] at ih; exact ih
          · rw [if_pos ⟨c, c2, c3⟩] at ih; exact ih)
  refine MX.of (lv := [some (.ref p), some (.int (nI t)), some (.int (nI s)), none, none, none]) 3 rfl (by decide) (Nat.le_of_ble_eq_true rfl) (sn_P_whyNot_0 _ _ _ ?_)
  simp only [vc_P_whyNot_0, qi_push, qi_pushl, qi_iload, qi_lload, qi_aload, qi_istore, qi_astore, qi_lstore, qi_iinc, qi_iadd, qi_isub, qi_imul, qi_iand, qi_ior, qi_ixor, qi_ishl, qi_ishr, qi_iushr, qi_idiv, qi_irem, qi_lor, qi_lmul, qi_ladd, qi_lsub, qi_land, qi_lshl, qi_lshr, qi_i2l, qi_l2i, qi_i2c, qi_lcmp, qi_dup, qi_dup2, qi_pop, qi_if_eq, qi_icmp_eq, qi_if_ne, qi_icmp_ne, qi_if_lt, qi_icmp_lt, qi_if_ge, qi_icmp_ge, qi_if_gt, qi_icmp_gt, qi_if_le, qi_icmp_le, qi_sw, qi_get, qi_put, qi_iald, qi_lald, qi_aald, qi_iast, qi_zast, qi_cast, qi_last, qi_aast, qi_alen, qi_new, qi_newa, qi_newq, qi_obj, qi_invS, qi_invV, qi_invI, qi_iret, qi_zret, qi_lret, qi_vret, qi_acopy, qi_max, qi_min, at_o, at_i, at_l, at_q, at_a, lget, lset, lclr, lnon, lnth, spl, shrt, rpush, true_and, and_true, List.set, List.length, Nat.reduceAdd, Nat.reduceLT, Nat.reduceLeDiff, Nat.reduceEqDiff, Nat.reduceSub, e0, e1]
  refine ⟨vp_in_nI ht (by omega), ?_⟩
  rw [nI_clamp (by omega)]
  exact loop 0 (Nat.zero_le _)
theorem tsum_small (hw : pw n T B A J S) (s : Nat) : tsum T s n ≤ 720 := by
  have := tsum_le (f := T) (s := s) (b := 60) n (fun x _ => hw.2.1 x)
  have := hw.1
  omega
theorem c_P_floorOfAllTimes (hp : isPl h p n (nI C) T B A J S) (hw : pw n T B A J S) (hC : C < 1000) (h0 : 0 < C) : MA M_P_floorOfAllTimes [.ref p] h (some (.int (nI (fl0 n C T)))) h := by
  refine MX.of (lv := [some (.ref p)]) 0 rfl (by decide) (Nat.le_of_ble_eq_true rfl) (sn_P_floorOfAllTimes_0 _ _ _ ?_)
  simp only [vc_P_floorOfAllTimes_0, qi_push, qi_pushl, qi_iload, qi_lload, qi_aload, qi_istore, qi_astore, qi_lstore, qi_iinc, qi_iadd, qi_isub, qi_imul, qi_iand, qi_ior, qi_ixor, qi_ishl, qi_ishr, qi_iushr, qi_idiv, qi_irem, qi_lor, qi_lmul, qi_ladd, qi_lsub, qi_land, qi_lshl, qi_lshr, qi_i2l, qi_l2i, qi_i2c, qi_lcmp, qi_dup, qi_dup2, qi_pop, qi_if_eq, qi_icmp_eq, qi_if_ne, qi_icmp_ne, qi_if_lt, qi_icmp_lt, qi_if_ge, qi_icmp_ge, qi_if_gt, qi_icmp_gt, qi_if_le, qi_icmp_le, qi_sw, qi_get, qi_put, qi_iald, qi_lald, qi_aald, qi_iast, qi_zast, qi_cast, qi_last, qi_aast, qi_alen, qi_new, qi_newa, qi_newq, qi_obj, qi_invS, qi_invV, qi_invI, qi_iret, qi_zret, qi_lret, qi_vret, qi_acopy, qi_max, qi_min, at_o, at_i, at_l, at_q, at_a, lget, lset, lclr, lnon, lnth, spl, shrt, rpush, true_and, and_true, List.set, List.length, Nat.reduceAdd, Nat.reduceLT, Nat.reduceLeDiff, Nat.reduceEqDiff, Nat.reduceSub, hp.1]
  refine ⟨_, _, c_P_total hp hw.1, ?_⟩
  simp only [qi_push, qi_pushl, qi_iload, qi_lload, qi_aload, qi_istore, qi_astore, qi_lstore, qi_iinc, qi_iadd, qi_isub, qi_imul, qi_iand, qi_ior, qi_ixor, qi_ishl, qi_ishr, qi_iushr, qi_idiv, qi_irem, qi_lor, qi_lmul, qi_ladd, qi_lsub, qi_land, qi_lshl, qi_lshr, qi_i2l, qi_l2i, qi_i2c, qi_lcmp, qi_dup, qi_dup2, qi_pop, qi_if_eq, qi_icmp_eq, qi_if_ne, qi_icmp_ne, qi_if_lt, qi_icmp_lt, qi_if_ge, qi_icmp_ge, qi_if_gt, qi_icmp_gt, qi_if_le, qi_icmp_le, qi_sw, qi_get, qi_put, qi_iald, qi_lald, qi_aald, qi_iast, qi_zast, qi_cast, qi_last, qi_aast, qi_alen, qi_new, qi_newa, qi_newq, qi_obj, qi_invS, qi_invV, qi_invI, qi_iret, qi_zret, qi_lret, qi_vret, qi_acopy, qi_max, qi_min, at_o, at_i, at_l, at_q, at_a, lget, lset, lclr, lnon, lnth, spl, shrt, rpush, true_and, and_true, List.set, List.length, Nat.reduceAdd, Nat.reduceLT, Nat.reduceLeDiff, Nat.reduceEqDiff, Nat.reduceSub, hp.1]
  refine ⟨_, _, c_P_roundedUp (by have := tsum_small hw (2 ^ n - 1); omega) (by omega) h0, ?_⟩
  simp only [qi_push, qi_pushl, qi_iload, qi_lload, qi_aload, qi_istore, qi_astore, qi_lstore, qi_iinc, qi_iadd, qi_isub, qi_imul, qi_iand, qi_ior, qi_ixor, qi_ishl, qi_ishr, qi_iushr, qi_idiv, qi_irem, qi_lor, qi_lmul, qi_ladd, qi_lsub, qi_land, qi_lshl, qi_lshr, qi_i2l, qi_l2i, qi_i2c, qi_lcmp, qi_dup, qi_dup2, qi_pop, qi_if_eq, qi_icmp_eq, qi_if_ne, qi_icmp_ne, qi_if_lt, qi_icmp_lt, qi_if_ge, qi_icmp_ge, qi_if_gt, qi_icmp_gt, qi_if_le, qi_icmp_le, qi_sw, qi_get, qi_put, qi_iald, qi_lald, qi_aald, qi_iast, qi_zast, qi_cast, qi_last, qi_aast, qi_alen, qi_new, qi_newa, qi_newq, qi_obj, qi_invS, qi_invV, qi_invI, qi_iret, qi_zret, qi_lret, qi_vret, qi_acopy, qi_max, qi_min, at_o, at_i, at_l, at_q, at_a, lget, lset, lclr, lnon, lnth, spl, shrt, rpush, true_and, and_true, List.set, List.length, Nat.reduceAdd, Nat.reduceLT, Nat.reduceLeDiff, Nat.reduceEqDiff, Nat.reduceSub]
  rfl
theorem c_P_floorOfHalves (hp : isPl h p n (nI C) T B A J S) (hw : pw n T B A J S) (hC : C < 1000) : MA M_P_floorOfHalves [.ref p] h (some (.int (nI (fl1 n C T)))) h := by
  have hn := hw.1
  obtain ⟨e0, e1, -⟩ := id hp
  have loop := lp_up (P := fun x => cx hc_tt M_P_floorOfHalves h h (some (.int (nI (fl1 n C T)))) 6 [some (.ref p), some (.int (nI (cnt (fun x => decide (C < 2 * T x)) x))), some (.int (nI (cnt (fun x => decide (2 * T x = C)) x))), some (.int (nI x))] [] h) (n := n)
    (by refine sn_P_floorOfHalves_6 _ _ _ ?_
        simp only [vc_P_floorOfHalves_6, vc_P_floorOfHalves_66, qi_push, qi_pushl, qi_iload, qi_lload, qi_aload, qi_istore, qi_astore, qi_lstore, qi_iinc, qi_iadd, qi_isub, qi_imul, qi_iand, qi_ior, qi_ixor, qi_ishl, qi_ishr, qi_iushr, qi_idiv, qi_irem, qi_lor, qi_lmul, qi_ladd, qi_lsub, qi_land, qi_lshl, qi_lshr, qi_i2l, qi_l2i, qi_i2c, qi_lcmp, qi_dup, qi_dup2, qi_pop, qi_if_eq, qi_icmp_eq, qi_if_ne, qi_icmp_ne, qi_if_lt, qi_icmp_lt, qi_if_ge, qi_icmp_ge, qi_if_gt, qi_icmp_gt, qi_if_le, qi_icmp_le, qi_sw, qi_get, qi_put, qi_iald, qi_lald, qi_aald, qi_iast, qi_zast, qi_cast, qi_last, qi_aast, qi_alen, qi_new, qi_newa, qi_newq, qi_obj, qi_invS, qi_invV, qi_invI, qi_iret, qi_zret, qi_lret, qi_vret, qi_acopy, qi_max, qi_min, at_o, at_i, at_l, at_q, at_a, lget, lset, lclr, lnon, lnth, spl, shrt, rpush, true_and, and_true, List.set, List.length, Nat.reduceAdd, Nat.reduceLT, Nat.reduceLeDiff, Nat.reduceEqDiff, Nat.reduceSub, e0]
        have l1 := cnt_le (fun x => decide (2 * T x = C)) n
        refine ⟨fun _ => ⟨_, _, c_P_roundedUp (by omega) (by omega) (by omega), ?_⟩, fun c => absurd (nI_le (by omega) (by omega)) c⟩
        simp only [qi_push, qi_pushl, qi_iload, qi_lload, qi_aload, qi_istore, qi_astore, qi_lstore, qi_iinc, qi_iadd, qi_isub, qi_imul, qi_iand, qi_ior, qi_ixor, qi_ishl, qi_ishr, qi_iushr, qi_idiv, qi_irem, qi_lor, qi_lmul, qi_ladd, qi_lsub, qi_land, qi_lshl, qi_lshr, qi_i2l, qi_l2i, qi_i2c, qi_lcmp, qi_dup, qi_dup2, qi_pop, qi_if_eq, qi_icmp_eq, qi_if_ne, qi_icmp_ne, qi_if_lt, qi_icmp_lt, qi_if_ge, qi_icmp_ge, qi_if_gt, qi_icmp_gt, qi_if_le, qi_icmp_le, qi_sw, qi_get, qi_put, qi_iald, qi_lald, qi_aald, qi_iast, qi_zast, qi_cast, qi_last, qi_aast, qi_alen, qi_new, qi_newa, qi_newq, qi_obj, qi_invS, qi_invV, qi_invI, qi_iret, qi_zret, qi_lret, qi_vret, qi_acopy, qi_max, qi_min, at_o, at_i, at_l, at_q, at_a, lget, lset, lclr, lnon, lnth, spl, shrt, rpush, true_and, and_true, List.set, List.length, Nat.reduceAdd, Nat.reduceLT, Nat.reduceLeDiff, Nat.reduceEqDiff, Nat.reduceSub]
        rw [nI_add]
        rfl)
    (fun x hx ih => by
        refine sn_P_floorOfHalves_6 _ _ _ ?_
        simp only [vc_P_floorOfHalves_6, vc_P_floorOfHalves_34, vc_P_floorOfHalves_35, vc_P_floorOfHalves_57, vc_P_floorOfHalves_58, qi_push, qi_pushl, qi_iload, qi_lload, qi_aload, qi_istore, qi_astore, qi_lstore, qi_iinc, qi_iadd, qi_isub, qi_imul, qi_iand, qi_ior, qi_ixor, qi_ishl, qi_ishr, qi_iushr, qi_idiv, qi_irem, qi_lor, qi_lmul, qi_ladd, qi_lsub, qi_land, qi_lshl, qi_lshr, qi_i2l, qi_l2i, qi_i2c, qi_lcmp, qi_dup, qi_dup2, qi_pop, qi_if_eq, qi_icmp_eq, qi_if_ne, qi_icmp_ne, qi_if_lt, qi_icmp_lt, qi_if_ge, qi_icmp_ge, qi_if_gt, qi_icmp_gt, qi_if_le, qi_icmp_le, qi_sw, qi_get, qi_put, qi_iald, qi_lald, qi_aald, qi_iast, qi_zast, qi_cast, qi_last, qi_aast, qi_alen, qi_new, qi_newa, qi_newq, qi_obj, qi_invS, qi_invV, qi_invI, qi_iret, qi_zret, qi_lret, qi_vret, qi_acopy, qi_max, qi_min, at_o, at_i, at_l, at_q, at_a, lget, lset, lclr, lnon, lnth, spl, shrt, rpush, true_and, and_true, List.set, List.length, Nat.reduceAdd, Nat.reduceLT, Nat.reduceLeDiff, Nat.reduceEqDiff, Nat.reduceSub, e0, e1]
        have hv : vp_in (nI x) 12 := vp_in_nI (by omega) (by omega)
        have lT := hw.2.1 x
        refine ⟨fun c => absurd c (nI_ge hx (by omega)), fun _ => ⟨hv, ?_⟩⟩
        rw [nI_clamp (by omega), pk_mul, nI_leI (by omega) (by omega), nI_eq (by omega) (by omega)]
        simp only [nI_add]
        simp only [cnt] at ih
        refine ⟨fun c => ⟨hv, fun c2 => ?_, fun c2 => ?_⟩, fun c => ⟨hv, fun c2 => ?_, fun c2 => ?_⟩⟩
        · rw [decide_eq_false (by omega), decide_eq_false c2] at ih; exact ih
        · rw [decide_eq_false (by omega), decide_eq_true c2] at ih; exact ih
        · rw [decide_eq_true (by omega), decide_eq_false c2] at ih; exact ih
        · rw [decide_eq_true (by omega), decide_eq_true c2] at ih; exact ih)
  refine MX.of (lv := [some (.ref p), none, none, none]) 3 rfl (by decide) (Nat.le_of_ble_eq_true rfl) (sn_P_floorOfHalves_0 _ _ _ ?_)
  simp only [vc_P_floorOfHalves_0, qi_push, qi_pushl, qi_iload, qi_lload, qi_aload, qi_istore, qi_astore, qi_lstore, qi_iinc, qi_iadd, qi_isub, qi_imul, qi_iand, qi_ior, qi_ixor, qi_ishl, qi_ishr, qi_iushr, qi_idiv, qi_irem, qi_lor, qi_lmul, qi_ladd, qi_lsub, qi_land, qi_lshl, qi_lshr, qi_i2l, qi_l2i, qi_i2c, qi_lcmp, qi_dup, qi_dup2, qi_pop, qi_if_eq, qi_icmp_eq, qi_if_ne, qi_icmp_ne, qi_if_lt, qi_icmp_lt, qi_if_ge, qi_icmp_ge, qi_if_gt, qi_icmp_gt, qi_if_le, qi_icmp_le, qi_sw, qi_get, qi_put, qi_iald, qi_lald, qi_aald, qi_iast, qi_zast, qi_cast, qi_last, qi_aast, qi_alen, qi_new, qi_newa, qi_newq, qi_obj, qi_invS, qi_invV, qi_invI, qi_iret, qi_zret, qi_lret, qi_vret, qi_acopy, qi_max, qi_min, at_o, at_i, at_l, at_q, at_a, lget, lset, lclr, lnon, lnth, spl, shrt, rpush, true_and, and_true, List.set, List.length, Nat.reduceAdd, Nat.reduceLT, Nat.reduceLeDiff, Nat.reduceEqDiff, Nat.reduceSub]
  exact loop 0 (Nat.zero_le _)
theorem c_P_floorOfChains (hp : isPl h p n (nI C) T B A J S) (hw : pw n T B A J S) (hC : C < 1000) (h0 : 0 < C) : MA M_P_floorOfChains [.ref p] h (some (.int (nI (fl2 n C T B)))) h := by
  have hn := hw.1
  obtain ⟨e0, -⟩ := id hp
  have lm : ∀ x, mx (fun x => tsum T (aa_r B n (B x) n ||| 2 ^ x) n) x ≤ 720 := mx_le (fun x => tsum_small hw _)
  have loop := lp_up (P := fun x => cx hc_tt M_P_floorOfChains h h (some (.int (nI (fl2 n C T B)))) 4 [some (.ref p), some (.int (nI (mx (fun x => tsum T (aa_r B n (B x) n ||| 2 ^ x) n) x))), some (.int (nI x))] [] h) (n := n)
    (by refine sn_P_floorOfChains_4 _ _ _ ?_
        simp only [vc_P_floorOfChains_4, vc_P_floorOfChains_36, qi_push, qi_pushl, qi_iload, qi_lload, qi_aload, qi_istore, qi_astore, qi_lstore, qi_iinc, qi_iadd, qi_isub, qi_imul, qi_iand, qi_ior, qi_ixor, qi_ishl, qi_ishr, qi_iushr, qi_idiv, qi_irem, qi_lor, qi_lmul, qi_ladd, qi_lsub, qi_land, qi_lshl, qi_lshr, qi_i2l, qi_l2i, qi_i2c, qi_lcmp, qi_dup, qi_dup2, qi_pop, qi_if_eq, qi_icmp_eq, qi_if_ne, qi_icmp_ne, qi_if_lt, qi_icmp_lt, qi_if_ge, qi_icmp_ge, qi_if_gt, qi_icmp_gt, qi_if_le, qi_icmp_le, qi_sw, qi_get, qi_put, qi_iald, qi_lald, qi_aald, qi_iast, qi_zast, qi_cast, qi_last, qi_aast, qi_alen, qi_new, qi_newa, qi_newq, qi_obj, qi_invS, qi_invV, qi_invI, qi_iret, qi_zret, qi_lret, qi_vret, qi_acopy, qi_max, qi_min, at_o, at_i, at_l, at_q, at_a, lget, lset, lclr, lnon, lnth, spl, shrt, rpush, true_and, and_true, List.set, List.length, Nat.reduceAdd, Nat.reduceLT, Nat.reduceLeDiff, Nat.reduceEqDiff, Nat.reduceSub, e0]
        refine ⟨fun _ => ⟨_, _, c_P_roundedUp (by have := lm n; omega) (by omega) h0, ?_⟩, fun c => absurd (nI_le (by omega) (by omega)) c⟩
        simp only [qi_push, qi_pushl, qi_iload, qi_lload, qi_aload, qi_istore, qi_astore, qi_lstore, qi_iinc, qi_iadd, qi_isub, qi_imul, qi_iand, qi_ior, qi_ixor, qi_ishl, qi_ishr, qi_iushr, qi_idiv, qi_irem, qi_lor, qi_lmul, qi_ladd, qi_lsub, qi_land, qi_lshl, qi_lshr, qi_i2l, qi_l2i, qi_i2c, qi_lcmp, qi_dup, qi_dup2, qi_pop, qi_if_eq, qi_icmp_eq, qi_if_ne, qi_icmp_ne, qi_if_lt, qi_icmp_lt, qi_if_ge, qi_icmp_ge, qi_if_gt, qi_icmp_gt, qi_if_le, qi_icmp_le, qi_sw, qi_get, qi_put, qi_iald, qi_lald, qi_aald, qi_iast, qi_zast, qi_cast, qi_last, qi_aast, qi_alen, qi_new, qi_newa, qi_newq, qi_obj, qi_invS, qi_invV, qi_invI, qi_iret, qi_zret, qi_lret, qi_vret, qi_acopy, qi_max, qi_min, at_o, at_i, at_l, at_q, at_a, lget, lset, lclr, lnon, lnth, spl, shrt, rpush, true_and, and_true, List.set, List.length, Nat.reduceAdd, Nat.reduceLT, Nat.reduceLeDiff, Nat.reduceEqDiff, Nat.reduceSub]
        rfl)
    (fun x hx ih => by
        refine sn_P_floorOfChains_4 _ _ _ ?_
        simp only [vc_P_floorOfChains_4, qi_push, qi_pushl, qi_iload, qi_lload, qi_aload, qi_istore, qi_astore, qi_lstore, qi_iinc, qi_iadd, qi_isub, qi_imul, qi_iand, qi_ior, qi_ixor, qi_ishl, qi_ishr, qi_iushr, qi_idiv, qi_irem, qi_lor, qi_lmul, qi_ladd, qi_lsub, qi_land, qi_lshl, qi_lshr, qi_i2l, qi_l2i, qi_i2c, qi_lcmp, qi_dup, qi_dup2, qi_pop, qi_if_eq, qi_icmp_eq, qi_if_ne, qi_icmp_ne, qi_if_lt, qi_icmp_lt, qi_if_ge, qi_icmp_ge, qi_if_gt, qi_icmp_gt, qi_if_le, qi_icmp_le, qi_sw, qi_get, qi_put, qi_iald, qi_lald, qi_aald, qi_iast, qi_zast, qi_cast, qi_last, qi_aast, qi_alen, qi_new, qi_newa, qi_newq, qi_obj, qi_invS, qi_invV, qi_invI, qi_iret, qi_zret, qi_lret, qi_vret, qi_acopy, qi_max, qi_min, at_o, at_i, at_l, at_q, at_a, lget, lset, lclr, lnon, lnth, spl, shrt, rpush, true_and, and_true, List.set, List.length, Nat.reduceAdd, Nat.reduceLT, Nat.reduceLeDiff, Nat.reduceEqDiff, Nat.reduceSub, e0]
        refine ⟨fun c => absurd c (nI_ge hx (by omega)), fun _ => ⟨_, _, c_P_allAhead hp hw (by omega), ?_⟩⟩
        simp only [qi_push, qi_pushl, qi_iload, qi_lload, qi_aload, qi_istore, qi_astore, qi_lstore, qi_iinc, qi_iadd, qi_isub, qi_imul, qi_iand, qi_ior, qi_ixor, qi_ishl, qi_ishr, qi_iushr, qi_idiv, qi_irem, qi_lor, qi_lmul, qi_ladd, qi_lsub, qi_land, qi_lshl, qi_lshr, qi_i2l, qi_l2i, qi_i2c, qi_lcmp, qi_dup, qi_dup2, qi_pop, qi_if_eq, qi_icmp_eq, qi_if_ne, qi_icmp_ne, qi_if_lt, qi_icmp_lt, qi_if_ge, qi_icmp_ge, qi_if_gt, qi_icmp_gt, qi_if_le, qi_icmp_le, qi_sw, qi_get, qi_put, qi_iald, qi_lald, qi_aald, qi_iast, qi_zast, qi_cast, qi_last, qi_aast, qi_alen, qi_new, qi_newa, qi_newq, qi_obj, qi_invS, qi_invV, qi_invI, qi_iret, qi_zret, qi_lret, qi_vret, qi_acopy, qi_max, qi_min, at_o, at_i, at_l, at_q, at_a, lget, lset, lclr, lnon, lnth, spl, shrt, rpush, true_and, and_true, List.set, List.length, Nat.reduceAdd, Nat.reduceLT, Nat.reduceLeDiff, Nat.reduceEqDiff, Nat.reduceSub, e0]
        rw [ni_1shl (by omega), ni_or]
        have lx := aa_r_lt hw.2.2.1 (n := n) (hw.2.2.1 x) n
        refine ⟨_, _, c_P_timeOf hp hn (by have := or_lt (k := 12) lx (pow_lt12 (x := x) (by omega)); omega), ?_⟩
        simp only [qi_push, qi_pushl, qi_iload, qi_lload, qi_aload, qi_istore, qi_astore, qi_lstore, qi_iinc, qi_iadd, qi_isub, qi_imul, qi_iand, qi_ior, qi_ixor, qi_ishl, qi_ishr, qi_iushr, qi_idiv, qi_irem, qi_lor, qi_lmul, qi_ladd, qi_lsub, qi_land, qi_lshl, qi_lshr, qi_i2l, qi_l2i, qi_i2c, qi_lcmp, qi_dup, qi_dup2, qi_pop, qi_if_eq, qi_icmp_eq, qi_if_ne, qi_icmp_ne, qi_if_lt, qi_icmp_lt, qi_if_ge, qi_icmp_ge, qi_if_gt, qi_icmp_gt, qi_if_le, qi_icmp_le, qi_sw, qi_get, qi_put, qi_iald, qi_lald, qi_aald, qi_iast, qi_zast, qi_cast, qi_last, qi_aast, qi_alen, qi_new, qi_newa, qi_newq, qi_obj, qi_invS, qi_invV, qi_invI, qi_iret, qi_zret, qi_lret, qi_vret, qi_acopy, qi_max, qi_min, at_o, at_i, at_l, at_q, at_a, lget, lset, lclr, lnon, lnth, spl, shrt, rpush, true_and, and_true, List.set, List.length, Nat.reduceAdd, Nat.reduceLT, Nat.reduceLeDiff, Nat.reduceEqDiff, Nat.reduceSub]
        rw [ni_max (by have := lm x; omega) (by have := tsum_small hw (aa_r B n (B x) n ||| 2 ^ x); omega), nI_add]
        exact ih)
  refine MX.of (lv := [some (.ref p), none, none]) 2 rfl (by decide) (Nat.le_of_ble_eq_true rfl) (sn_P_floorOfChains_0 _ _ _ ?_)
  simp only [vc_P_floorOfChains_0, qi_push, qi_pushl, qi_iload, qi_lload, qi_aload, qi_istore, qi_astore, qi_lstore, qi_iinc, qi_iadd, qi_isub, qi_imul, qi_iand, qi_ior, qi_ixor, qi_ishl, qi_ishr, qi_iushr, qi_idiv, qi_irem, qi_lor, qi_lmul, qi_ladd, qi_lsub, qi_land, qi_lshl, qi_lshr, qi_i2l, qi_l2i, qi_i2c, qi_lcmp, qi_dup, qi_dup2, qi_pop, qi_if_eq, qi_icmp_eq, qi_if_ne, qi_icmp_ne, qi_if_lt, qi_icmp_lt, qi_if_ge, qi_icmp_ge, qi_if_gt, qi_icmp_gt, qi_if_le, qi_icmp_le, qi_sw, qi_get, qi_put, qi_iald, qi_lald, qi_aald, qi_iast, qi_zast, qi_cast, qi_last, qi_aast, qi_alen, qi_new, qi_newa, qi_newq, qi_obj, qi_invS, qi_invV, qi_invI, qi_iret, qi_zret, qi_lret, qi_vret, qi_acopy, qi_max, qi_min, at_o, at_i, at_l, at_q, at_a, lget, lset, lclr, lnon, lnth, spl, shrt, rpush, true_and, and_true, List.set, List.length, Nat.reduceAdd, Nat.reduceLT, Nat.reduceLeDiff, Nat.reduceEqDiff, Nat.reduceSub]
  exact loop 0 (Nat.zero_le _)
theorem ru_le {s d : Nat} (h : 0 < d) : ru s d ≤ s := by
  unfold ru
  rw [Nat.div_le_iff_le_mul_add_pred h]
  have : s ≤ d * s := Nat.le_mul_of_pos_left s h
  omega
theorem c_P_highestFloor (hp : isPl h p n (nI C) T B A J S) (hw : pw n T B A J S) (hC : C < 1000) (h0 : 0 < C) : MA M_P_highestFloor [.ref p] h (some (.int (nI (max (fl0 n C T) (max (fl1 n C T) (fl2 n C T B)))))) h := by
  have l0 : fl0 n C T ≤ 720 := Nat.le_trans (ru_le h0) (tsum_small hw _)
  have l1 : fl1 n C T ≤ 24 := by
    have := cnt_le (fun x => decide (C < 2 * T x)) n
    have := ru_le (s := cnt (fun x => decide (2 * T x = C)) n) (d := 2) (by omega)
    have := cnt_le (fun x => decide (2 * T x = C)) n
    have := hw.1
    unfold fl1
    omega
  have l2 : fl2 n C T B ≤ 720 := Nat.le_trans (ru_le h0) (mx_le (fun x => tsum_small hw _) n)
  refine MX.of (lv := [some (.ref p)]) 0 rfl (by decide) (Nat.le_of_ble_eq_true rfl) (sn_P_highestFloor_0 _ _ _ ?_)
  simp only [vc_P_highestFloor_0, qi_push, qi_pushl, qi_iload, qi_lload, qi_aload, qi_istore, qi_astore, qi_lstore, qi_iinc, qi_iadd, qi_isub, qi_imul, qi_iand, qi_ior, qi_ixor, qi_ishl, qi_ishr, qi_iushr, qi_idiv, qi_irem, qi_lor, qi_lmul, qi_ladd, qi_lsub, qi_land, qi_lshl, qi_lshr, qi_i2l, qi_l2i, qi_i2c, qi_lcmp, qi_dup, qi_dup2, qi_pop, qi_if_eq, qi_icmp_eq, qi_if_ne, qi_icmp_ne, qi_if_lt, qi_icmp_lt, qi_if_ge, qi_icmp_ge, qi_if_gt, qi_icmp_gt, qi_if_le, qi_icmp_le, qi_sw, qi_get, qi_put, qi_iald, qi_lald, qi_aald, qi_iast, qi_zast, qi_cast, qi_last, qi_aast, qi_alen, qi_new, qi_newa, qi_newq, qi_obj, qi_invS, qi_invV, qi_invI, qi_iret, qi_zret, qi_lret, qi_vret, qi_acopy, qi_max, qi_min, at_o, at_i, at_l, at_q, at_a, lget, lset, lclr, lnon, lnth, spl, shrt, rpush, true_and, and_true, List.set, List.length, Nat.reduceAdd, Nat.reduceLT, Nat.reduceLeDiff, Nat.reduceEqDiff, Nat.reduceSub, hp.1]
  refine ⟨_, _, c_P_floorOfAllTimes hp hw hC h0, ?_⟩
  simp only [qi_push, qi_pushl, qi_iload, qi_lload, qi_aload, qi_istore, qi_astore, qi_lstore, qi_iinc, qi_iadd, qi_isub, qi_imul, qi_iand, qi_ior, qi_ixor, qi_ishl, qi_ishr, qi_iushr, qi_idiv, qi_irem, qi_lor, qi_lmul, qi_ladd, qi_lsub, qi_land, qi_lshl, qi_lshr, qi_i2l, qi_l2i, qi_i2c, qi_lcmp, qi_dup, qi_dup2, qi_pop, qi_if_eq, qi_icmp_eq, qi_if_ne, qi_icmp_ne, qi_if_lt, qi_icmp_lt, qi_if_ge, qi_icmp_ge, qi_if_gt, qi_icmp_gt, qi_if_le, qi_icmp_le, qi_sw, qi_get, qi_put, qi_iald, qi_lald, qi_aald, qi_iast, qi_zast, qi_cast, qi_last, qi_aast, qi_alen, qi_new, qi_newa, qi_newq, qi_obj, qi_invS, qi_invV, qi_invI, qi_iret, qi_zret, qi_lret, qi_vret, qi_acopy, qi_max, qi_min, at_o, at_i, at_l, at_q, at_a, lget, lset, lclr, lnon, lnth, spl, shrt, rpush, true_and, and_true, List.set, List.length, Nat.reduceAdd, Nat.reduceLT, Nat.reduceLeDiff, Nat.reduceEqDiff, Nat.reduceSub, hp.1]
  refine ⟨_, _, c_P_floorOfHalves hp hw hC, ?_⟩
  simp only [qi_push, qi_pushl, qi_iload, qi_lload, qi_aload, qi_istore, qi_astore, qi_lstore, qi_iinc, qi_iadd, qi_isub, qi_imul, qi_iand, qi_ior, qi_ixor, qi_ishl, qi_ishr, qi_iushr, qi_idiv, qi_irem, qi_lor, qi_lmul, qi_ladd, qi_lsub, qi_land, qi_lshl, qi_lshr, qi_i2l, qi_l2i, qi_i2c, qi_lcmp, qi_dup, qi_dup2, qi_pop, qi_if_eq, qi_icmp_eq, qi_if_ne, qi_icmp_ne, qi_if_lt, qi_icmp_lt, qi_if_ge, qi_icmp_ge, qi_if_gt, qi_icmp_gt, qi_if_le, qi_icmp_le, qi_sw, qi_get, qi_put, qi_iald, qi_lald, qi_aald, qi_iast, qi_zast, qi_cast, qi_last, qi_aast, qi_alen, qi_new, qi_newa, qi_newq, qi_obj, qi_invS, qi_invV, qi_invI, qi_iret, qi_zret, qi_lret, qi_vret, qi_acopy, qi_max, qi_min, at_o, at_i, at_l, at_q, at_a, lget, lset, lclr, lnon, lnth, spl, shrt, rpush, true_and, and_true, List.set, List.length, Nat.reduceAdd, Nat.reduceLT, Nat.reduceLeDiff, Nat.reduceEqDiff, Nat.reduceSub, hp.1]
  refine ⟨_, _, c_P_floorOfChains hp hw hC h0, ?_⟩
  simp only [qi_push, qi_pushl, qi_iload, qi_lload, qi_aload, qi_istore, qi_astore, qi_lstore, qi_iinc, qi_iadd, qi_isub, qi_imul, qi_iand, qi_ior, qi_ixor, qi_ishl, qi_ishr, qi_iushr, qi_idiv, qi_irem, qi_lor, qi_lmul, qi_ladd, qi_lsub, qi_land, qi_lshl, qi_lshr, qi_i2l, qi_l2i, qi_i2c, qi_lcmp, qi_dup, qi_dup2, qi_pop, qi_if_eq, qi_icmp_eq, qi_if_ne, qi_icmp_ne, qi_if_lt, qi_icmp_lt, qi_if_ge, qi_icmp_ge, qi_if_gt, qi_icmp_gt, qi_if_le, qi_icmp_le, qi_sw, qi_get, qi_put, qi_iald, qi_lald, qi_aald, qi_iast, qi_zast, qi_cast, qi_last, qi_aast, qi_alen, qi_new, qi_newa, qi_newq, qi_obj, qi_invS, qi_invV, qi_invI, qi_iret, qi_zret, qi_lret, qi_vret, qi_acopy, qi_max, qi_min, at_o, at_i, at_l, at_q, at_a, lget, lset, lclr, lnon, lnth, spl, shrt, rpush, true_and, and_true, List.set, List.length, Nat.reduceAdd, Nat.reduceLT, Nat.reduceLeDiff, Nat.reduceEqDiff, Nat.reduceSub]
  rw [ni_max (by omega) (by omega), ni_max (by omega) (by omega)]
end PL
