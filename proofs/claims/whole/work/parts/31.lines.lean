/-! LINES: its picture; room, fixing, fitting. -/
abbrev ii (n : Nat) (f : Nat → Nat) : Option hc_C := some (.inl (0, n, .inl (fun j => nI (f j))))
abbrev ll (n : Nat) (f : Nat → Nat) : Option hc_C := some (.inl (2, n, .inr (.inl (fun j => lN (f j)))))
abbrev lnO (a fx wh : Nat) (c : Int32) (us : Nat) : hc_C := .inr (0, [.ref (a + 3), .ref (a + 4), .ref (a + 5), .ref (a + 6), .ref (a + 7), .ref (a + 8), .ref (a + 9), .ref (a + 10), .ref (a + 11), .ref (a + 12), .ref (a + 1), .ref (a + 2), .int (nI fx), .int (nI wh), .int c, .int (nI us)])
/-- LINES at a: rows of N; F 1 heldAt, F 2 fixedIn, F 3 sums, F 4 wants, F 5 mates, F 6 foes, F 7 needs, F 8 levels, F 9 ways, F 10 isCovered; G 0 places, G 1 spread -/
def isLn (h : hc_H) (a N fx wh : Nat) (c : Int32) (us : Nat) (F G : Nat → Nat → Nat) : Prop :=
  h.1 a = some (lnO a fx wh c us) ∧ h.1 (a + 1) = ii 13 (F 1) ∧ h.1 (a + 2) = ii 14 (F 2) ∧ h.1 (a + 3) = ii N (F 3) ∧ h.1 (a + 4) = ii N (F 4) ∧ h.1 (a + 5) = ii N (F 5) ∧ h.1 (a + 6) = ii N (F 6) ∧ h.1 (a + 7) = ii N (F 7) ∧ h.1 (a + 8) = ii N (F 8) ∧ h.1 (a + 9) = ii N (F 9) ∧ h.1 (a + 10) = some (.inl (1, N, .inl (fun j => nI (F 10 j)))) ∧ h.1 (a + 11) = ll N (G 0) ∧ h.1 (a + 12) = ll N (G 1)
theorem isLn.keep {h h' : hc_H} {a N fx wh us b k : Nat} {c : Int32} {F G : Nat → Nat → Nat} (hp : isLn h a N fx wh c us F G) (f : frm h h' b k) (hd : a + 13 ≤ b ∨ b + k ≤ a) : isLn h' a N fx wh c us F G := by
  obtain ⟨e0, e1, e2, e3, e4, e5, e6, e7, e8, e9, e10, e11, e12⟩ := hp
  refine ⟨?_, ?_, ?_, ?_, ?_, ?_, ?_, ?_, ?_, ?_, ?_, ?_, ?_⟩ <;> rw [f.2 _ (by omega)] <;> assumption
section LN
variable {h : hc_H} {a N fx wh us : Nat} {c : Int32} {F G : Nat → Nat → Nat}
theorem isLn.setO {fx' wh' us' : Nat} {c' : Int32} (hp : isLn h a N fx wh c us F G) : isLn (hc_set h a (lnO a fx' wh' c' us')) a N fx' wh' c' us' F G := by
  obtain ⟨e0, e1, e2, e3, e4, e5, e6, e7, e8, e9, e10, e11, e12⟩ := hp
  refine ⟨hs_eq _ _ _, ?_, ?_, ?_, ?_, ?_, ?_, ?_, ?_, ?_, ?_, ?_, ?_⟩ <;> rw [hs_ne _ _ (by omega)] <;> assumption
/-- one of the rows 2 to 9 written anew -/
theorem isLn.set1 {f : Nat → Nat} (hp : isLn h a N fx wh c us F G) : isLn (hc_set h (a + 1) (.inl (0, 13, .inl (fun j => nI (f j))))) a N fx wh c us (va_up F 1 f) G := by
  obtain ⟨e0, e1, e2, e3, e4, e5, e6, e7, e8, e9, e10, e11, e12⟩ := hp
  refine ⟨?_, hs_eq _ _ _, ?_, ?_, ?_, ?_, ?_, ?_, ?_, ?_, ?_, ?_, ?_⟩ <;> rw [hs_ne _ _ (by omega)] <;> assumption
theorem isLn.set2 {f : Nat → Nat} (hp : isLn h a N fx wh c us F G) : isLn (hc_set h (a + 2) (.inl (0, 14, .inl (fun j => nI (f j))))) a N fx wh c us (va_up F 2 f) G := by
  obtain ⟨e0, e1, e2, e3, e4, e5, e6, e7, e8, e9, e10, e11, e12⟩ := hp
  refine ⟨?_, ?_, hs_eq _ _ _, ?_, ?_, ?_, ?_, ?_, ?_, ?_, ?_, ?_, ?_⟩ <;> rw [hs_ne _ _ (by omega)] <;> assumption
theorem isLn.set3 {f : Nat → Nat} (hp : isLn h a N fx wh c us F G) : isLn (hc_set h (a + 3) (.inl (0, N, .inl (fun j => nI (f j))))) a N fx wh c us (va_up F 3 f) G := by
  obtain ⟨e0, e1, e2, e3, e4, e5, e6, e7, e8, e9, e10, e11, e12⟩ := hp
  refine ⟨?_, ?_, ?_, hs_eq _ _ _, ?_, ?_, ?_, ?_, ?_, ?_, ?_, ?_, ?_⟩ <;> rw [hs_ne _ _ (by omega)] <;> assumption
theorem isLn.set4 {f : Nat → Nat} (hp : isLn h a N fx wh c us F G) : isLn (hc_set h (a + 4) (.inl (0, N, .inl (fun j => nI (f j))))) a N fx wh c us (va_up F 4 f) G := by
  obtain ⟨e0, e1, e2, e3, e4, e5, e6, e7, e8, e9, e10, e11, e12⟩ := hp
  refine ⟨?_, ?_, ?_, ?_, hs_eq _ _ _, ?_, ?_, ?_, ?_, ?_, ?_, ?_, ?_⟩ <;> rw [hs_ne _ _ (by omega)] <;> assumption
theorem isLn.set5 {f : Nat → Nat} (hp : isLn h a N fx wh c us F G) : isLn (hc_set h (a + 5) (.inl (0, N, .inl (fun j => nI (f j))))) a N fx wh c us (va_up F 5 f) G := by
  obtain ⟨e0, e1, e2, e3, e4, e5, e6, e7, e8, e9, e10, e11, e12⟩ := hp
  refine ⟨?_, ?_, ?_, ?_, ?_, hs_eq _ _ _, ?_, ?_, ?_, ?_, ?_, ?_, ?_⟩ <;> rw [hs_ne _ _ (by omega)] <;> assumption
theorem isLn.set6 {f : Nat → Nat} (hp : isLn h a N fx wh c us F G) : isLn (hc_set h (a + 6) (.inl (0, N, .inl (fun j => nI (f j))))) a N fx wh c us (va_up F 6 f) G := by
  obtain ⟨e0, e1, e2, e3, e4, e5, e6, e7, e8, e9, e10, e11, e12⟩ := hp
  refine ⟨?_, ?_, ?_, ?_, ?_, ?_, hs_eq _ _ _, ?_, ?_, ?_, ?_, ?_, ?_⟩ <;> rw [hs_ne _ _ (by omega)] <;> assumption
theorem isLn.set7 {f : Nat → Nat} (hp : isLn h a N fx wh c us F G) : isLn (hc_set h (a + 7) (.inl (0, N, .inl (fun j => nI (f j))))) a N fx wh c us (va_up F 7 f) G := by
  obtain ⟨e0, e1, e2, e3, e4, e5, e6, e7, e8, e9, e10, e11, e12⟩ := hp
  refine ⟨?_, ?_, ?_, ?_, ?_, ?_, ?_, hs_eq _ _ _, ?_, ?_, ?_, ?_, ?_⟩ <;> rw [hs_ne _ _ (by omega)] <;> assumption
theorem isLn.set8 {f : Nat → Nat} (hp : isLn h a N fx wh c us F G) : isLn (hc_set h (a + 8) (.inl (0, N, .inl (fun j => nI (f j))))) a N fx wh c us (va_up F 8 f) G := by
  obtain ⟨e0, e1, e2, e3, e4, e5, e6, e7, e8, e9, e10, e11, e12⟩ := hp
  refine ⟨?_, ?_, ?_, ?_, ?_, ?_, ?_, ?_, hs_eq _ _ _, ?_, ?_, ?_, ?_⟩ <;> rw [hs_ne _ _ (by omega)] <;> assumption
theorem isLn.set9 {f : Nat → Nat} (hp : isLn h a N fx wh c us F G) : isLn (hc_set h (a + 9) (.inl (0, N, .inl (fun j => nI (f j))))) a N fx wh c us (va_up F 9 f) G := by
  obtain ⟨e0, e1, e2, e3, e4, e5, e6, e7, e8, e9, e10, e11, e12⟩ := hp
  refine ⟨?_, ?_, ?_, ?_, ?_, ?_, ?_, ?_, ?_, hs_eq _ _ _, ?_, ?_, ?_⟩ <;> rw [hs_ne _ _ (by omega)] <;> assumption
theorem isLn.setC {f : Nat → Nat} (hp : isLn h a N fx wh c us F G) : isLn (hc_set h (a + 10) (.inl (1, N, .inl (fun j => nI (f j))))) a N fx wh c us (va_up F 10 f) G := by
  obtain ⟨e0, e1, e2, e3, e4, e5, e6, e7, e8, e9, e10, e11, e12⟩ := hp
  refine ⟨?_, ?_, ?_, ?_, ?_, ?_, ?_, ?_, ?_, ?_, hs_eq _ _ _, ?_, ?_⟩ <;> rw [hs_ne _ _ (by omega)] <;> assumption
theorem isLn.setP {f : Nat → Nat} (hp : isLn h a N fx wh c us F G) : isLn (hc_set h (a + 11) (.inl (2, N, .inr (.inl (fun j => lN (f j)))))) a N fx wh c us F (va_up G 0 f) := by
  obtain ⟨e0, e1, e2, e3, e4, e5, e6, e7, e8, e9, e10, e11, e12⟩ := hp
  refine ⟨?_, ?_, ?_, ?_, ?_, ?_, ?_, ?_, ?_, ?_, ?_, hs_eq _ _ _, ?_⟩ <;> rw [hs_ne _ _ (by omega)] <;> assumption
theorem isLn.setQ {f : Nat → Nat} (hp : isLn h a N fx wh c us F G) : isLn (hc_set h (a + 12) (.inl (2, N, .inr (.inl (fun j => lN (f j)))))) a N fx wh c us F (va_up G 1 f) := by
  obtain ⟨e0, e1, e2, e3, e4, e5, e6, e7, e8, e9, e10, e11, e12⟩ := hp
  refine ⟨?_, ?_, ?_, ?_, ?_, ?_, ?_, ?_, ?_, ?_, ?_, ?_, hs_eq _ _ _⟩ <;> rw [hs_ne _ _ (by omega)] <;> assumption
theorem updL_lN (f : Nat → Nat) (k v : Nat) : vp_updL (fun j => lN (f j)) k (lN v) = fun j => lN (va_up f k v j) := by
  funext j
  unfold vp_updL va_up
  by_cases h : j = k <;> simp [h]
theorem hs_4 (h : hc_H) {a b : Nat} (x y x' y' : hc_C) (n : b ≠ a) : hc_set (hc_set (hc_set (hc_set h b x) a y) b x') a y' = hc_set (hc_set h b x') a y' := by
  rw [hs_comm (hc_set h b x) y x' (Ne.symm n), hs_hs, hs_hs]
theorem hi_c {h : hc_H} {a k n : Nat} {f g : Nat → Nat} (e : ∀ j, f j = g j) : hc_set h a (.inl (k, n, .inl (fun j => nI (f j)))) = hc_set h a (.inl (k, n, .inl (fun j => nI (g j)))) := by rw [funext e]
theorem c_L_hasRoomFor (hp : isLn h a N fx wh c us F G) (hN : N ≤ 4096) {n : Nat} (hn : n ≤ 12) : MA M_L_hasRoomFor [.ref a, .int (nI n)] h (some (.int (nI (decide (2 ^ n ≤ N)).toNat))) h := by
  obtain ⟨e0, e1, e2, e3, -⟩ := id hp
  refine MX.of (lv := [some (.ref a), some (.int (nI n))]) 0 rfl (by decide) (Nat.le_of_ble_eq_true rfl) (sn_L_hasRoomFor_0 _ _ _ ?_)
  simp only [vc_L_hasRoomFor_0, vc_L_hasRoomFor_15, vc_L_hasRoomFor_16, qi_push, qi_pushl, qi_iload, qi_lload, qi_aload, qi_istore, qi_astore, qi_lstore, qi_iinc, qi_iadd, qi_isub, qi_imul, qi_iand, qi_ior, qi_ixor, qi_ishl, qi_ishr, qi_iushr, qi_idiv, qi_irem, qi_lor, qi_lmul, qi_ladd, qi_lsub, qi_land, qi_lshl, qi_lshr, qi_i2l, qi_l2i, qi_i2c, qi_lcmp, qi_dup, qi_dup2, qi_pop, qi_if_eq, qi_icmp_eq, qi_if_ne, qi_icmp_ne, qi_if_lt, qi_icmp_lt, qi_if_ge, qi_icmp_ge, qi_if_gt, qi_icmp_gt, qi_if_le, qi_icmp_le, qi_sw, qi_get, qi_put, qi_iald, qi_lald, qi_aald, qi_iast, qi_zast, qi_cast, qi_last, qi_aast, qi_alen, qi_new, qi_newa, qi_newq, qi_obj, qi_invS, qi_invV, qi_invI, qi_iret, qi_zret, qi_lret, qi_vret, qi_acopy, qi_max, qi_min, at_o, at_i, at_l, at_q, at_a, lget, lset, lclr, lnon, lnth, spl, shrt, rpush, true_and, and_true, List.set, List.length, Nat.reduceAdd, Nat.reduceLT, Nat.reduceLeDiff, Nat.reduceEqDiff, Nat.reduceSub, e0, e3]
  have l1 : 2 ^ n ≤ 2 ^ 12 := Nat.pow_le_pow_right (by omega) hn
  rw [ni_1shl (by omega), nI_ltI (by omega) (by omega)]
  refine ⟨fun z => ⟨Or.inl rfl, ?_⟩, fun z => ⟨Or.inr rfl, ?_⟩⟩
  · rw [decide_eq_false (by omega)]; rfl
  · rw [decide_eq_true (by omega)]; rfl
theorem c_L_placeShift {t : Nat} (ht : t < 12) : MA M_L_placeShift [.int (nI t)] h (some (.int (nI (4 * (11 - t))))) h := by
  refine MX.of (lv := [some (.int (nI t))]) 0 rfl (by decide) (Nat.le_of_ble_eq_true rfl) (sn_L_placeShift_0 _ _ _ ?_)
  simp only [vc_L_placeShift_0, qi_push, qi_pushl, qi_iload, qi_lload, qi_aload, qi_istore, qi_astore, qi_lstore, qi_iinc, qi_iadd, qi_isub, qi_imul, qi_iand, qi_ior, qi_ixor, qi_ishl, qi_ishr, qi_iushr, qi_idiv, qi_irem, qi_lor, qi_lmul, qi_ladd, qi_lsub, qi_land, qi_lshl, qi_lshr, qi_i2l, qi_l2i, qi_i2c, qi_lcmp, qi_dup, qi_dup2, qi_pop, qi_if_eq, qi_icmp_eq, qi_if_ne, qi_icmp_ne, qi_if_lt, qi_icmp_lt, qi_if_ge, qi_icmp_ge, qi_if_gt, qi_icmp_gt, qi_if_le, qi_icmp_le, qi_sw, qi_get, qi_put, qi_iald, qi_lald, qi_aald, qi_iast, qi_zast, qi_cast, qi_last, qi_aast, qi_alen, qi_new, qi_newa, qi_newq, qi_obj, qi_invS, qi_invV, qi_invI, qi_iret, qi_zret, qi_lret, qi_vret, qi_acopy, qi_max, qi_min, at_o, at_i, at_l, at_q, at_a, lget, lset, lclr, lnon, lnth, spl, shrt, rpush, true_and, and_true, List.set, List.length, Nat.reduceAdd, Nat.reduceLT, Nat.reduceLeDiff, Nat.reduceEqDiff, Nat.reduceSub]
  rw [pk_sub (by omega), pk_mul]
theorem c_L_freeAll (hp : isLn h a N fx wh c us F G) : ∃ h', MA M_L_freeAll [.ref a] h none h' ∧ isLn h' a N 0 wh c us (va_up F 2 (fun _ => 0)) G ∧ frm h h' a 13 := by
  obtain ⟨e0, e1, e2, -⟩ := id hp
  refine ⟨hc_set (hc_set h a (lnO a 0 wh c us)) (a + 2) (.inl (0, 14, .inl (fun _ => nI 0))), ?_, hp.setO.set2, (frm.rfl'.set (by omega)).set (by omega)⟩
  refine MX.of (lv := [some (.ref a)]) 0 rfl (by decide) (Nat.le_of_ble_eq_true rfl) (sn_L_freeAll_0 _ _ _ ?_)
  simp only [vc_L_freeAll_0, qi_push, qi_pushl, qi_iload, qi_lload, qi_aload, qi_istore, qi_astore, qi_lstore, qi_iinc, qi_iadd, qi_isub, qi_imul, qi_iand, qi_ior, qi_ixor, qi_ishl, qi_ishr, qi_iushr, qi_idiv, qi_irem, qi_lor, qi_lmul, qi_ladd, qi_lsub, qi_land, qi_lshl, qi_lshr, qi_i2l, qi_l2i, qi_i2c, qi_lcmp, qi_dup, qi_dup2, qi_pop, qi_if_eq, qi_icmp_eq, qi_if_ne, qi_icmp_ne, qi_if_lt, qi_icmp_lt, qi_if_ge, qi_icmp_ge, qi_if_gt, qi_icmp_gt, qi_if_le, qi_icmp_le, qi_sw, qi_get, qi_put, qi_iald, qi_lald, qi_aald, qi_iast, qi_zast, qi_cast, qi_last, qi_aast, qi_alen, qi_new, qi_newa, qi_newq, qi_obj, qi_invS, qi_invV, qi_invI, qi_iret, qi_zret, qi_lret, qi_vret, qi_acopy, qi_max, qi_min, at_o, at_i, at_l, at_q, at_a, lget, lset, lclr, lnon, lnth, spl, shrt, rpush, true_and, and_true, List.set, List.length, Nat.reduceAdd, Nat.reduceLT, Nat.reduceLeDiff, Nat.reduceEqDiff, Nat.reduceSub, e0, hs_eq]
  refine ⟨hc_fit_i, _, _, c_J_fill (n := 14) (f := fun j => nI (F 2 j)) _ (by rw [hs_ne _ _ (by omega)]; exact e2) (by omega), ?_⟩
  simp only [qi_push, qi_pushl, qi_iload, qi_lload, qi_aload, qi_istore, qi_astore, qi_lstore, qi_iinc, qi_iadd, qi_isub, qi_imul, qi_iand, qi_ior, qi_ixor, qi_ishl, qi_ishr, qi_iushr, qi_idiv, qi_irem, qi_lor, qi_lmul, qi_ladd, qi_lsub, qi_land, qi_lshl, qi_lshr, qi_i2l, qi_l2i, qi_i2c, qi_lcmp, qi_dup, qi_dup2, qi_pop, qi_if_eq, qi_icmp_eq, qi_if_ne, qi_icmp_ne, qi_if_lt, qi_icmp_lt, qi_if_ge, qi_icmp_ge, qi_if_gt, qi_icmp_gt, qi_if_le, qi_icmp_le, qi_sw, qi_get, qi_put, qi_iald, qi_lald, qi_aald, qi_iast, qi_zast, qi_cast, qi_last, qi_aast, qi_alen, qi_new, qi_newa, qi_newq, qi_obj, qi_invS, qi_invV, qi_invI, qi_iret, qi_zret, qi_lret, qi_vret, qi_acopy, qi_max, qi_min, at_o, at_i, at_l, at_q, at_a, lget, lset, lclr, lnon, lnth, spl, shrt, rpush, true_and, and_true, List.set, List.length, Nat.reduceAdd, Nat.reduceLT, Nat.reduceLeDiff, Nat.reduceEqDiff, Nat.reduceSub]
theorem c_L_fix (hp : isLn h a N fx wh c us F G) {p n : Nat} {c2 : Int32} {T B A J S : Nat → Nat} (hq : isPl h p n c2 T B A J S) (hw : pw n T B A J S) (hd : p + 6 ≤ a ∨ a + 13 ≤ p) : ∃ h' f, MA M_L_fix [.ref a, .ref p] h none h' ∧ isLn h' a N (sdf (2 ^ n - 1) (bset (fun x => S x == 0) n)) wh c us (va_up F 2 f) G ∧ frm h h' a 13 ∧ (∀ k, 1 ≤ k → k ≤ 12 → f k = bset (fun x => S x == k) n) ∧ (∀ k, ¬ (1 ≤ k ∧ k ≤ 12) → f k = F 2 k) := by
  obtain ⟨e0, e1, e2, -⟩ := id hp
  let g : Nat → Nat → Nat := fun k j => if 1 ≤ j ∧ j < k then bset (fun x => S x == j) n else F 2 j
  let hx : Nat → hc_H := fun k => hc_set (hc_set h a (lnO a (sdf (2 ^ n - 1) (bset (fun x => S x == 0) n)) wh c us)) (a + 2) (.inl (0, 14, .inl (fun j => nI (g k j))))
  have fx' : ∀ k, frm h (hx k) a 13 := fun k => (frm.rfl'.set (by omega)).set (by omega)
  have lx : ∀ k, isLn (hx k) a N (sdf (2 ^ n - 1) (bset (fun x => S x == 0) n)) wh c us (va_up F 2 (g k)) G := fun k => hp.setO.set2
  refine ⟨hx 13, g 13, ?_, lx 13, fx' 13, fun k h1 h2 => if_pos ⟨h1, by omega⟩, fun k h1 => if_neg (by omega)⟩
  have loop := lp_up (P := fun k => 1 ≤ k → cx hc_tt M_L_fix h (hx 13) none 10 [some (.ref a), some (.ref p), some (.int (nI k))] [] (hx k)) (n := 13)
    (by intro _
        refine sn_L_fix_10 _ _ _ ?_
        simp only [vc_L_fix_10, vc_L_fix_33, qi_push, qi_pushl, qi_iload, qi_lload, qi_aload, qi_istore, qi_astore, qi_lstore, qi_iinc, qi_iadd, qi_isub, qi_imul, qi_iand, qi_ior, qi_ixor, qi_ishl, qi_ishr, qi_iushr, qi_idiv, qi_irem, qi_lor, qi_lmul, qi_ladd, qi_lsub, qi_land, qi_lshl, qi_lshr, qi_i2l, qi_l2i, qi_i2c, qi_lcmp, qi_dup, qi_dup2, qi_pop, qi_if_eq, qi_icmp_eq, qi_if_ne, qi_icmp_ne, qi_if_lt, qi_icmp_lt, qi_if_ge, qi_icmp_ge, qi_if_gt, qi_icmp_gt, qi_if_le, qi_icmp_le, qi_sw, qi_get, qi_put, qi_iald, qi_lald, qi_aald, qi_iast, qi_zast, qi_cast, qi_last, qi_aast, qi_alen, qi_new, qi_newa, qi_newq, qi_obj, qi_invS, qi_invV, qi_invI, qi_iret, qi_zret, qi_lret, qi_vret, qi_acopy, qi_max, qi_min, at_o, at_i, at_l, at_q, at_a, lget, lset, lclr, lnon, lnth, spl, shrt, rpush, true_and, and_true, List.set, List.length, Nat.reduceAdd, Nat.reduceLT, Nat.reduceLeDiff, Nat.reduceEqDiff, Nat.reduceSub]
        exact ⟨fun _ => trivial, fun z => absurd (by decide) z⟩)
    (fun k hk ih h1 => by
        refine sn_L_fix_10 _ _ _ ?_
        have o0 := (lx k).1
        have o2 := (lx k).2.2.1
        have oq : isPl (hx k) p n c2 T B A J S := hq.keep (fx' k) (by omega)
        simp only [vc_L_fix_10, qi_push, qi_pushl, qi_iload, qi_lload, qi_aload, qi_istore, qi_astore, qi_lstore, qi_iinc, qi_iadd, qi_isub, qi_imul, qi_iand, qi_ior, qi_ixor, qi_ishl, qi_ishr, qi_iushr, qi_idiv, qi_irem, qi_lor, qi_lmul, qi_ladd, qi_lsub, qi_land, qi_lshl, qi_lshr, qi_i2l, qi_l2i, qi_i2c, qi_lcmp, qi_dup, qi_dup2, qi_pop, qi_if_eq, qi_icmp_eq, qi_if_ne, qi_icmp_ne, qi_if_lt, qi_icmp_lt, qi_if_ge, qi_icmp_ge, qi_if_gt, qi_icmp_gt, qi_if_le, qi_icmp_le, qi_sw, qi_get, qi_put, qi_iald, qi_lald, qi_aald, qi_iast, qi_zast, qi_cast, qi_last, qi_aast, qi_alen, qi_new, qi_newa, qi_newq, qi_obj, qi_invS, qi_invV, qi_invI, qi_iret, qi_zret, qi_lret, qi_vret, qi_acopy, qi_max, qi_min, at_o, at_i, at_l, at_q, at_a, lget, lset, lclr, lnon, lnth, spl, shrt, rpush, true_and, and_true, List.set, List.length, Nat.reduceAdd, Nat.reduceLT, Nat.reduceLeDiff, Nat.reduceEqDiff, Nat.reduceSub, o0, oq.1]
        refine ⟨fun z => absurd (nI_le (a := k) (b := 12) (by omega) (by omega)) (Int32.not_le.mpr z), fun _ => ⟨_, _, c_P_putIn oq hw (by omega), ?_⟩⟩
        simp only [qi_push, qi_pushl, qi_iload, qi_lload, qi_aload, qi_istore, qi_astore, qi_lstore, qi_iinc, qi_iadd, qi_isub, qi_imul, qi_iand, qi_ior, qi_ixor, qi_ishl, qi_ishr, qi_iushr, qi_idiv, qi_irem, qi_lor, qi_lmul, qi_ladd, qi_lsub, qi_land, qi_lshl, qi_lshr, qi_i2l, qi_l2i, qi_i2c, qi_lcmp, qi_dup, qi_dup2, qi_pop, qi_if_eq, qi_icmp_eq, qi_if_ne, qi_icmp_ne, qi_if_lt, qi_icmp_lt, qi_if_ge, qi_icmp_ge, qi_if_gt, qi_icmp_gt, qi_if_le, qi_icmp_le, qi_sw, qi_get, qi_put, qi_iald, qi_lald, qi_aald, qi_iast, qi_zast, qi_cast, qi_last, qi_aast, qi_alen, qi_new, qi_newa, qi_newq, qi_obj, qi_invS, qi_invV, qi_invI, qi_iret, qi_zret, qi_lret, qi_vret, qi_acopy, qi_max, qi_min, at_o, at_i, at_l, at_q, at_a, lget, lset, lclr, lnon, lnth, spl, shrt, rpush, true_and, and_true, List.set, List.length, Nat.reduceAdd, Nat.reduceLT, Nat.reduceLeDiff, Nat.reduceEqDiff, Nat.reduceSub, o2]
        refine ⟨vp_in_nI (by omega) (by omega), ?_⟩
        rw [nI_clamp (by omega), upd_nI, nI_add]
        have e9 : hc_set (hx k) (a + 2) (.inl (0, 14, .inl (fun j => nI (va_up (va_up F 2 (g k) 2) k (bset (fun x => S x == k) n) j)))) = hx (k + 1) := by
          show hc_set (hc_set _ _ _) _ _ = hc_set _ _ _
          rw [hs_hs]
          refine hi_c (fun j => ?_)
          show (if j = k then _ else g k j) = if 1 ≤ j ∧ j < k + 1 then _ else F 2 j
          by_cases q : j = k
          · rw [if_pos q, if_pos (by omega), q]
          · rw [if_neg q]
            show (if 1 ≤ j ∧ j < k then _ else _) = _
            by_cases q2 : 1 ≤ j ∧ j < k
            · rw [if_pos q2, if_pos (by omega)]
            · rw [if_neg q2, if_neg (by omega)]
        rw [e9]
        exact ih (by omega))
  refine MX.of (lv := [some (.ref a), some (.ref p), none]) 1 rfl (by decide) (Nat.le_of_ble_eq_true rfl) (sn_L_fix_0 _ _ _ ?_)
  simp only [vc_L_fix_0, qi_push, qi_pushl, qi_iload, qi_lload, qi_aload, qi_istore, qi_astore, qi_lstore, qi_iinc, qi_iadd, qi_isub, qi_imul, qi_iand, qi_ior, qi_ixor, qi_ishl, qi_ishr, qi_iushr, qi_idiv, qi_irem, qi_lor, qi_lmul, qi_ladd, qi_lsub, qi_land, qi_lshl, qi_lshr, qi_i2l, qi_l2i, qi_i2c, qi_lcmp, qi_dup, qi_dup2, qi_pop, qi_if_eq, qi_icmp_eq, qi_if_ne, qi_icmp_ne, qi_if_lt, qi_icmp_lt, qi_if_ge, qi_icmp_ge, qi_if_gt, qi_icmp_gt, qi_if_le, qi_icmp_le, qi_sw, qi_get, qi_put, qi_iald, qi_lald, qi_aald, qi_iast, qi_zast, qi_cast, qi_last, qi_aast, qi_alen, qi_new, qi_newa, qi_newq, qi_obj, qi_invS, qi_invV, qi_invI, qi_iret, qi_zret, qi_lret, qi_vret, qi_acopy, qi_max, qi_min, at_o, at_i, at_l, at_q, at_a, lget, lset, lclr, lnon, lnth, spl, shrt, rpush, true_and, and_true, List.set, List.length, Nat.reduceAdd, Nat.reduceLT, Nat.reduceLeDiff, Nat.reduceEqDiff, Nat.reduceSub, e0, hq.1]
  refine ⟨_, _, c_P_allPut hq hw, ?_⟩
  simp only [qi_push, qi_pushl, qi_iload, qi_lload, qi_aload, qi_istore, qi_astore, qi_lstore, qi_iinc, qi_iadd, qi_isub, qi_imul, qi_iand, qi_ior, qi_ixor, qi_ishl, qi_ishr, qi_iushr, qi_idiv, qi_irem, qi_lor, qi_lmul, qi_ladd, qi_lsub, qi_land, qi_lshl, qi_lshr, qi_i2l, qi_l2i, qi_i2c, qi_lcmp, qi_dup, qi_dup2, qi_pop, qi_if_eq, qi_icmp_eq, qi_if_ne, qi_icmp_ne, qi_if_lt, qi_icmp_lt, qi_if_ge, qi_icmp_ge, qi_if_gt, qi_icmp_gt, qi_if_le, qi_icmp_le, qi_sw, qi_get, qi_put, qi_iald, qi_lald, qi_aald, qi_iast, qi_zast, qi_cast, qi_last, qi_aast, qi_alen, qi_new, qi_newa, qi_newq, qi_obj, qi_invS, qi_invV, qi_invI, qi_iret, qi_zret, qi_lret, qi_vret, qi_acopy, qi_max, qi_min, at_o, at_i, at_l, at_q, at_a, lget, lset, lclr, lnon, lnth, spl, shrt, rpush, true_and, and_true, List.set, List.length, Nat.reduceAdd, Nat.reduceLT, Nat.reduceLeDiff, Nat.reduceEqDiff, Nat.reduceSub, e0]
  refine ⟨hc_fit_i, ?_⟩
  have l1 := loop 1 (by omega) (by omega)
  have e9 : hx 1 = hc_set h a (lnO a (sdf (2 ^ n - 1) (bset (fun x => S x == 0) n)) wh c us) := by
    show hc_set _ _ _ = _
    refine hs_self _ ?_
    rw [hs_ne _ _ (by omega), e2]
    have : g 1 = F 2 := funext fun j => by show (if 1 ≤ j ∧ j < 1 then _ else F 2 j) = _; rw [if_neg (by omega)]
    rw [this]
  rw [e9] at l1
  exact l1
/-- what fits: by time, by mates, by foes -/
def fts (F : Nat → Nat → Nat) (C s : Nat) : Bool := decide (F 3 s ≤ C ∧ sdf (F 5 s) s = 0 ∧ F 6 s &&& s = 0)
def fitN (F : Nat → Nat → Nat) (C k : Nat) : Nat → Nat := fun s => if s = 0 then 4096 else if s < k then (if fts F C s then sdf (F 4 s) s else 4096) else F 7 s
def fitU (F : Nat → Nat → Nat) (C : Nat) : Nat → Nat
  | 0 => 0
  | k + 1 => if fts F C (k + 1) then fitU F C k ||| (k + 1) else fitU F C k
theorem fitU_lt {F : Nat → Nat → Nat} {C : Nat} : ∀ k, k < 4096 → fitU F C k < 4096 := by
  intro k
  induction k with
  | zero => intro _; show 0 < 4096; omega
  | succ k ih =>
    intro hk
    simp only [fitU]
    split
    · exact or_lt (k := 12) (ih (by omega)) hk
    · exact ih (by omega)
theorem c_L_fit (hp : isLn h a N fx wh c us F G) (hN : N ≤ 4096) (hW : wh < N) (hF : ∀ k s, F k s ≤ 2000000) {C : Nat} (hC : C < 2000) : ∃ h', MA M_L_fit [.ref a, .int (nI C)] h none h' ∧ isLn h' a N fx wh (nI C) (fitU F C wh) (va_up F 7 (fitN F C (wh + 1))) G ∧ frm h h' a 13 := by
  let hx : Nat → hc_H := fun k => hc_set (hc_set h (a + 7) (.inl (0, N, .inl (fun j => nI (fitN F C (k + 1) j))))) a (lnO a fx wh (nI C) (fitU F C k))
  have lx : ∀ k, isLn (hx k) a N fx wh (nI C) (fitU F C k) (va_up F 7 (fitN F C (k + 1))) G := fun k => hp.set7.setO
  refine ⟨hx wh, ?_, lx wh, (frm.rfl'.set (by omega)).set (by omega)⟩
  have loop := lp_up (P := fun k => ∀ o, cx hc_tt M_L_fit h (hx wh) none 21 [some (.ref a), some (.int (nI C)), some (.int (nI (k + 1))), o] [] (hx k)) (n := wh)
    (by intro o
        refine sn_L_fit_21 _ _ _ ?_
        have o0 := (lx wh).1
        simp only [vc_L_fit_21, vc_L_fit_119, qi_push, qi_pushl, qi_iload, qi_lload, qi_aload, qi_istore, qi_astore, qi_lstore, qi_iinc, qi_iadd, qi_isub, qi_imul, qi_iand, qi_ior, qi_ixor, qi_ishl, qi_ishr, qi_iushr, qi_idiv, qi_irem, qi_lor, qi_lmul, qi_ladd, qi_lsub, qi_land, qi_lshl, qi_lshr, qi_i2l, qi_l2i, qi_i2c, qi_lcmp, qi_dup, qi_dup2, qi_pop, qi_if_eq, qi_icmp_eq, qi_if_ne, qi_icmp_ne, qi_if_lt, qi_icmp_lt, qi_if_ge, qi_icmp_ge, qi_if_gt, qi_icmp_gt, qi_if_le, qi_icmp_le, qi_sw, qi_get, qi_put, qi_iald, qi_lald, qi_aald, qi_iast, qi_zast, qi_cast, qi_last, qi_aast, qi_alen, qi_new, qi_newa, qi_newq, qi_obj, qi_invS, qi_invV, qi_invI, qi_iret, qi_zret, qi_lret, qi_vret, qi_acopy, qi_max, qi_min, at_o, at_i, at_l, at_q, at_a, lget, lset, lclr, lnon, lnth, spl, shrt, rpush, true_and, and_true, List.set, List.length, Nat.reduceAdd, Nat.reduceLT, Nat.reduceLeDiff, Nat.reduceEqDiff, Nat.reduceSub, o0]
        exact ⟨fun _ => trivial, fun z => absurd (nI_lt (by omega) (by omega)) z⟩)
    (fun k hk ih o => by
        refine sn_L_fit_21 _ _ _ ?_
        obtain ⟨o0, o1, o2, o3, o4, o5, o6, o7, -⟩ := lx k
        have hv : vp_in (nI (k + 1)) N := vp_in_nI (by omega) (by omega)
        have b3 := hF 3 (k + 1)
        have b4 := hF 4 (k + 1)
        have b5 := hF 5 (k + 1)
        have b6 := hF 6 (k + 1)
        have s5 : sdf (F 5 (k + 1)) (k + 1) ≤ F 5 (k + 1) := sub_le (sdf_sub _ _)
        have s6 : F 6 (k + 1) &&& (k + 1) ≤ F 6 (k + 1) := Nat.and_le_left
        have fk : fitN F C (k + 1 + 1) = va_up (fitN F C (k + 1)) (k + 1) (if fts F C (k + 1) then sdf (F 4 (k + 1)) (k + 1) else 4096) := by
          funext j
          unfold va_up fitN
          by_cases q : j = k + 1
          · rw [if_pos q, if_neg (by omega), if_pos (by omega), q]
          · rw [if_neg q]
            by_cases q0 : j = 0
            · rw [if_pos q0, if_pos q0]
            · rw [if_neg q0, if_neg q0]
              by_cases q2 : j < k + 1
              · rw [if_pos q2, if_pos (by omega)]
              · rw [if_neg q2, if_neg (by omega)]
        have uk : fitU F C (k + 1) = if fts F C (k + 1) then fitU F C k ||| (k + 1) else fitU F C k := rfl
        have h68 : ∀ b : Bool, b = fts F C (k + 1) → ∀ o, vc_L_fit_68 none (hx wh) (cx hc_tt M_L_fit h (hx wh) none) [some (.ref a), some (.int (nI C)), some (.int (nI (k + 1))), o] [.int (nI b.toNat)] (hx k) := by
          intro b hb o
          have fin : ∀ w u : Nat, w = (if fts F C (k + 1) then sdf (F 4 (k + 1)) (k + 1) else 4096) → u = fitU F C (k + 1) → hc_set (hc_set (hx k) (a + 7) (.inl (0, N, .inl (fun j => nI (va_up (fitN F C (k + 1)) (k + 1) w j))))) a (lnO a fx wh (nI C) u) = hx (k + 1) := by
            intro w u hw hu
            show hc_set (hc_set (hc_set (hc_set _ _ _) _ _) _ _) _ _ = hc_set (hc_set _ _ _) _ _
            rw [hs_4 _ _ _ _ _ (by omega), hw, hu, ← fk]
          simp only [vc_L_fit_68, vc_L_fit_91, vc_L_fit_94, vc_L_fit_108, vc_L_fit_109, qi_push, qi_pushl, qi_iload, qi_lload, qi_aload, qi_istore, qi_astore, qi_lstore, qi_iinc, qi_iadd, qi_isub, qi_imul, qi_iand, qi_ior, qi_ixor, qi_ishl, qi_ishr, qi_iushr, qi_idiv, qi_irem, qi_lor, qi_lmul, qi_ladd, qi_lsub, qi_land, qi_lshl, qi_lshr, qi_i2l, qi_l2i, qi_i2c, qi_lcmp, qi_dup, qi_dup2, qi_pop, qi_if_eq, qi_icmp_eq, qi_if_ne, qi_icmp_ne, qi_if_lt, qi_icmp_lt, qi_if_ge, qi_icmp_ge, qi_if_gt, qi_icmp_gt, qi_if_le, qi_icmp_le, qi_sw, qi_get, qi_put, qi_iald, qi_lald, qi_aald, qi_iast, qi_zast, qi_cast, qi_last, qi_aast, qi_alen, qi_new, qi_newa, qi_newq, qi_obj, qi_invS, qi_invV, qi_invI, qi_iret, qi_zret, qi_lret, qi_vret, qi_acopy, qi_max, qi_min, at_o, at_i, at_l, at_q, at_a, lget, lset, lclr, lnon, lnth, spl, shrt, rpush, true_and, and_true, List.set, List.length, Nat.reduceAdd, Nat.reduceLT, Nat.reduceLeDiff, Nat.reduceEqDiff, Nat.reduceSub, o0, o4, o7, nb_eq0, nb_ne0, hv]
          have e7 : va_up F 7 (fitN F C (k + 1)) 7 = fitN F C (k + 1) := rfl
          have e4 : va_up F 7 (fitN F C (k + 1)) 4 = F 4 := rfl
          rw [nI_clamp (by omega), e4, e7, ni_not]
          have q7 : ∀ w, (hc_set (hx k) (a + 7) w).1 a = some (lnO a fx wh (nI C) (fitU F C k)) := fun w => by rw [hs_ne _ _ (by omega)]; exact o0
          simp only [upd_nI, q7, qi_push, qi_pushl, qi_iload, qi_lload, qi_aload, qi_istore, qi_astore, qi_lstore, qi_iinc, qi_iadd, qi_isub, qi_imul, qi_iand, qi_ior, qi_ixor, qi_ishl, qi_ishr, qi_iushr, qi_idiv, qi_irem, qi_lor, qi_lmul, qi_ladd, qi_lsub, qi_land, qi_lshl, qi_lshr, qi_i2l, qi_l2i, qi_i2c, qi_lcmp, qi_dup, qi_dup2, qi_pop, qi_if_eq, qi_icmp_eq, qi_if_ne, qi_icmp_ne, qi_if_lt, qi_icmp_lt, qi_if_ge, qi_icmp_ge, qi_if_gt, qi_icmp_gt, qi_if_le, qi_icmp_le, qi_sw, qi_get, qi_put, qi_iald, qi_lald, qi_aald, qi_iast, qi_zast, qi_cast, qi_last, qi_aast, qi_alen, qi_new, qi_newa, qi_newq, qi_obj, qi_invS, qi_invV, qi_invI, qi_iret, qi_zret, qi_lret, qi_vret, qi_acopy, qi_max, qi_min, at_o, at_i, at_l, at_q, at_a, lget, lset, lclr, lnon, lnth, spl, shrt, rpush, true_and, and_true, List.set, List.length, Nat.reduceAdd, Nat.reduceLT, Nat.reduceLeDiff, Nat.reduceEqDiff, Nat.reduceSub, ni_or, nI_add]
          subst hb
          refine ⟨fun z => ⟨fun _ => ⟨hc_fit_i, ?_⟩, fun z2 => absurd z z2⟩, fun z => ⟨fun z2 => absurd z2 z, fun _ => ⟨hc_fit_i, ?_⟩⟩⟩
          · have z' : fts F C (k + 1) = false := z
            rw [Nat.or_zero, fin 4096 (fitU F C k) (by rw [z']; rfl) (by rw [uk, z']; rfl)]
            exact ih _
          · have z' : fts F C (k + 1) = true := by simpa using z
            rw [fin (sdf (F 4 (k + 1)) (k + 1)) (fitU F C k ||| (k + 1)) (by rw [z']; rfl) (by rw [uk, z']; rfl)]
            exact ih _
        simp only [vc_L_fit_21, vc_L_fit_67, qi_push, qi_pushl, qi_iload, qi_lload, qi_aload, qi_istore, qi_astore, qi_lstore, qi_iinc, qi_iadd, qi_isub, qi_imul, qi_iand, qi_ior, qi_ixor, qi_ishl, qi_ishr, qi_iushr, qi_idiv, qi_irem, qi_lor, qi_lmul, qi_ladd, qi_lsub, qi_land, qi_lshl, qi_lshr, qi_i2l, qi_l2i, qi_i2c, qi_lcmp, qi_dup, qi_dup2, qi_pop, qi_if_eq, qi_icmp_eq, qi_if_ne, qi_icmp_ne, qi_if_lt, qi_icmp_lt, qi_if_ge, qi_icmp_ge, qi_if_gt, qi_icmp_gt, qi_if_le, qi_icmp_le, qi_sw, qi_get, qi_put, qi_iald, qi_lald, qi_aald, qi_iast, qi_zast, qi_cast, qi_last, qi_aast, qi_alen, qi_new, qi_newa, qi_newq, qi_obj, qi_invS, qi_invV, qi_invI, qi_iret, qi_zret, qi_lret, qi_vret, qi_acopy, qi_max, qi_min, at_o, at_i, at_l, at_q, at_a, lget, lset, lclr, lnon, lnth, spl, shrt, rpush, true_and, and_true, List.set, List.length, Nat.reduceAdd, Nat.reduceLT, Nat.reduceLeDiff, Nat.reduceEqDiff, Nat.reduceSub, o0, o3, o5, o6, hv]
        have e3 : va_up F 7 (fitN F C (k + 1)) 3 = F 3 := rfl
        have e5 : va_up F 7 (fitN F C (k + 1)) 5 = F 5 := rfl
        have e6 : va_up F 7 (fitN F C (k + 1)) 6 = F 6 := rfl
        rw [nI_clamp (by omega), e3, e5, e6, ni_not, ni_and, nI_ltI (by omega) (by omega), nI_ltI (by omega) (by omega), ← nI_0, nI_eq (by omega) (by omega), nI_eq (by omega) (by omega)]
        refine ⟨fun z => absurd z (by omega), fun _ => ⟨fun z => h68 false ?_ _, fun z1 => ⟨fun z => h68 false ?_ _, fun z2 => ⟨fun z => h68 false ?_ _, fun z3 => h68 true ?_ _⟩⟩⟩⟩
        · unfold fts; rw [decide_eq_false (by omega)]
        · unfold fts; rw [decide_eq_false (fun q => z q.2.1)]
        · unfold fts; rw [decide_eq_false (fun q => z q.2.2)]
        · unfold fts; rw [decide_eq_true ⟨by omega, z2, z3⟩])
  refine MX.of (lv := [some (.ref a), some (.int (nI C)), none, none]) 2 rfl (by decide) (Nat.le_of_ble_eq_true rfl) (sn_L_fit_0 _ _ _ ?_)
  obtain ⟨e0, e1, e2, e3, e4, e5, e6, e7, -⟩ := id hp
  have ha7 : ¬ a + 7 = a := by omega
  simp only [vc_L_fit_0, qi_push, qi_pushl, qi_iload, qi_lload, qi_aload, qi_istore, qi_astore, qi_lstore, qi_iinc, qi_iadd, qi_isub, qi_imul, qi_iand, qi_ior, qi_ixor, qi_ishl, qi_ishr, qi_iushr, qi_idiv, qi_irem, qi_lor, qi_lmul, qi_ladd, qi_lsub, qi_land, qi_lshl, qi_lshr, qi_i2l, qi_l2i, qi_i2c, qi_lcmp, qi_dup, qi_dup2, qi_pop, qi_if_eq, qi_icmp_eq, qi_if_ne, qi_icmp_ne, qi_if_lt, qi_icmp_lt, qi_if_ge, qi_icmp_ge, qi_if_gt, qi_icmp_gt, qi_if_le, qi_icmp_le, qi_sw, qi_get, qi_put, qi_iald, qi_lald, qi_aald, qi_iast, qi_zast, qi_cast, qi_last, qi_aast, qi_alen, qi_new, qi_newa, qi_newq, qi_obj, qi_invS, qi_invV, qi_invI, qi_iret, qi_zret, qi_lret, qi_vret, qi_acopy, qi_max, qi_min, at_o, at_i, at_l, at_q, at_a, lget, lset, lclr, lnon, lnth, spl, shrt, rpush, true_and, and_true, List.set, List.length, Nat.reduceAdd, Nat.reduceLT, Nat.reduceLeDiff, Nat.reduceEqDiff, Nat.reduceSub, e0, hs_eq, hs_at, ha7, if_false, e7]
  refine ⟨hc_fit_i, hc_fit_i, vp_in_nI (by omega) (by omega), ?_⟩
  rw [show (nI 0).toNatClampNeg = 0 by decide, upd_nI, hs_hs]
  have l0 := loop 0 (Nat.zero_le _) none
  have e9 : hx 0 = hc_set (hc_set h a (lnO a fx wh (nI C) 0)) (a + 7) (.inl (0, N, .inl (fun j => nI (va_up (F 7) 0 4096 j)))) := by
    show hc_set (hc_set _ _ _) _ _ = _
    rw [hs_comm _ _ _ (show a + 7 ≠ a by omega)]
    refine hi_c (fun j => ?_)
    show (if j = 0 then 4096 else if j < 0 + 1 then _ else F 7 j) = if j = 0 then 4096 else F 7 j
    by_cases q : j = 0
    · rw [if_pos q, if_pos q]
    · rw [if_neg q, if_neg q, if_neg (by omega)]
  rw [e9] at l0
  exact l0
end LN
