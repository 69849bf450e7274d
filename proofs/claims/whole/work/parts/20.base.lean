/-! NUMBERS AND BITS; heaps alike; the JDK's own methods. -/
theorem ni_and (a b : Nat) : nI a &&& nI b = nI (a &&& b) := by
  apply Int32.toBitVec_inj.1
  show BitVec.ofNat 32 a &&& BitVec.ofNat 32 b = BitVec.ofNat 32 (a &&& b)
  apply BitVec.eq_of_getLsbD_eq
  intro i hi
  simp [hi]
theorem ni_or (a b : Nat) : nI a ||| nI b = nI (a ||| b) := by
  apply Int32.toBitVec_inj.1
  show BitVec.ofNat 32 a ||| BitVec.ofNat 32 b = BitVec.ofNat 32 (a ||| b)
  apply BitVec.eq_of_getLsbD_eq
  intro i hi
  simp [hi]
theorem ni_xor (a b : Nat) : nI a ^^^ nI b = nI (a ^^^ b) := by
  apply Int32.toBitVec_inj.1
  show BitVec.ofNat 32 a ^^^ BitVec.ofNat 32 b = BitVec.ofNat 32 (a ^^^ b)
  apply BitVec.eq_of_getLsbD_eq
  intro i hi
  simp [hi]
/-- what is in a and not in b -/
def sdf (a b : Nat) : Nat := a ^^^ (a &&& b)
theorem sdf_bit (a b i : Nat) : (sdf a b).testBit i = (a.testBit i && !b.testBit i) := by
  unfold sdf
  rw [Nat.testBit_xor, Nat.testBit_and]
  cases a.testBit i <;> cases b.testBit i <;> rfl
theorem ni_not (a b : Nat) : nI a &&& (nI b ^^^ (-1)) = nI (sdf a b) := by
  apply Int32.toBitVec_inj.1
  show BitVec.ofNat 32 a &&& (BitVec.ofNat 32 b ^^^ BitVec.allOnes 32) = BitVec.ofNat 32 (sdf a b)
  apply BitVec.eq_of_getLsbD_eq
  intro i hi
  simp only [BitVec.getLsbD_and, BitVec.getLsbD_xor, BitVec.getLsbD_ofNat, BitVec.getLsbD_allOnes, hi, decide_true, Bool.true_and, sdf_bit]
  cases a.testBit i <;> cases b.testBit i <;> rfl
theorem ni_sl : ∀ l, l < 31 → ((nI l &&& 31).toBitVec.smod 32).toNat = l := by decide +kernel
theorem ni_1shl {t : Nat} (h : t < 31) : nI 1 <<< (nI t &&& 31) = nI (2 ^ t) := by
  have e := pk_shlN (n := 1) (nI t &&& 31) t (ni_sl t h) (by rw [Nat.one_mul]; exact Nat.pow_lt_pow_right (by omega) (by omega))
  rw [e, Nat.one_mul]
theorem ni_shr {a t : Nat} (ha : a < 2 ^ 31) (h : t < 31) : nI a >>> (nI t &&& 31) = nI (a / 2 ^ t) := pk_shrN ha _ t (ni_sl t h)
theorem ni_bit {a t : Nat} (ha : a < 2 ^ 31) (h : t < 31) : (nI a >>> (nI t &&& 31)) &&& nI 1 = nI (a.testBit t).toNat := by
  rw [ni_shr ha h, ni_and]
  congr 1
  rw [Nat.and_one_is_mod, Nat.testBit_eq_decide_div_mod_eq]
  rcases Nat.mod_two_eq_zero_or_one (a / 2 ^ t) with e | e <;> simp [e]
theorem nb_01 (b : Bool) : nI b.toNat = 0 ∨ nI b.toNat = 1 := by cases b <;> decide
theorem nb_eq1 (b : Bool) : nI b.toNat = nI 1 ↔ b = true := by cases b <;> decide
theorem nb_ne1 (b : Bool) : (¬ nI b.toNat = nI 1) ↔ b = false := by cases b <;> decide
theorem nb_eq0 (b : Bool) : nI b.toNat = 0 ↔ b = false := by cases b <;> decide
theorem nb_ne0 (b : Bool) : (¬ nI b.toNat = 0) ↔ b = true := by cases b <;> decide
theorem tb_lt {a k : Nat} (h : ∀ i, k ≤ i → a.testBit i = false) : a < 2 ^ k := by
  refine Nat.lt_of_not_le (fun hle => ?_)
  obtain ⟨i, hi, hb⟩ := Nat.exists_ge_and_testBit_of_ge_two_pow hle
  rw [h i hi] at hb; cases hb
theorem tb_ge {a k i : Nat} (h : a < 2 ^ k) (hi : k ≤ i) : a.testBit i = false := Nat.testBit_lt_two_pow (Nat.lt_of_lt_of_le h (Nat.pow_le_pow_right (by omega) hi))
theorem sdf_lt {a b k : Nat} (h : a < 2 ^ k) : sdf a b < 2 ^ k := tb_lt fun i hi => by rw [sdf_bit, tb_ge h hi]; rfl
/-- how many of the first n bits are set -/
def popc (s : Nat) : Nat → Nat
  | 0 => 0
  | k + 1 => popc s k + (s.testBit k).toNat
def bc_x (i0 : Int32) : Int32 :=
  let us := fun (x : Int32) (k : Int32) => (x.toUInt32 >>> (k.toUInt32 &&& Int32.toUInt32 31)).toInt32
  let i1 := i0 - (us i0 (nI 1) &&& nI 1431655765)
  let i2 := (i1 &&& nI 858993459) + (us i1 (nI 2) &&& nI 858993459)
  let i3 := (i2 + us i2 (nI 4)) &&& nI 252645135
  let i4 := i3 + us i3 (nI 8)
  let i5 := i4 + us i4 (nI 16)
  i5 &&& nI 63
def bc_chk : Nat → Nat → Bool
  | 0, b => bc_x (nI b) == nI (popc b 13)
  | k + 1, b => bc_chk k b && bc_chk k (b + 2 ^ k)
theorem bc_ok : bc_chk 13 0 = true := by decide +kernel
theorem bc_chk_at : ∀ (k b s : Nat), bc_chk k b = true → b ≤ s → s < b + 2 ^ k → bc_x (nI s) = nI (popc s 13) := by
  intro k
  induction k with
  | zero => intro b s h h1 h2; have : s = b := by simp at h2; omega
            subst this; simpa [bc_chk] using h
  | succ k ih =>
    intro b s h h1 h2
    simp only [bc_chk, Bool.and_eq_true] at h
    rw [Nat.pow_succ] at h2
    by_cases hs : s < b + 2 ^ k
    · exact ih b s h.1 h1 hs
    · exact ih (b + 2 ^ k) s h.2 (by omega) (by omega)
theorem bc_nI {s : Nat} (h : s < 8192) : bc_x (nI s) = nI (popc s 13) := bc_chk_at 13 0 s bc_ok (Nat.zero_le _) (by simpa using h)
/-- heaps -/
theorem hs_at (h : hc_H) (a : Nat) (e : hc_C) (q : Nat) : (hc_set h a e).1 q = if q = a then some e else h.1 q := rfl
theorem hs_2 (h : hc_H) (a : Nat) (e : hc_C) : (hc_set h a e).2 = h.2 := rfl
theorem hs_eq (h : hc_H) (a : Nat) (e : hc_C) : (hc_set h a e).1 a = some e := by rw [hs_at, if_pos rfl]
theorem hs_ne (h : hc_H) {a q : Nat} (e : hc_C) (n : q ≠ a) : (hc_set h a e).1 q = h.1 q := by rw [hs_at, if_neg n]
theorem hs_hs (h : hc_H) (a : Nat) (e e' : hc_C) : hc_set (hc_set h a e) a e' = hc_set h a e' := by
  unfold hc_set
  refine Prod.ext (funext fun q => ?_) rfl
  show (if q = a then some e' else if q = a then some e else h.1 q) = _
  by_cases hq : q = a <;> simp [hq]
theorem hs_self (h : hc_H) {a : Nat} {e : hc_C} (he : h.1 a = some e) : hc_set h a e = h := by
  unfold hc_set
  refine Prod.ext (funext fun q => ?_) rfl
  show (if q = a then some e else h.1 q) = _
  by_cases hq : q = a
  · subst hq; rw [if_pos rfl, he]
  · rw [if_neg hq]
theorem hs_comm (h : hc_H) {a b : Nat} (e e' : hc_C) (n : a ≠ b) : hc_set (hc_set h a e) b e' = hc_set (hc_set h b e') a e := by
  unfold hc_set
  refine Prod.ext (funext fun q => ?_) rfl
  show (if q = b then some e' else if q = a then some e else h.1 q) = (if q = a then some e else if q = b then some e' else h.1 q)
  by_cases hq : q = a
  · subst hq; simp [n]
  · simp [hq]
def ceq (x y : Option hc_C) : Prop := x = y ∨ ∃ (k n : Nat) (f g : Nat → Int32), x = some (.inl (k, n, .inl f)) ∧ y = some (.inl (k, n, .inl g)) ∧ ∀ j, j < n → f j = g j
def heq (h h' : hc_H) : Prop := h.2 = h'.2 ∧ ∀ a, ceq (h.1 a) (h'.1 a)
theorem ceq.symm {x y : Option hc_C} (h : ceq x y) : ceq y x := by
  rcases h with h | ⟨k, n, f, g, h1, h2, h3⟩
  · exact Or.inl h.symm
  · exact Or.inr ⟨k, n, g, f, h2, h1, fun j hj => (h3 j hj).symm⟩
theorem heq.symm {h h' : hc_H} (e : heq h h') : heq h' h := ⟨e.1.symm, fun a => (e.2 a).symm⟩
theorem heq.set {h : hc_H} {a n k : Nat} {f g : Nat → Int32} (e : ∀ j, j < n → f j = g j) : heq (hc_set h a (.inl (k, n, .inl f))) (hc_set h a (.inl (k, n, .inl g))) := by
  refine ⟨rfl, fun q => ?_⟩
  rw [hs_at, hs_at]
  by_cases hq : q = a
  · rw [if_pos hq, if_pos hq]; exact Or.inr ⟨k, n, f, g, rfl, rfl, e⟩
  · rw [if_neg hq, if_neg hq]; exact Or.inl rfl
theorem arrV_congr {cA : ClassId} {n : Nat} {f g : Nat → Value} (h : ∀ j, j < n → f j = g j) : arrV cA n f = arrV cA n g := by
  unfold arrV
  congr 2
  funext j
  exact h j.1 j.2
theorem hc_W.eqv {D : va_G} {tc : Nat → ClassId} {bs : Nat} {h h' : hc_H} {H : Heap} (e : heq h h') (hW : hc_W D tc bs h H) : hc_W D tc bs h' H := by
  refine ⟨by rw [← e.1]; exact hW.1, by rw [← e.1]; exact hW.2.1, fun a x hx => ?_⟩
  rcases e.2 a with q | ⟨k, n, f, g, q1, q2, q3⟩
  · exact hW.2.2 a x (q.trans hx)
  · obtain ⟨w1, w2⟩ := hW.2.2 a _ q1
    rw [q2] at hx
    cases hx
    refine ⟨w1, ?_⟩
    show H[a]? = some (vp_cell (tc k) (n, .inl g))
    rw [show H[a]? = some (vp_cell (tc k) (n, .inl f)) from w2, vp_cell_i, vp_cell_i, arrV_congr (f := fun j => .int (f j)) (g := fun j => .int (g j)) (fun j hj => by rw [q3 j hj])]
theorem cx.eqv {Ph : Nat → State → Prop} {M : hc_M} {h0 hf : hc_H} {r : Option Value} {pc : Nat} {lv : hc_L} {st : List Value} {h h' : hc_H} (e : heq h h') (k : cx Ph M h0 hf r pc lv st h') : cx Ph M h0 hf r pc lv st h := by
  have e1 : h.2 = h'.2 := e.1
  refine ⟨by rw [e1]; exact k.1, fun p l e2 s m args below meth c D tc bs X g1 g2 H locs ls hW hS hl => ?_⟩
  rw [e1]
  exact k.2 p l e2 s m args below meth c D tc bs X (by rw [← e1]; exact g1) (by rw [← e1]; exact g2) H locs ls (hW.eqv e) hS hl
/-- Math.max, min -/
theorem ni_max {x y : Nat} (hx : x < 2 ^ 31) (hy : y < 2 ^ 31) : (if nI x < nI y then nI y else nI x) = nI (max x y) := by
  simp only [nI_ltI hx hy]
  by_cases c : x < y
  · rw [if_pos c, Nat.max_eq_right (by omega)]
  · rw [if_neg c, Nat.max_eq_left (by omega)]
theorem ni_min {x y : Nat} (hx : x < 2 ^ 31) (hy : y < 2 ^ 31) : (if nI y < nI x then nI y else nI x) = nI (min x y) := by
  simp only [nI_ltI hy hx]
  by_cases c : y < x
  · rw [if_pos c, Nat.min_eq_right (by omega)]
  · rw [if_neg c, Nat.min_eq_left (by omega)]
theorem c_J_bitCount (h : hc_H) {s : Nat} (hs : s < 8192) : MA M_J_bitCount [.int (nI s)] h (some (.int (nI (popc s 13)))) h := by
  refine MX.of 0 rfl (by decide) (Nat.le_of_ble_eq_true rfl) (sn_J_bitCount_0 _ _ _ ?_)
  simp only [vc_J_bitCount_0, qi_push, qi_pushl, qi_iload, qi_lload, qi_aload, qi_istore, qi_astore, qi_lstore, qi_iinc, qi_iadd, qi_isub, qi_imul, qi_iand, qi_ior, qi_ixor, qi_ishl, qi_ishr, qi_iushr, qi_idiv, qi_irem, qi_lor, qi_lmul, qi_ladd, qi_lsub, qi_land, qi_lshl, qi_lshr, qi_i2l, qi_l2i, qi_i2c, qi_lcmp, qi_dup, qi_dup2, qi_pop, qi_if_eq, qi_icmp_eq, qi_if_ne, qi_icmp_ne, qi_if_lt, qi_icmp_lt, qi_if_ge, qi_icmp_ge, qi_if_gt, qi_icmp_gt, qi_if_le, qi_icmp_le, qi_sw, qi_get, qi_put, qi_iald, qi_lald, qi_aald, qi_iast, qi_zast, qi_cast, qi_last, qi_aast, qi_alen, qi_new, qi_newa, qi_newq, qi_obj, qi_invS, qi_invV, qi_invI, qi_iret, qi_zret, qi_lret, qi_vret, qi_acopy, qi_max, qi_min, at_o, at_i, at_l, at_q, at_a, lget, lset, lclr, lnon, lnth, spl, shrt, rpush, true_and, and_true, List.set, List.length, Nat.reduceAdd, Nat.reduceLT, Nat.reduceLeDiff, Nat.reduceEqDiff, Nat.reduceSub]
  rw [← bc_nI hs]
  rfl
/-- Arrays.fill -/
theorem c_J_fill {h : hc_H} {a n : Nat} {f : Nat → Int32} (v : Int32) (ha : h.1 a = some (.inl (0, n, .inl f))) (hn : n < 2 ^ 31) : MA M_J_fill [.ref a, .int v] h none (hc_set h a (.inl (0, n, .inl (fun _ => v)))) := by
  have loop : ∀ (k i : Nat) (g : Nat → Int32), i + k = n → (∀ j, j < i → g j = v) → cx hc_tt M_J_fill h (hc_set h a (.inl (0, n, .inl (fun _ => v)))) none 5 [some (.ref a), some (.int v), some (.int (nI i)), some (.int (nI n))] [] (hc_set h a (.inl (0, n, .inl g))) := by
    intro k
    induction k with
    | zero =>
      intro i g hi hg
      refine cx.eqv (heq.set (g := fun _ => v) (fun j hj => hg j (by omega))) (sn_J_fill_5 _ _ _ ?_)
      simp only [vc_J_fill_5, vc_J_fill_20, qi_push, qi_pushl, qi_iload, qi_lload, qi_aload, qi_istore, qi_astore, qi_lstore, qi_iinc, qi_iadd, qi_isub, qi_imul, qi_iand, qi_ior, qi_ixor, qi_ishl, qi_ishr, qi_iushr, qi_idiv, qi_irem, qi_lor, qi_lmul, qi_ladd, qi_lsub, qi_land, qi_lshl, qi_lshr, qi_i2l, qi_l2i, qi_i2c, qi_lcmp, qi_dup, qi_dup2, qi_pop, qi_if_eq, qi_icmp_eq, qi_if_ne, qi_icmp_ne, qi_if_lt, qi_icmp_lt, qi_if_ge, qi_icmp_ge, qi_if_gt, qi_icmp_gt, qi_if_le, qi_icmp_le, qi_sw, qi_get, qi_put, qi_iald, qi_lald, qi_aald, qi_iast, qi_zast, qi_cast, qi_last, qi_aast, qi_alen, qi_new, qi_newa, qi_newq, qi_obj, qi_invS, qi_invV, qi_invI, qi_iret, qi_zret, qi_lret, qi_vret, qi_acopy, qi_max, qi_min, at_o, at_i, at_l, at_q, at_a, lget, lset, lclr, lnon, lnth, spl, shrt, rpush, true_and, and_true, List.set, List.length, Nat.reduceAdd, Nat.reduceLT, Nat.reduceLeDiff, Nat.reduceEqDiff, Nat.reduceSub, hs_eq]
      exact ⟨fun _ => trivial, fun c => absurd (nI_le (by omega) (by omega)) c⟩
    | succ k ih =>
      intro i g hi hg
      refine sn_J_fill_5 _ _ _ ?_
      simp only [vc_J_fill_5, vc_J_fill_20, qi_push, qi_pushl, qi_iload, qi_lload, qi_aload, qi_istore, qi_astore, qi_lstore, qi_iinc, qi_iadd, qi_isub, qi_imul, qi_iand, qi_ior, qi_ixor, qi_ishl, qi_ishr, qi_iushr, qi_idiv, qi_irem, qi_lor, qi_lmul, qi_ladd, qi_lsub, qi_land, qi_lshl, qi_lshr, qi_i2l, qi_l2i, qi_i2c, qi_lcmp, qi_dup, qi_dup2, qi_pop, qi_if_eq, qi_icmp_eq, qi_if_ne, qi_icmp_ne, qi_if_lt, qi_icmp_lt, qi_if_ge, qi_icmp_ge, qi_if_gt, qi_icmp_gt, qi_if_le, qi_icmp_le, qi_sw, qi_get, qi_put, qi_iald, qi_lald, qi_aald, qi_iast, qi_zast, qi_cast, qi_last, qi_aast, qi_alen, qi_new, qi_newa, qi_newq, qi_obj, qi_invS, qi_invV, qi_invI, qi_iret, qi_zret, qi_lret, qi_vret, qi_acopy, qi_max, qi_min, at_o, at_i, at_l, at_q, at_a, lget, lset, lclr, lnon, lnth, spl, shrt, rpush, true_and, and_true, List.set, List.length, Nat.reduceAdd, Nat.reduceLT, Nat.reduceLeDiff, Nat.reduceEqDiff, Nat.reduceSub, hs_eq]
      refine ⟨fun c => absurd c (nI_ge (by omega) (by omega)), fun _ => ⟨vp_in_nI (by omega) hn, ?_⟩⟩
      rw [hs_hs, nI_clamp (by omega), nI_add]
      refine ih (i + 1) _ (by omega) (fun j hj => ?_)
      unfold upd
      by_cases q : j = i
      · rw [if_pos q]
      · rw [if_neg q]; exact hg j (by omega)
  refine MX.of (lv := [some (.ref a), some (.int v), none, none]) 2 rfl (by decide) (Nat.le_of_ble_eq_true rfl) (sn_J_fill_0 _ _ _ ?_)
  simp only [vc_J_fill_0, qi_push, qi_pushl, qi_iload, qi_lload, qi_aload, qi_istore, qi_astore, qi_lstore, qi_iinc, qi_iadd, qi_isub, qi_imul, qi_iand, qi_ior, qi_ixor, qi_ishl, qi_ishr, qi_iushr, qi_idiv, qi_irem, qi_lor, qi_lmul, qi_ladd, qi_lsub, qi_land, qi_lshl, qi_lshr, qi_i2l, qi_l2i, qi_i2c, qi_lcmp, qi_dup, qi_dup2, qi_pop, qi_if_eq, qi_icmp_eq, qi_if_ne, qi_icmp_ne, qi_if_lt, qi_icmp_lt, qi_if_ge, qi_icmp_ge, qi_if_gt, qi_icmp_gt, qi_if_le, qi_icmp_le, qi_sw, qi_get, qi_put, qi_iald, qi_lald, qi_aald, qi_iast, qi_zast, qi_cast, qi_last, qi_aast, qi_alen, qi_new, qi_newa, qi_newq, qi_obj, qi_invS, qi_invV, qi_invI, qi_iret, qi_zret, qi_lret, qi_vret, qi_acopy, qi_max, qi_min, at_o, at_i, at_l, at_q, at_a, lget, lset, lclr, lnon, lnth, spl, shrt, rpush, true_and, and_true, List.set, List.length, Nat.reduceAdd, Nat.reduceLT, Nat.reduceLeDiff, Nat.reduceEqDiff, Nat.reduceSub, ha]
  have := loop n 0 f (by omega) (fun j hj => by omega)
  rw [hs_self h ha] at this
  exact this
