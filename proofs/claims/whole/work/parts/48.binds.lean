/-! STUDY: orders that bind; the constructor. -/
def brow (P : Nat → Nat → Bool) (a : Nat) : Nat → List Nat
  | 0 => []
  | b + 1 => brow P a b ++ if P a b then [100 * a + b] else []
def blist (P : Nat → Nat → Bool) (n : Nat) : Nat → List Nat
  | 0 => []
  | a + 1 => blist P n a ++ brow P a n
def isBL (bc : Nat) (K : Nat → Nat) (L : List Nat) : Prop := bc = L.length ∧ ∀ i, i < L.length → L[i]? = some (K i)
theorem isBL.add {bc x : Nat} {K : Nat → Nat} {L : List Nat} (h : isBL bc K L) : isBL (bc + 1) (va_up K bc x) (L ++ [x]) := by
  obtain ⟨h1, h2⟩ := h
  refine ⟨by simp [h1], fun i hi => ?_⟩
  rw [List.length_append] at hi
  by_cases w : i < L.length
  · rw [List.getElem?_append_left w, h2 i w]
    show _ = some (if i = bc then x else K i)
    rw [if_neg (by omega)]
  · have : i = L.length := by simp at hi; omega
    rw [List.getElem?_append_right (by omega), this]
    show _ = some (if L.length = bc then x else K _)
    rw [if_pos h1.symm]
    simp
/-- by the sum of all -/
def dsum (f : Nat → Nat → Nat) (m : Nat) : Nat → Nat
  | 0 => 0
  | k + 1 => dsum f m k + tsum (f k) (2 ^ m - 1) m
theorem tsum_a {f : Nat → Nat} {m : Nat} : tsum f (2 ^ (m + 1) - 1) (m + 1) = tsum f (2 ^ m - 1) m + f m := by
  simp only [tsum]
  rw [all_bit, if_pos (decide_eq_true (show m < m + 1 by omega)), tsum_c (r := 2 ^ m - 1) m (fun x hx => by rw [all_bit, all_bit, decide_eq_true (show x < m + 1 by omega), decide_eq_true hx])]
theorem brow_len (P : Nat → Nat → Bool) (a : Nat) : ∀ b, (brow P a b).length = tsum (fun x => (P a x).toNat) (2 ^ b - 1) b := by
  intro b
  induction b with
  | zero => rfl
  | succ b ih =>
    rw [tsum_a]
    simp only [brow]
    rw [List.length_append, ih]
    cases P a b <;> rfl
theorem blist_len (P : Nat → Nat → Bool) (n : Nat) : ∀ k, (blist P n k).length = dsum (fun a b => (P a b).toNat) n k := by
  intro k
  induction k with
  | zero => rfl
  | succ k ih =>
    simp only [blist, dsum]
    rw [List.length_append, ih, brow_len]
theorem dsum_a {f : Nat → Nat → Nat} {m : Nat} : ∀ k, dsum f (m + 1) k = dsum f m k + tsum (fun a => f a m) (2 ^ k - 1) k := by
  intro k
  induction k with
  | zero => rfl
  | succ k ih =>
    simp only [dsum]
    rw [ih, tsum_a, tsum_a]
    omega
theorem tsum_two {f g : Nat → Nat} {m : Nat} : ∀ k, k ≤ m → (∀ x, x < k → f x + g x ≤ 1) → tsum f (2 ^ k - 1) k + tsum g (2 ^ k - 1) k ≤ k := by
  intro k
  induction k with
  | zero => intro _ _; exact Nat.le_refl _
  | succ k ih =>
    intro hk h
    have := ih (by omega) (fun x hx => h x (by omega))
    have := h k (by omega)
    rw [tsum_a, tsum_a]
    omega
theorem dsum_anti {f : Nat → Nat → Nat} : ∀ n, (∀ a b, a < n → b < n → f a b + f b a ≤ 1) → 2 * dsum f n n ≤ n * (n - 1) := by
  intro n
  induction n with
  | zero => intro _; exact Nat.le_refl _
  | succ n ih =>
    intro h
    have h1 := ih (fun a b ha hb => h a b (by omega) (by omega))
    have h2 := tsum_two (m := n) (f := fun a => f a n) (g := f n) n (Nat.le_refl _) (fun x hx => h x n (by omega) (by omega))
    have h3 := h n n (by omega) (by omega)
    have e : dsum f (n + 1) (n + 1) = dsum f n n + tsum (fun a => f a n) (2 ^ n - 1) n + tsum (f n) (2 ^ n - 1) n + f n n := by
      simp only [dsum]
      rw [dsum_a, tsum_a]
      omega
    rw [e, show n + 1 - 1 = n by omega, show (n + 1) * n = n * n + n from Nat.succ_mul n n]
    have : n * (n - 1) + n = n * n := by
      cases n with
      | zero => rfl
      | succ k => rw [show k + 1 - 1 = k by omega, Nat.mul_succ (k + 1) k]
    omega
theorem blist_66 {P : Nat → Nat → Bool} {n : Nat} (hn : n ≤ 12) (h : ∀ a b, a < n → b < n → P a b = true → ¬ P b a = true) : (blist P n n).length ≤ 66 := by
  rw [blist_len]
  have h1 := dsum_anti (f := fun a b => (P a b).toNat) n (fun a b ha hb => by
    have h1 := h a b ha hb
    show (P a b).toNat + (P b a).toNat ≤ 1
    cases hab : P a b <;> cases hba : P b a
    · decide
    · decide
    · decide
    · exact absurd hba (h1 hab))
  have h2 : n * (n - 1) ≤ 12 * 11 := Nat.mul_le_mul hn (by omega)
  omega
theorem blist_pre (P : Nat → Nat → Bool) (n : Nat) : ∀ x k, (blist P n k).length ≤ (blist P n (k + x)).length := by
  intro x
  induction x with
  | zero => intro k; exact Nat.le_refl _
  | succ x ih =>
    intro k
    refine Nat.le_trans (ih k) ?_
    show _ ≤ (blist P n (k + x + 1)).length
    simp only [blist]
    rw [List.length_append]
    omega
theorem brow_pre (P : Nat → Nat → Bool) (a : Nat) : ∀ x b, (brow P a b).length ≤ (brow P a (b + x)).length := by
  intro x
  induction x with
  | zero => intro k; exact Nat.le_refl _
  | succ x ih =>
    intro k
    refine Nat.le_trans (ih k) ?_
    show _ ≤ (brow P a (k + x + 1)).length
    simp only [brow]
    rw [List.length_append]
    omega
/-- the i-th of a list; how many, if i is below 0 -/
def lstI (L : List Nat) (i : Int32) : Int32 := if i < 0 then nI L.length else match L[i.toNatClampNeg]? with
  | some x => nI x
  | none => -4
/-- which orders bind -/
def bndS (n C : Nat) (T B A J : Nat → Nat) (P : Nat → Nat → Bool) : Prop := ∃ m, m ≤ n ∧ ((m = n ∧ ∀ k, k ≤ n → ¬ lin n C T B A J k) ∨ (lin n C T B A J (m + 1) ∧ ∀ j, j ≤ m → ¬ lin n C T B A J j)) ∧ ∀ a b, a < n → b < n → (P a b = true ↔ (B b).testBit a = true ∧ linC n T (va_up B b (sdf (B b) (2 ^ a))) A J m C)
theorem slv_min {n C lc bp : Nat} {T B A J H : Nat → Nat} {st : Int32} (hn : n ≤ 12) (h : slv n C T B A J st lc bp H) : isMin (lin n C T B A J) n st := by
  obtain ⟨ne, sp, h1, h2, -⟩ := h
  exact h2.c (fun k hk => rch_c (fun s hs => (h1 s (sub_all.mp hs)).1) (fun _ _ _ => rfl) k (by omega) _)
def isQ (h : hc_H) (q : Nat) : Prop := ∃ n c T B A J S, isPl h q n c T B A J S
section ST
variable {h : hc_H} {y p q z0 sl ln N me so bo lc bp bc n C : Nat} {st : Int32} {H K T B A J S : Nat → Nat}
theorem c_Y_listedBinding (hy : isY h y p q z0 sl ln N me so bo st lc bp bc H K) {L : List Nat} (hL : isBL bc K L) (h66 : L.length ≤ 66) (i : Int32) : MA M_Y_listedBinding [.ref y, .int i] h (some (.int (lstI L i))) h := by
  obtain ⟨o1, -, o2, -⟩ := id hy
  refine MX.of (lv := [some (.ref y), some (.int i)]) 0 rfl (by decide) (Nat.le_of_ble_eq_true rfl) (sn_Y_listedBinding_0 _ _ _ ?_)
  simp only [vc_Y_listedBinding_0, vc_Y_listedBinding_9, vc_Y_listedBinding_26, vc_Y_listedBinding_28, qi_push, qi_pushl, qi_iload, qi_lload, qi_aload, qi_istore, qi_astore, qi_lstore, qi_iinc, qi_iadd, qi_isub, qi_imul, qi_iand, qi_ior, qi_ixor, qi_ishl, qi_ishr, qi_iushr, qi_idiv, qi_irem, qi_lor, qi_lmul, qi_ladd, qi_lsub, qi_land, qi_lshl, qi_lshr, qi_i2l, qi_l2i, qi_i2c, qi_lcmp, qi_dup, qi_dup2, qi_pop, qi_if_eq, qi_icmp_eq, qi_if_ne, qi_icmp_ne, qi_if_lt, qi_icmp_lt, qi_if_ge, qi_icmp_ge, qi_if_gt, qi_icmp_gt, qi_if_le, qi_icmp_le, qi_sw, qi_get, qi_put, qi_iald, qi_lald, qi_aald, qi_iast, qi_zast, qi_cast, qi_last, qi_aast, qi_alen, qi_new, qi_newa, qi_newq, qi_obj, qi_invS, qi_invV, qi_invI, qi_iret, qi_zret, qi_lret, qi_vret, qi_acopy, qi_max, qi_min, at_o, at_i, at_l, at_q, at_a, lget, lset, lclr, lnon, lnth, spl, shrt, rpush, true_and, and_true, List.set, List.length, Nat.reduceAdd, Nat.reduceLT, Nat.reduceLeDiff, Nat.reduceEqDiff, Nat.reduceSub, o1, o2]
  unfold lstI
  refine ⟨fun z => ?_, fun z => ?_⟩
  · have z0 : ¬ i < 0 := Int32.not_lt.mpr z
    rw [if_neg z0]
    obtain ⟨j, hj, rfl⟩ := nI_of z0
    rw [nI_clamp hj, hL.1]
    by_cases w : j < L.length
    · rw [hL.2 j w]
      refine ⟨fun q => absurd q (nI_ge w (by omega)), fun _ => ⟨vp_in_nI (by omega) (by omega), rfl⟩⟩
    · rw [List.getElem?_eq_none (by omega)]
      exact ⟨fun _ => rfl, fun q => absurd (nI_le (by omega) hj) q⟩
  · have z0 : i < 0 := Decidable.byContradiction fun q => z (Int32.not_lt.mp q)
    rw [if_pos z0, hL.1]
theorem c_Y_addBinding (hy : isY h y p q z0 sl ln N me so bo st lc bp bc H K) (hb : bc < 66) {x : Nat} : ∃ h', MA M_Y_addBinding [.ref y, .int (nI x)] h none h' ∧ isY h' y p q z0 sl ln N me so bo st lc bp (bc + 1) H (va_up K bc x) ∧ frm h h' y 3 := by
  obtain ⟨o1, -, o2, -⟩ := id hy
  refine ⟨hc_set (hc_set h (y + 2) (.inl (0, 66, .inl (fun j => nI (va_up K bc x j))))) y (styO y p q ln me so bo st lc bp (bc + 1)), MX.of (lv := [some (.ref y), some (.int (nI x))]) 0 rfl (by decide) (Nat.le_of_ble_eq_true rfl) (sn_Y_addBinding_0 _ _ _ ?_), hy.setK.setO, (frm.rfl'.set (by omega)).set (by omega)⟩
  have hv : vp_in (nI bc) 66 := vp_in_nI (by omega) (by omega)
  have o3 : (hc_set h (y + 2) (.inl (0, 66, .inl (fun j => nI (va_up K bc x j))))).1 y = some (styO y p q ln me so bo st lc bp bc) := by rw [hs_ne _ _ (by omega)]; exact o1
  simp only [vc_Y_addBinding_0, vc_Y_addBinding_29, qi_push, qi_pushl, qi_iload, qi_lload, qi_aload, qi_istore, qi_astore, qi_lstore, qi_iinc, qi_iadd, qi_isub, qi_imul, qi_iand, qi_ior, qi_ixor, qi_ishl, qi_ishr, qi_iushr, qi_idiv, qi_irem, qi_lor, qi_lmul, qi_ladd, qi_lsub, qi_land, qi_lshl, qi_lshr, qi_i2l, qi_l2i, qi_i2c, qi_lcmp, qi_dup, qi_dup2, qi_pop, qi_if_eq, qi_icmp_eq, qi_if_ne, qi_icmp_ne, qi_if_lt, qi_icmp_lt, qi_if_ge, qi_icmp_ge, qi_if_gt, qi_icmp_gt, qi_if_le, qi_icmp_le, qi_sw, qi_get, qi_put, qi_iald, qi_lald, qi_aald, qi_iast, qi_zast, qi_cast, qi_last, qi_aast, qi_alen, qi_new, qi_newa, qi_newq, qi_obj, qi_invS, qi_invV, qi_invI, qi_iret, qi_zret, qi_lret, qi_vret, qi_acopy, qi_max, qi_min, at_o, at_i, at_l, at_q, at_a, lget, lset, lclr, lnon, lnth, spl, shrt, rpush, true_and, and_true, List.set, List.length, Nat.reduceAdd, Nat.reduceLT, Nat.reduceLeDiff, Nat.reduceEqDiff, Nat.reduceSub, o1, o2, hv]
  rw [nI_clamp (by omega), upd_nI]
  simp only [qi_push, qi_pushl, qi_iload, qi_lload, qi_aload, qi_istore, qi_astore, qi_lstore, qi_iinc, qi_iadd, qi_isub, qi_imul, qi_iand, qi_ior, qi_ixor, qi_ishl, qi_ishr, qi_iushr, qi_idiv, qi_irem, qi_lor, qi_lmul, qi_ladd, qi_lsub, qi_land, qi_lshl, qi_lshr, qi_i2l, qi_l2i, qi_i2c, qi_lcmp, qi_dup, qi_dup2, qi_pop, qi_if_eq, qi_icmp_eq, qi_if_ne, qi_icmp_ne, qi_if_lt, qi_icmp_lt, qi_if_ge, qi_icmp_ge, qi_if_gt, qi_icmp_gt, qi_if_le, qi_icmp_le, qi_sw, qi_get, qi_put, qi_iald, qi_lald, qi_aald, qi_iast, qi_zast, qi_cast, qi_last, qi_aast, qi_alen, qi_new, qi_newa, qi_newq, qi_obj, qi_invS, qi_invV, qi_invI, qi_iret, qi_zret, qi_lret, qi_vret, qi_acopy, qi_max, qi_min, at_o, at_i, at_l, at_q, at_a, lget, lset, lclr, lnon, lnth, spl, shrt, rpush, true_and, and_true, List.set, List.length, Nat.reduceAdd, Nat.reduceLT, Nat.reduceLeDiff, Nat.reduceEqDiff, Nat.reduceSub, o3]
  rw [nI_add]
  exact ⟨fun z => absurd z (nI_ge hb (by omega)), fun _ => ⟨hc_fit_i, rfl⟩⟩
theorem c_Y_isBinding (hl : layY p q y z0) (hS : SI h y p q z0 sl n C T B A J so bo st lc bp bc H K) (hq : isQ h q) (hr : isPl h p n (nI C) T B A J S) (hw : pw n T B A J S) (hC : C < 1000) (hC0 : 0 < C) (hn : 1 ≤ n) {a b m : Nat} (ha : a < 12) (hb : b < 12) (hm : m ≤ 12) :
    ∃ h' r, MA M_Y_isBinding [.ref y, .int (nI a), .int (nI b), .int (nI m)] h (some (.int (nI (Bool.toNat r)))) h' ∧ SI h' y p q z0 sl n C T B A J so bo st lc bp bc H K ∧ frY h h' q y z0 ∧ isQ h' q ∧ (r = true ↔ linC n T (va_up B b (sdf (B b) (2 ^ a))) A J m C) := by
  obtain ⟨l1, l2, l3⟩ := id hl
  obtain ⟨n2, c2, T2, B2, A2, J2, S2, hq⟩ := hq
  obtain ⟨h1, c1, c2', c3⟩ := c_P_copy hq hr (by omega)
  obtain ⟨h2, c4, c5, c6⟩ := c_P_setOrder c2' ha hb false
  obtain ⟨B', eB⟩ : ∃ x, va_up B b (sdf (B b) (2 ^ a)) = x := ⟨_, rfl⟩
  have c5 : isPl h2 q n (nI C) T B' A J S := by rw [← eB]; exact c5
  have hw' : pw n T B' A J S := by
    refine ⟨hw.1, hw.2.1, fun x => ?_, hw.2.2.2⟩
    rw [← eB]
    show (if x = b then sdf (B b) (2 ^ a) else B x) < 4096
    split
    · exact Nat.lt_of_le_of_lt (sub_le (sdf_sub _ _)) (hw.2.2.1 b)
    · exact hw.2.2.1 x
  have S2' := (hS.keep hl c3 (by omega)).keep hl c6 (by omega)
  obtain ⟨ln0, N0, me0, y0, -⟩ := id hS
  obtain ⟨ln1, N1, me1, y1, -⟩ := id (hS.keep hl c3 (by omega))
  obtain ⟨ln2, N2, me2, y2, m2, mm2⟩ := id S2'
  have o0 := y0.1
  have o1 := y1.1
  have o2 := y2.1
  have p0 := hq.1
  have p1 := c2'.1
  have p2 := c5.1
  have fr2 : frY h h2 q y z0 := c3.toY.trans c6.toY
  have hfl := floor_le hw' hC0
  rw [eB]
  have start : ∀ h' (r : Bool), (max (fl0 n C T) (max (fl1 n C T) (fl2 n C T B')) ≤ m → vc_Y_isBinding_34 (some (.int (nI r.toNat))) h' (cx hc_tt M_Y_isBinding h h' (some (.int (nI r.toNat)))) [some (.ref y), some (.int (nI a)), some (.int (nI b)), some (.int (nI m))] [] h2) → (¬ max (fl0 n C T) (max (fl1 n C T) (fl2 n C T B')) ≤ m → r = false ∧ h' = h2) → MA M_Y_isBinding [.ref y, .int (nI a), .int (nI b), .int (nI m)] h (some (.int (nI r.toNat))) h' := by
    intro h' r k1 k2
    refine MX.of (lv := [some (.ref y), some (.int (nI a)), some (.int (nI b)), some (.int (nI m))]) 0 rfl (by decide) (Nat.le_of_ble_eq_true rfl) (sn_Y_isBinding_0 _ _ _ ?_)
    simp only [vc_Y_isBinding_0, qi_push, qi_pushl, qi_iload, qi_lload, qi_aload, qi_istore, qi_astore, qi_lstore, qi_iinc, qi_iadd, qi_isub, qi_imul, qi_iand, qi_ior, qi_ixor, qi_ishl, qi_ishr, qi_iushr, qi_idiv, qi_irem, qi_lor, qi_lmul, qi_ladd, qi_lsub, qi_land, qi_lshl, qi_lshr, qi_i2l, qi_l2i, qi_i2c, qi_lcmp, qi_dup, qi_dup2, qi_pop, qi_if_eq, qi_icmp_eq, qi_if_ne, qi_icmp_ne, qi_if_lt, qi_icmp_lt, qi_if_ge, qi_icmp_ge, qi_if_gt, qi_icmp_gt, qi_if_le, qi_icmp_le, qi_sw, qi_get, qi_put, qi_iald, qi_lald, qi_aald, qi_iast, qi_zast, qi_cast, qi_last, qi_aast, qi_alen, qi_new, qi_newa, qi_newq, qi_obj, qi_invS, qi_invV, qi_invI, qi_iret, qi_zret, qi_lret, qi_vret, qi_acopy, qi_max, qi_min, at_o, at_i, at_l, at_q, at_a, lget, lset, lclr, lnon, lnth, spl, shrt, rpush, true_and, and_true, List.set, List.length, Nat.reduceAdd, Nat.reduceLT, Nat.reduceLeDiff, Nat.reduceEqDiff, Nat.reduceSub, o0, p0]
    refine ⟨_, _, c1, ?_⟩
    simp only [qi_push, qi_pushl, qi_iload, qi_lload, qi_aload, qi_istore, qi_astore, qi_lstore, qi_iinc, qi_iadd, qi_isub, qi_imul, qi_iand, qi_ior, qi_ixor, qi_ishl, qi_ishr, qi_iushr, qi_idiv, qi_irem, qi_lor, qi_lmul, qi_ladd, qi_lsub, qi_land, qi_lshl, qi_lshr, qi_i2l, qi_l2i, qi_i2c, qi_lcmp, qi_dup, qi_dup2, qi_pop, qi_if_eq, qi_icmp_eq, qi_if_ne, qi_icmp_ne, qi_if_lt, qi_icmp_lt, qi_if_ge, qi_icmp_ge, qi_if_gt, qi_icmp_gt, qi_if_le, qi_icmp_le, qi_sw, qi_get, qi_put, qi_iald, qi_lald, qi_aald, qi_iast, qi_zast, qi_cast, qi_last, qi_aast, qi_alen, qi_new, qi_newa, qi_newq, qi_obj, qi_invS, qi_invV, qi_invI, qi_iret, qi_zret, qi_lret, qi_vret, qi_acopy, qi_max, qi_min, at_o, at_i, at_l, at_q, at_a, lget, lset, lclr, lnon, lnth, spl, shrt, rpush, true_and, and_true, List.set, List.length, Nat.reduceAdd, Nat.reduceLT, Nat.reduceLeDiff, Nat.reduceEqDiff, Nat.reduceSub, o1, p1]
    refine ⟨_, _, c4, ?_⟩
    simp only [qi_push, qi_pushl, qi_iload, qi_lload, qi_aload, qi_istore, qi_astore, qi_lstore, qi_iinc, qi_iadd, qi_isub, qi_imul, qi_iand, qi_ior, qi_ixor, qi_ishl, qi_ishr, qi_iushr, qi_idiv, qi_irem, qi_lor, qi_lmul, qi_ladd, qi_lsub, qi_land, qi_lshl, qi_lshr, qi_i2l, qi_l2i, qi_i2c, qi_lcmp, qi_dup, qi_dup2, qi_pop, qi_if_eq, qi_icmp_eq, qi_if_ne, qi_icmp_ne, qi_if_lt, qi_icmp_lt, qi_if_ge, qi_icmp_ge, qi_if_gt, qi_icmp_gt, qi_if_le, qi_icmp_le, qi_sw, qi_get, qi_put, qi_iald, qi_lald, qi_aald, qi_iast, qi_zast, qi_cast, qi_last, qi_aast, qi_alen, qi_new, qi_newa, qi_newq, qi_obj, qi_invS, qi_invV, qi_invI, qi_iret, qi_zret, qi_lret, qi_vret, qi_acopy, qi_max, qi_min, at_o, at_i, at_l, at_q, at_a, lget, lset, lclr, lnon, lnth, spl, shrt, rpush, true_and, and_true, List.set, List.length, Nat.reduceAdd, Nat.reduceLT, Nat.reduceLeDiff, Nat.reduceEqDiff, Nat.reduceSub, o2, p2]
    refine ⟨_, _, c_P_highestFloor c5 hw' hC hC0, ?_⟩
    simp only [qi_push, qi_pushl, qi_iload, qi_lload, qi_aload, qi_istore, qi_astore, qi_lstore, qi_iinc, qi_iadd, qi_isub, qi_imul, qi_iand, qi_ior, qi_ixor, qi_ishl, qi_ishr, qi_iushr, qi_idiv, qi_irem, qi_lor, qi_lmul, qi_ladd, qi_lsub, qi_land, qi_lshl, qi_lshr, qi_i2l, qi_l2i, qi_i2c, qi_lcmp, qi_dup, qi_dup2, qi_pop, qi_if_eq, qi_icmp_eq, qi_if_ne, qi_icmp_ne, qi_if_lt, qi_icmp_lt, qi_if_ge, qi_icmp_ge, qi_if_gt, qi_icmp_gt, qi_if_le, qi_icmp_le, qi_sw, qi_get, qi_put, qi_iald, qi_lald, qi_aald, qi_iast, qi_zast, qi_cast, qi_last, qi_aast, qi_alen, qi_new, qi_newa, qi_newq, qi_obj, qi_invS, qi_invV, qi_invI, qi_iret, qi_zret, qi_lret, qi_vret, qi_acopy, qi_max, qi_min, at_o, at_i, at_l, at_q, at_a, lget, lset, lclr, lnon, lnth, spl, shrt, rpush, true_and, and_true, List.set, List.length, Nat.reduceAdd, Nat.reduceLT, Nat.reduceLeDiff, Nat.reduceEqDiff, Nat.reduceSub]
    rw [nI_leI (by omega) (by omega)]
    refine ⟨fun z => k1 z, fun z => ?_⟩
    obtain ⟨k3, k4⟩ := k2 z
    rw [k3, k4]
    exact ⟨Or.inl rfl, rfl, rfl⟩
  by_cases w : max (fl0 n C T) (max (fl1 n C T) (fl2 n C T B')) ≤ m
  · obtain ⟨h3, ln', N', fx, us, F, G, d1, d2, d3, d4, d5, d6, d7⟩ := c_Y_measure hl y2 mm2.S c5 hw' hC (by omega)
    obtain ⟨b1, b2, b3⟩ := d2.le hl
    obtain ⟨h4, e1, e2, e3⟩ := c_L_freeAll d3
    have y4 := d2.keep e3 (by omega)
    have g4 : lnG (va_up F 2 (fun _ => 0)) G := by
      obtain ⟨g1, g2, g3, g4, g5⟩ := d4
      exact ⟨g1, up_le g2 (fun _ => Nat.zero_le _), g3, fun _ => by show 0 < 4096; omega, rfl⟩
    have M4 : lnM n C T B' A J us (va_up F 2 (fun _ => 0)) G := d5
    obtain ⟨h5, l, r, f1, f2, f3, f4, f5⟩ := m_hasLine e2 M4 g4 b3 d6 ⟨hn, hw.1⟩ (by omega) (okF_free _) hm
    have y5 := y4.keep (f3.mono (b := ln') (l := 13) (by omega) (by omega)) (by omega)
    have fW : frW h2 h5 y z0 := (d7.trans (e3.toW (by omega))).trans (f3.toW (by omega))
    refine ⟨h5, r, start h5 r (fun _ => ?_) (fun z => absurd w z), ⟨ln', N', 0, y5, Nat.zero_le _, _, _, _, _, _, _, f2, up_G g4 (by omega) (fun s => Nat.le_trans (f4 s) (by omega)), fun z => absurd z (by decide)⟩, fr2.trans fW.toY, ⟨_, _, _, _, _, _, _, c5.keepW fW (by omega) (by omega)⟩, ?_⟩
    · have q1 := d2.1
      have q2 := d3.1
      have q3 := y4.1
      have q4 := e2.1
      simp only [vc_Y_isBinding_34, qi_push, qi_pushl, qi_iload, qi_lload, qi_aload, qi_istore, qi_astore, qi_lstore, qi_iinc, qi_iadd, qi_isub, qi_imul, qi_iand, qi_ior, qi_ixor, qi_ishl, qi_ishr, qi_iushr, qi_idiv, qi_irem, qi_lor, qi_lmul, qi_ladd, qi_lsub, qi_land, qi_lshl, qi_lshr, qi_i2l, qi_l2i, qi_i2c, qi_lcmp, qi_dup, qi_dup2, qi_pop, qi_if_eq, qi_icmp_eq, qi_if_ne, qi_icmp_ne, qi_if_lt, qi_icmp_lt, qi_if_ge, qi_icmp_ge, qi_if_gt, qi_icmp_gt, qi_if_le, qi_icmp_le, qi_sw, qi_get, qi_put, qi_iald, qi_lald, qi_aald, qi_iast, qi_zast, qi_cast, qi_last, qi_aast, qi_alen, qi_new, qi_newa, qi_newq, qi_obj, qi_invS, qi_invV, qi_invI, qi_iret, qi_zret, qi_lret, qi_vret, qi_acopy, qi_max, qi_min, at_o, at_i, at_l, at_q, at_a, lget, lset, lclr, lnon, lnth, spl, shrt, rpush, true_and, and_true, List.set, List.length, Nat.reduceAdd, Nat.reduceLT, Nat.reduceLeDiff, Nat.reduceEqDiff, Nat.reduceSub, o2]
      refine ⟨_, _, d1, ?_⟩
      simp only [qi_push, qi_pushl, qi_iload, qi_lload, qi_aload, qi_istore, qi_astore, qi_lstore, qi_iinc, qi_iadd, qi_isub, qi_imul, qi_iand, qi_ior, qi_ixor, qi_ishl, qi_ishr, qi_iushr, qi_idiv, qi_irem, qi_lor, qi_lmul, qi_ladd, qi_lsub, qi_land, qi_lshl, qi_lshr, qi_i2l, qi_l2i, qi_i2c, qi_lcmp, qi_dup, qi_dup2, qi_pop, qi_if_eq, qi_icmp_eq, qi_if_ne, qi_icmp_ne, qi_if_lt, qi_icmp_lt, qi_if_ge, qi_icmp_ge, qi_if_gt, qi_icmp_gt, qi_if_le, qi_icmp_le, qi_sw, qi_get, qi_put, qi_iald, qi_lald, qi_aald, qi_iast, qi_zast, qi_cast, qi_last, qi_aast, qi_alen, qi_new, qi_newa, qi_newq, qi_obj, qi_invS, qi_invV, qi_invI, qi_iret, qi_zret, qi_lret, qi_vret, qi_acopy, qi_max, qi_min, at_o, at_i, at_l, at_q, at_a, lget, lset, lclr, lnon, lnth, spl, shrt, rpush, true_and, and_true, List.set, List.length, Nat.reduceAdd, Nat.reduceLT, Nat.reduceLeDiff, Nat.reduceEqDiff, Nat.reduceSub, q1, q2]
      refine ⟨_, _, e1, ?_⟩
      simp only [qi_push, qi_pushl, qi_iload, qi_lload, qi_aload, qi_istore, qi_astore, qi_lstore, qi_iinc, qi_iadd, qi_isub, qi_imul, qi_iand, qi_ior, qi_ixor, qi_ishl, qi_ishr, qi_iushr, qi_idiv, qi_irem, qi_lor, qi_lmul, qi_ladd, qi_lsub, qi_land, qi_lshl, qi_lshr, qi_i2l, qi_l2i, qi_i2c, qi_lcmp, qi_dup, qi_dup2, qi_pop, qi_if_eq, qi_icmp_eq, qi_if_ne, qi_icmp_ne, qi_if_lt, qi_icmp_lt, qi_if_ge, qi_icmp_ge, qi_if_gt, qi_icmp_gt, qi_if_le, qi_icmp_le, qi_sw, qi_get, qi_put, qi_iald, qi_lald, qi_aald, qi_iast, qi_zast, qi_cast, qi_last, qi_aast, qi_alen, qi_new, qi_newa, qi_newq, qi_obj, qi_invS, qi_invV, qi_invI, qi_iret, qi_zret, qi_lret, qi_vret, qi_acopy, qi_max, qi_min, at_o, at_i, at_l, at_q, at_a, lget, lset, lclr, lnon, lnth, spl, shrt, rpush, true_and, and_true, List.set, List.length, Nat.reduceAdd, Nat.reduceLT, Nat.reduceLeDiff, Nat.reduceEqDiff, Nat.reduceSub, q3, q4]
      refine ⟨_, _, f1, ?_⟩
      simp only [qi_push, qi_pushl, qi_iload, qi_lload, qi_aload, qi_istore, qi_astore, qi_lstore, qi_iinc, qi_iadd, qi_isub, qi_imul, qi_iand, qi_ior, qi_ixor, qi_ishl, qi_ishr, qi_iushr, qi_idiv, qi_irem, qi_lor, qi_lmul, qi_ladd, qi_lsub, qi_land, qi_lshl, qi_lshr, qi_i2l, qi_l2i, qi_i2c, qi_lcmp, qi_dup, qi_dup2, qi_pop, qi_if_eq, qi_icmp_eq, qi_if_ne, qi_icmp_ne, qi_if_lt, qi_icmp_lt, qi_if_ge, qi_icmp_ge, qi_if_gt, qi_icmp_gt, qi_if_le, qi_icmp_le, qi_sw, qi_get, qi_put, qi_iald, qi_lald, qi_aald, qi_iast, qi_zast, qi_cast, qi_last, qi_aast, qi_alen, qi_new, qi_newa, qi_newq, qi_obj, qi_invS, qi_invV, qi_invI, qi_iret, qi_zret, qi_lret, qi_vret, qi_acopy, qi_max, qi_min, at_o, at_i, at_l, at_q, at_a, lget, lset, lclr, lnon, lnth, spl, shrt, rpush, true_and, and_true, List.set, List.length, Nat.reduceAdd, Nat.reduceLT, Nat.reduceLeDiff, Nat.reduceEqDiff, Nat.reduceSub]
      exact nb_01 r
    · rw [f5]
      unfold linC
      constructor
      · rintro ⟨k, k1, k2⟩; exact ⟨k, k1, (rch_c d5.ne (fun _ _ _ => rfl) k (by omega) _).mp k2⟩
      · rintro ⟨k, k1, k2⟩; exact ⟨k, k1, (rch_c d5.ne (fun _ _ _ => rfl) k (by omega) _).mpr k2⟩
  · refine ⟨h2, false, start h2 false (fun z => absurd z w) (fun _ => ⟨rfl, rfl⟩), S2', fr2, ⟨_, _, _, _, _, _, _, c5⟩, ⟨fun z => (by cases z), fun ⟨k, k1, k2⟩ => ?_⟩⟩
    exact absurd (Nat.le_trans (rch_floors hw.1 hC0 k2) k1) w
end ST
