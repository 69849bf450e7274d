/-! PLAN: what only reads. -/
theorem lp_up {P : Nat → Prop} {n : Nat} (hn : P n) (hs : ∀ x, x < n → P (x + 1) → P x) : ∀ x, x ≤ n → P x := by
  intro x hx
  obtain ⟨k, rfl⟩ : ∃ k, n = x + k := ⟨n - x, by omega⟩
  clear hx
  induction k generalizing x with
  | zero => exact hn
  | succ k ih =>
    refine hs x (by omega) (ih (x + 1) ?_ ?_)
    · rw [show x + 1 + k = x + (k + 1) by omega]; exact hn
    · intro y hy; exact hs y (by omega)
/-- the set of all below n with P -/
def bset (P : Nat → Bool) : Nat → Nat
  | 0 => 0
  | n + 1 => if P n then bset P n ||| 2 ^ n else bset P n
theorem bset_bit (P : Nat → Bool) : ∀ (n i : Nat), (bset P n).testBit i = (decide (i < n) && P i) := by
  intro n
  induction n with
  | zero => intro i; simp [bset]
  | succ n ih =>
    intro i
    simp only [bset]
    by_cases hi : i = n
    · subst hi
      cases hp : P i <;> simp [ih, Nat.testBit_or, Nat.testBit_two_pow_self]
    · have h2 : (2 ^ n).testBit i = false := by rw [Nat.testBit_two_pow]; simp; omega
      have h3 : decide (i < n + 1) = decide (i < n) := by by_cases q : i < n <;> simp [q] <;> omega
      cases hp : P n <;> simp [ih, Nat.testBit_or, h2, h3]
theorem bset_lt (P : Nat → Bool) (n : Nat) : bset P n < 2 ^ n := tb_lt fun i hi => by rw [bset_bit]; simp; omega
theorem bset_lt12 (P : Nat → Bool) {n : Nat} (h : n ≤ 12) : bset P n < 4096 := Nat.lt_of_lt_of_le (bset_lt P n) (Nat.pow_le_pow_right (by omega) h)
def ab_p (B : Nat → Nat) (t : Nat) : Nat → Nat → Nat
  | 0, f => f
  | x + 1, f => if B x &&& (ab_p B t x f ||| 2 ^ t) = 0 then ab_p B t x f else ab_p B t x f ||| 2 ^ x
def ab_r (B : Nat → Nat) (t n : Nat) : Nat → Nat
  | 0 => 0
  | k + 1 => ab_p B t n (ab_r B t n k)
def aa_p (B : Nat → Nat) : Nat → Nat → Nat
  | 0, f => f
  | x + 1, f => if (aa_p B x f).testBit x then aa_p B x f ||| B x else aa_p B x f
def aa_r (B : Nat → Nat) (n f : Nat) : Nat → Nat
  | 0 => f
  | k + 1 => aa_p B n (aa_r B n f k)
theorem or_lt {a b k : Nat} (ha : a < 2 ^ k) (hb : b < 2 ^ k) : a ||| b < 2 ^ k := Nat.or_lt_two_pow ha hb
theorem pow_lt12 {x : Nat} (h : x < 12) : 2 ^ x < 4096 := Nat.pow_lt_pow_right (a := 2) (m := x) (n := 12) (by omega) h
theorem ab_p_lt {B : Nat → Nat} {t : Nat} : ∀ (x f : Nat), x ≤ 12 → f < 4096 → ab_p B t x f < 4096 := by
  intro x
  induction x with
  | zero => intro f _ hf; exact hf
  | succ x ih =>
    intro f hx hf
    simp only [ab_p]
    split
    · exact ih f (by omega) hf
    · exact or_lt (k := 12) (ih f (by omega) hf) (pow_lt12 (by omega))
theorem ab_r_lt {B : Nat → Nat} {t n : Nat} (hn : n ≤ 12) : ∀ k, ab_r B t n k < 4096 := by
  intro k
  induction k with
  | zero => show 0 < 4096; omega
  | succ k ih => exact ab_p_lt n _ hn ih
theorem aa_p_lt {B : Nat → Nat} (hB : ∀ x, B x < 4096) : ∀ (x f : Nat), f < 4096 → aa_p B x f < 4096 := by
  intro x
  induction x with
  | zero => intro f hf; exact hf
  | succ x ih =>
    intro f hf
    simp only [aa_p]
    split
    · exact or_lt (k := 12) (ih f hf) (hB x)
    · exact ih f hf
theorem aa_r_lt {B : Nat → Nat} (hB : ∀ x, B x < 4096) {n f : Nat} (hf : f < 4096) : ∀ k, aa_r B n f k < 4096 := by
  intro k
  induction k with
  | zero => exact hf
  | succ k ih => exact aa_p_lt hB n _ ih
def osum (B : Nat → Nat) : Nat → Nat
  | 0 => 0
  | n + 1 => osum B n + popc (B n) 13
def mx (f : Nat → Nat) : Nat → Nat
  | 0 => 0
  | n + 1 => max (mx f n) (f n)
theorem mx_le {f : Nat → Nat} {b : Nat} (h : ∀ x, f x ≤ b) : ∀ n, mx f n ≤ b := by
  intro n
  induction n with
  | zero => exact Nat.zero_le _
  | succ n ih => exact Nat.max_le.mpr ⟨ih, h n⟩
def usd (S : Nat → Nat) : Nat → Nat
  | 0 => 0
  | n + 1 => if S n = 0 then usd S n else usd S n ||| 2 ^ S n
theorem usd_lt {S : Nat → Nat} (h : ∀ x, S x ≤ 12) : ∀ n, usd S n < 8192 := by
  intro n
  induction n with
  | zero => show 0 < 8192; omega
  | succ n ih =>
    simp only [usd]
    split
    · exact ih
    · exact or_lt (k := 13) ih (Nat.pow_lt_pow_right (by omega) (by have := h n; omega))
def ru (s d : Nat) : Nat := (s + d - 1) / d
/-- a Plan's rows are small -/
def pw (n : Nat) (T B A J S : Nat → Nat) : Prop := n ≤ 12 ∧ (∀ x, T x ≤ 60) ∧ (∀ x, B x < 4096) ∧ (∀ x, A x < 4096) ∧ (∀ x, J x < 4096) ∧ ∀ x, S x ≤ 12
theorem ni_every {n : Nat} (h : n ≤ 12) : nI 1 <<< (nI n &&& 31) - nI 1 = nI (2 ^ n - 1) := by
  rw [ni_1shl (by omega), pk_sub (Nat.two_pow_pos n)]
theorem every_lt {n : Nat} (h : n ≤ 12) : 2 ^ n - 1 < 4096 := by
  have : 2 ^ n ≤ 2 ^ 12 := Nat.pow_le_pow_right (by omega) h
  have := Nat.two_pow_pos n
  omega
section PL
variable {h : hc_H} {p n : Nat} {c : Int32} {T B A J S : Nat → Nat}
theorem c_P_hasPair (hp : isPl h p n c T B A J S) (hn : n ≤ 12) (a b : Int32) : MA M_P_hasPair [.ref p, .int a, .int b] h (some (.int (nI (decide ((0 ≤ a ∧ a < nI n) ∧ (0 ≤ b ∧ b < nI n) ∧ ¬ a = b)).toNat))) h := by
  refine MX.of (lv := [some (.ref p), some (.int a), some (.int b)]) 0 rfl (by decide) (Nat.le_of_ble_eq_true rfl) (sn_P_hasPair_0 _ _ _ ?_)
  simp only [vc_P_hasPair_0, qi_push, qi_pushl, qi_iload, qi_lload, qi_aload, qi_istore, qi_astore, qi_lstore, qi_iinc, qi_iadd, qi_isub, qi_imul, qi_iand, qi_ior, qi_ixor, qi_ishl, qi_ishr, qi_iushr, qi_idiv, qi_irem, qi_lor, qi_lmul, qi_ladd, qi_lsub, qi_land, qi_lshl, qi_lshr, qi_i2l, qi_l2i, qi_i2c, qi_lcmp, qi_dup, qi_dup2, qi_pop, qi_if_eq, qi_icmp_eq, qi_if_ne, qi_icmp_ne, qi_if_lt, qi_icmp_lt, qi_if_ge, qi_icmp_ge, qi_if_gt, qi_icmp_gt, qi_if_le, qi_icmp_le, qi_sw, qi_get, qi_put, qi_iald, qi_lald, qi_aald, qi_iast, qi_zast, qi_cast, qi_last, qi_aast, qi_alen, qi_new, qi_newa, qi_newq, qi_obj, qi_invS, qi_invV, qi_invI, qi_iret, qi_zret, qi_lret, qi_vret, qi_acopy, qi_max, qi_min, at_o, at_i, at_l, at_q, at_a, lget, lset, lclr, lnon, lnth, spl, shrt, rpush, true_and, and_true, List.set, List.length, Nat.reduceAdd, Nat.reduceLT, Nat.reduceLeDiff, Nat.reduceEqDiff, Nat.reduceSub, hp.1]
  refine ⟨_, _, c_P_has hp hn a, ?_⟩
  simp only [vc_P_hasPair_25, vc_P_hasPair_26, qi_push, qi_pushl, qi_iload, qi_lload, qi_aload, qi_istore, qi_astore, qi_lstore, qi_iinc, qi_iadd, qi_isub, qi_imul, qi_iand, qi_ior, qi_ixor, qi_ishl, qi_ishr, qi_iushr, qi_idiv, qi_irem, qi_lor, qi_lmul, qi_ladd, qi_lsub, qi_land, qi_lshl, qi_lshr, qi_i2l, qi_l2i, qi_i2c, qi_lcmp, qi_dup, qi_dup2, qi_pop, qi_if_eq, qi_icmp_eq, qi_if_ne, qi_icmp_ne, qi_if_lt, qi_icmp_lt, qi_if_ge, qi_icmp_ge, qi_if_gt, qi_icmp_gt, qi_if_le, qi_icmp_le, qi_sw, qi_get, qi_put, qi_iald, qi_lald, qi_aald, qi_iast, qi_zast, qi_cast, qi_last, qi_aast, qi_alen, qi_new, qi_newa, qi_newq, qi_obj, qi_invS, qi_invV, qi_invI, qi_iret, qi_zret, qi_lret, qi_vret, qi_acopy, qi_max, qi_min, at_o, at_i, at_l, at_q, at_a, lget, lset, lclr, lnon, lnth, spl, shrt, rpush, true_and, and_true, List.set, List.length, Nat.reduceAdd, Nat.reduceLT, Nat.reduceLeDiff, Nat.reduceEqDiff, Nat.reduceSub, nb_eq0, nb_ne0, decide_eq_true_eq, decide_eq_false_iff_not, hp.1]
  refine ⟨fun c1 => ⟨Or.inl rfl, ?_⟩, fun c1 => ⟨_, _, c_P_has hp hn b, ?_⟩⟩
  · rw [decide_eq_false (fun q => c1 q.1)]; rfl
  · simp only [qi_push, qi_pushl, qi_iload, qi_lload, qi_aload, qi_istore, qi_astore, qi_lstore, qi_iinc, qi_iadd, qi_isub, qi_imul, qi_iand, qi_ior, qi_ixor, qi_ishl, qi_ishr, qi_iushr, qi_idiv, qi_irem, qi_lor, qi_lmul, qi_ladd, qi_lsub, qi_land, qi_lshl, qi_lshr, qi_i2l, qi_l2i, qi_i2c, qi_lcmp, qi_dup, qi_dup2, qi_pop, qi_if_eq, qi_icmp_eq, qi_if_ne, qi_icmp_ne, qi_if_lt, qi_icmp_lt, qi_if_ge, qi_icmp_ge, qi_if_gt, qi_icmp_gt, qi_if_le, qi_icmp_le, qi_sw, qi_get, qi_put, qi_iald, qi_lald, qi_aald, qi_iast, qi_zast, qi_cast, qi_last, qi_aast, qi_alen, qi_new, qi_newa, qi_newq, qi_obj, qi_invS, qi_invV, qi_invI, qi_iret, qi_zret, qi_lret, qi_vret, qi_acopy, qi_max, qi_min, at_o, at_i, at_l, at_q, at_a, lget, lset, lclr, lnon, lnth, spl, shrt, rpush, true_and, and_true, List.set, List.length, Nat.reduceAdd, Nat.reduceLT, Nat.reduceLeDiff, Nat.reduceEqDiff, Nat.reduceSub, nb_eq0, nb_ne0, decide_eq_true_eq, decide_eq_false_iff_not]
    refine ⟨fun c2 => ⟨Or.inl rfl, ?_⟩, fun c2 => ⟨fun c3 => ⟨Or.inl rfl, ?_⟩, fun c3 => ⟨Or.inr rfl, ?_⟩⟩⟩
    · rw [decide_eq_false (fun q => c2 q.2.1)]; rfl
    · rw [decide_eq_false (fun q => q.2.2 c3)]; rfl
    · rw [decide_eq_true ⟨Classical.not_not.mp c1, Classical.not_not.mp c2, c3⟩]; rfl
theorem c_P_isBehind (hp : isPl h p n c T B A J S) (hw : pw n T B A J S) {t o : Nat} (ht : t < 12) (ho : o < 31) : MA M_P_isBehind [.ref p, .int (nI t), .int (nI o)] h (some (.int (nI ((B t).testBit o).toNat))) h := by
  obtain ⟨e0, -, e2, -⟩ := hp
  have hB := hw.2.2.1 t
  refine MX.of (lv := [some (.ref p), some (.int (nI t)), some (.int (nI o))]) 0 rfl (by decide) (Nat.le_of_ble_eq_true rfl) (sn_P_isBehind_0 _ _ _ ?_)
  simp only [vc_P_isBehind_0, vc_P_isBehind_18, vc_P_isBehind_19, qi_push, qi_pushl, qi_iload, qi_lload, qi_aload, qi_istore, qi_astore, qi_lstore, qi_iinc, qi_iadd, qi_isub, qi_imul, qi_iand, qi_ior, qi_ixor, qi_ishl, qi_ishr, qi_iushr, qi_idiv, qi_irem, qi_lor, qi_lmul, qi_ladd, qi_lsub, qi_land, qi_lshl, qi_lshr, qi_i2l, qi_l2i, qi_i2c, qi_lcmp, qi_dup, qi_dup2, qi_pop, qi_if_eq, qi_icmp_eq, qi_if_ne, qi_icmp_ne, qi_if_lt, qi_icmp_lt, qi_if_ge, qi_icmp_ge, qi_if_gt, qi_icmp_gt, qi_if_le, qi_icmp_le, qi_sw, qi_get, qi_put, qi_iald, qi_lald, qi_aald, qi_iast, qi_zast, qi_cast, qi_last, qi_aast, qi_alen, qi_new, qi_newa, qi_newq, qi_obj, qi_invS, qi_invV, qi_invI, qi_iret, qi_zret, qi_lret, qi_vret, qi_acopy, qi_max, qi_min, at_o, at_i, at_l, at_q, at_a, lget, lset, lclr, lnon, lnth, spl, shrt, rpush, true_and, and_true, List.set, List.length, Nat.reduceAdd, Nat.reduceLT, Nat.reduceLeDiff, Nat.reduceEqDiff, Nat.reduceSub, e0, e2]
  refine ⟨vp_in_nI ht (by omega), ?_⟩
  rw [nI_clamp (by omega), ni_bit (by omega) ho, nb_ne1, nb_eq1]
  refine ⟨fun c => ⟨Or.inl rfl, by rw [c]; rfl⟩, fun c => ⟨Or.inr rfl, by rw [c]; rfl⟩⟩
theorem c_P_behind (hp : isPl h p n c T B A J S) (hw : pw n T B A J S) {t : Nat} (ht : t < 12) : MA M_P_behind [.ref p, .int (nI t)] h (some (.int (nI (bset (fun x => (B x).testBit t) n)))) h := by
  have hn := hw.1
  have loop := lp_up (P := fun x => cx hc_tt M_P_behind h h (some (.int (nI (bset (fun x => (B x).testBit t) n)))) 4 [some (.ref p), some (.int (nI t)), some (.int (nI (bset (fun x => (B x).testBit t) x))), some (.int (nI x))] [] h) (n := n)
    (by refine sn_P_behind_4 _ _ _ ?_
        simp only [vc_P_behind_4, vc_P_behind_33, qi_push, qi_pushl, qi_iload, qi_lload, qi_aload, qi_istore, qi_astore, qi_lstore, qi_iinc, qi_iadd, qi_isub, qi_imul, qi_iand, qi_ior, qi_ixor, qi_ishl, qi_ishr, qi_iushr, qi_idiv, qi_irem, qi_lor, qi_lmul, qi_ladd, qi_lsub, qi_land, qi_lshl, qi_lshr, qi_i2l, qi_l2i, qi_i2c, qi_lcmp, qi_dup, qi_dup2, qi_pop, qi_if_eq, qi_icmp_eq, qi_if_ne, qi_icmp_ne, qi_if_lt, qi_icmp_lt, qi_if_ge, qi_icmp_ge, qi_if_gt, qi_icmp_gt, qi_if_le, qi_icmp_le, qi_sw, qi_get, qi_put, qi_iald, qi_lald, qi_aald, qi_iast, qi_zast, qi_cast, qi_last, qi_aast, qi_alen, qi_new, qi_newa, qi_newq, qi_obj, qi_invS, qi_invV, qi_invI, qi_iret, qi_zret, qi_lret, qi_vret, qi_acopy, qi_max, qi_min, at_o, at_i, at_l, at_q, at_a, lget, lset, lclr, lnon, lnth, spl, shrt, rpush, true_and, and_true, List.set, List.length, Nat.reduceAdd, Nat.reduceLT, Nat.reduceLeDiff, Nat.reduceEqDiff, Nat.reduceSub, hp.1]
        exact ⟨fun _ => trivial, fun c => absurd (nI_le (by omega) (by omega)) c⟩)
    (fun x hx ih => by
        refine sn_P_behind_4 _ _ _ ?_
        simp only [vc_P_behind_4, vc_P_behind_33, qi_push, qi_pushl, qi_iload, qi_lload, qi_aload, qi_istore, qi_astore, qi_lstore, qi_iinc, qi_iadd, qi_isub, qi_imul, qi_iand, qi_ior, qi_ixor, qi_ishl, qi_ishr, qi_iushr, qi_idiv, qi_irem, qi_lor, qi_lmul, qi_ladd, qi_lsub, qi_land, qi_lshl, qi_lshr, qi_i2l, qi_l2i, qi_i2c, qi_lcmp, qi_dup, qi_dup2, qi_pop, qi_if_eq, qi_icmp_eq, qi_if_ne, qi_icmp_ne, qi_if_lt, qi_icmp_lt, qi_if_ge, qi_icmp_ge, qi_if_gt, qi_icmp_gt, qi_if_le, qi_icmp_le, qi_sw, qi_get, qi_put, qi_iald, qi_lald, qi_aald, qi_iast, qi_zast, qi_cast, qi_last, qi_aast, qi_alen, qi_new, qi_newa, qi_newq, qi_obj, qi_invS, qi_invV, qi_invI, qi_iret, qi_zret, qi_lret, qi_vret, qi_acopy, qi_max, qi_min, at_o, at_i, at_l, at_q, at_a, lget, lset, lclr, lnon, lnth, spl, shrt, rpush, true_and, and_true, List.set, List.length, Nat.reduceAdd, Nat.reduceLT, Nat.reduceLeDiff, Nat.reduceEqDiff, Nat.reduceSub, hp.1]
        refine ⟨fun c => absurd c (nI_ge hx (by omega)), fun _ => ⟨_, _, c_P_isBehind hp hw (t := x) (o := t) (by omega) (by omega), ?_⟩⟩
        simp only [vc_P_behind_27, qi_push, qi_pushl, qi_iload, qi_lload, qi_aload, qi_istore, qi_astore, qi_lstore, qi_iinc, qi_iadd, qi_isub, qi_imul, qi_iand, qi_ior, qi_ixor, qi_ishl, qi_ishr, qi_iushr, qi_idiv, qi_irem, qi_lor, qi_lmul, qi_ladd, qi_lsub, qi_land, qi_lshl, qi_lshr, qi_i2l, qi_l2i, qi_i2c, qi_lcmp, qi_dup, qi_dup2, qi_pop, qi_if_eq, qi_icmp_eq, qi_if_ne, qi_icmp_ne, qi_if_lt, qi_icmp_lt, qi_if_ge, qi_icmp_ge, qi_if_gt, qi_icmp_gt, qi_if_le, qi_icmp_le, qi_sw, qi_get, qi_put, qi_iald, qi_lald, qi_aald, qi_iast, qi_zast, qi_cast, qi_last, qi_aast, qi_alen, qi_new, qi_newa, qi_newq, qi_obj, qi_invS, qi_invV, qi_invI, qi_iret, qi_zret, qi_lret, qi_vret, qi_acopy, qi_max, qi_min, at_o, at_i, at_l, at_q, at_a, lget, lset, lclr, lnon, lnth, spl, shrt, rpush, true_and, and_true, List.set, List.length, Nat.reduceAdd, Nat.reduceLT, Nat.reduceLeDiff, Nat.reduceEqDiff, Nat.reduceSub, nb_eq0, nb_ne0]
        rw [ni_1shl (by omega), ni_or, nI_add]
        simp only [bset] at ih
        exact ⟨fun c => by rw [if_neg (by simp [c])] at ih; exact ih, fun c => by rw [if_pos (by simpa using c)] at ih; exact ih⟩)
  refine MX.of (lv := [some (.ref p), some (.int (nI t)), none, none]) 2 rfl (by decide) (Nat.le_of_ble_eq_true rfl) (sn_P_behind_0 _ _ _ ?_)
  simp only [vc_P_behind_0, qi_push, qi_pushl, qi_iload, qi_lload, qi_aload, qi_istore, qi_astore, qi_lstore, qi_iinc, qi_iadd, qi_isub, qi_imul, qi_iand, qi_ior, qi_ixor, qi_ishl, qi_ishr, qi_iushr, qi_idiv, qi_irem, qi_lor, qi_lmul, qi_ladd, qi_lsub, qi_land, qi_lshl, qi_lshr, qi_i2l, qi_l2i, qi_i2c, qi_lcmp, qi_dup, qi_dup2, qi_pop, qi_if_eq, qi_icmp_eq, qi_if_ne, qi_icmp_ne, qi_if_lt, qi_icmp_lt, qi_if_ge, qi_icmp_ge, qi_if_gt, qi_icmp_gt, qi_if_le, qi_icmp_le, qi_sw, qi_get, qi_put, qi_iald, qi_lald, qi_aald, qi_iast, qi_zast, qi_cast, qi_last, qi_aast, qi_alen, qi_new, qi_newa, qi_newq, qi_obj, qi_invS, qi_invV, qi_invI, qi_iret, qi_zret, qi_lret, qi_vret, qi_acopy, qi_max, qi_min, at_o, at_i, at_l, at_q, at_a, lget, lset, lclr, lnon, lnth, spl, shrt, rpush, true_and, and_true, List.set, List.length, Nat.reduceAdd, Nat.reduceLT, Nat.reduceLeDiff, Nat.reduceEqDiff, Nat.reduceSub]
  exact loop 0 (Nat.zero_le _)
theorem c_P_allBehind (hp : isPl h p n c T B A J S) (hw : pw n T B A J S) {t : Nat} (ht : t < 12) : MA M_P_allBehind [.ref p, .int (nI t)] h (some (.int (nI (ab_r B t n n)))) h := by
  have hn := hw.1
  obtain ⟨e0, -, e2, -⟩ := hp
  have outer := lp_up (P := fun k => cx hc_tt M_P_allBehind h h (some (.int (nI (ab_r B t n n)))) 4 [some (.ref p), some (.int (nI t)), some (.int (nI (ab_r B t n k))), some (.int (nI k)), none] [] h ∧ ∀ v, cx hc_tt M_P_allBehind h h (some (.int (nI (ab_r B t n n)))) 4 [some (.ref p), some (.int (nI t)), some (.int (nI (ab_r B t n k))), some (.int (nI k)), some (.int v)] [] h) (n := n)
    (by refine ⟨sn_P_allBehind_4 _ _ _ ?_, fun v => sn_P_allBehind_4 _ _ _ ?_⟩
        all_goals (simp only [vc_P_allBehind_4, vc_P_allBehind_59, qi_push, qi_pushl, qi_iload, qi_lload, qi_aload, qi_istore, qi_astore, qi_lstore, qi_iinc, qi_iadd, qi_isub, qi_imul, qi_iand, qi_ior, qi_ixor, qi_ishl, qi_ishr, qi_iushr, qi_idiv, qi_irem, qi_lor, qi_lmul, qi_ladd, qi_lsub, qi_land, qi_lshl, qi_lshr, qi_i2l, qi_l2i, qi_i2c, qi_lcmp, qi_dup, qi_dup2, qi_pop, qi_if_eq, qi_icmp_eq, qi_if_ne, qi_icmp_ne, qi_if_lt, qi_icmp_lt, qi_if_ge, qi_icmp_ge, qi_if_gt, qi_icmp_gt, qi_if_le, qi_icmp_le, qi_sw, qi_get, qi_put, qi_iald, qi_lald, qi_aald, qi_iast, qi_zast, qi_cast, qi_last, qi_aast, qi_alen, qi_new, qi_newa, qi_newq, qi_obj, qi_invS, qi_invV, qi_invI, qi_iret, qi_zret, qi_lret, qi_vret, qi_acopy, qi_max, qi_min, at_o, at_i, at_l, at_q, at_a, lget, lset, lclr, lnon, lnth, spl, shrt, rpush, true_and, and_true, List.set, List.length, Nat.reduceAdd, Nat.reduceLT, Nat.reduceLeDiff, Nat.reduceEqDiff, Nat.reduceSub, e0]
                   exact ⟨fun _ => trivial, fun c => absurd (nI_le (by omega) (by omega)) c⟩))
    (fun k hk ih => by
        have inner := lp_up (P := fun x => cx hc_tt M_P_allBehind h h (some (.int (nI (ab_r B t n n)))) 15 [some (.ref p), some (.int (nI t)), some (.int (nI (ab_p B t x (ab_r B t n k)))), some (.int (nI k)), some (.int (nI x))] [] h) (n := n)
          (by refine sn_P_allBehind_15 _ _ _ ?_
              simp only [vc_P_allBehind_15, vc_P_allBehind_53, qi_push, qi_pushl, qi_iload, qi_lload, qi_aload, qi_istore, qi_astore, qi_lstore, qi_iinc, qi_iadd, qi_isub, qi_imul, qi_iand, qi_ior, qi_ixor, qi_ishl, qi_ishr, qi_iushr, qi_idiv, qi_irem, qi_lor, qi_lmul, qi_ladd, qi_lsub, qi_land, qi_lshl, qi_lshr, qi_i2l, qi_l2i, qi_i2c, qi_lcmp, qi_dup, qi_dup2, qi_pop, qi_if_eq, qi_icmp_eq, qi_if_ne, qi_icmp_ne, qi_if_lt, qi_icmp_lt, qi_if_ge, qi_icmp_ge, qi_if_gt, qi_icmp_gt, qi_if_le, qi_icmp_le, qi_sw, qi_get, qi_put, qi_iald, qi_lald, qi_aald, qi_iast, qi_zast, qi_cast, qi_last, qi_aast, qi_alen, qi_new, qi_newa, qi_newq, qi_obj, qi_invS, qi_invV, qi_invI, qi_iret, qi_zret, qi_lret, qi_vret, qi_acopy, qi_max, qi_min, at_o, at_i, at_l, at_q, at_a, lget, lset, lclr, lnon, lnth, spl, shrt, rpush, true_and, and_true, List.set, List.length, Nat.reduceAdd, Nat.reduceLT, Nat.reduceLeDiff, Nat.reduceEqDiff, Nat.reduceSub, e0]
              rw [nI_add]
              exact ⟨fun _ => ih.2 _, fun c => absurd (nI_le (by omega) (by omega)) c⟩)
          (fun x hx ih2 => by
              refine sn_P_allBehind_15 _ _ _ ?_
              simp only [vc_P_allBehind_15, vc_P_allBehind_47, qi_push, qi_pushl, qi_iload, qi_lload, qi_aload, qi_istore, qi_astore, qi_lstore, qi_iinc, qi_iadd, qi_isub, qi_imul, qi_iand, qi_ior, qi_ixor, qi_ishl, qi_ishr, qi_iushr, qi_idiv, qi_irem, qi_lor, qi_lmul, qi_ladd, qi_lsub, qi_land, qi_lshl, qi_lshr, qi_i2l, qi_l2i, qi_i2c, qi_lcmp, qi_dup, qi_dup2, qi_pop, qi_if_eq, qi_icmp_eq, qi_if_ne, qi_icmp_ne, qi_if_lt, qi_icmp_lt, qi_if_ge, qi_icmp_ge, qi_if_gt, qi_icmp_gt, qi_if_le, qi_icmp_le, qi_sw, qi_get, qi_put, qi_iald, qi_lald, qi_aald, qi_iast, qi_zast, qi_cast, qi_last, qi_aast, qi_alen, qi_new, qi_newa, qi_newq, qi_obj, qi_invS, qi_invV, qi_invI, qi_iret, qi_zret, qi_lret, qi_vret, qi_acopy, qi_max, qi_min, at_o, at_i, at_l, at_q, at_a, lget, lset, lclr, lnon, lnth, spl, shrt, rpush, true_and, and_true, List.set, List.length, Nat.reduceAdd, Nat.reduceLT, Nat.reduceLeDiff, Nat.reduceEqDiff, Nat.reduceSub, e0, e2]
              refine ⟨fun c => absurd c (nI_ge hx (by omega)), fun _ => ⟨vp_in_nI (by omega) (by omega), ?_⟩⟩
              have l1 := hw.2.2.1 x
              have l2 : B x &&& (ab_p B t x (ab_r B t n k) ||| 2 ^ t) < 2 ^ 31 := Nat.lt_of_le_of_lt Nat.and_le_left (by omega)
              rw [nI_clamp (by omega), ni_1shl (by omega), ni_1shl (by omega), ni_or, ni_or, ni_and, nI_add, ← nI_0, nI_eq l2 (by omega)]
              simp only [ab_p] at ih2
              exact ⟨fun c => by rw [if_pos c] at ih2; exact ih2, fun c => by rw [if_neg c] at ih2; exact ih2⟩)
        have i0 := inner 0 (Nat.zero_le _)
        refine ⟨sn_P_allBehind_4 _ _ _ ?_, fun v => sn_P_allBehind_4 _ _ _ ?_⟩
        all_goals (simp only [vc_P_allBehind_4, qi_push, qi_pushl, qi_iload, qi_lload, qi_aload, qi_istore, qi_astore, qi_lstore, qi_iinc, qi_iadd, qi_isub, qi_imul, qi_iand, qi_ior, qi_ixor, qi_ishl, qi_ishr, qi_iushr, qi_idiv, qi_irem, qi_lor, qi_lmul, qi_ladd, qi_lsub, qi_land, qi_lshl, qi_lshr, qi_i2l, qi_l2i, qi_i2c, qi_lcmp, qi_dup, qi_dup2, qi_pop, qi_if_eq, qi_icmp_eq, qi_if_ne, qi_icmp_ne, qi_if_lt, qi_icmp_lt, qi_if_ge, qi_icmp_ge, qi_if_gt, qi_icmp_gt, qi_if_le, qi_icmp_le, qi_sw, qi_get, qi_put, qi_iald, qi_lald, qi_aald, qi_iast, qi_zast, qi_cast, qi_last, qi_aast, qi_alen, qi_new, qi_newa, qi_newq, qi_obj, qi_invS, qi_invV, qi_invI, qi_iret, qi_zret, qi_lret, qi_vret, qi_acopy, qi_max, qi_min, at_o, at_i, at_l, at_q, at_a, lget, lset, lclr, lnon, lnth, spl, shrt, rpush, true_and, and_true, List.set, List.length, Nat.reduceAdd, Nat.reduceLT, Nat.reduceLeDiff, Nat.reduceEqDiff, Nat.reduceSub, e0]
                   exact ⟨fun c => absurd c (nI_ge hk (by omega)), fun _ => i0⟩))
  refine MX.of (lv := [some (.ref p), some (.int (nI t)), none, none, none]) 3 rfl (by decide) (Nat.le_of_ble_eq_true rfl) (sn_P_allBehind_0 _ _ _ ?_)
  simp only [vc_P_allBehind_0, qi_push, qi_pushl, qi_iload, qi_lload, qi_aload, qi_istore, qi_astore, qi_lstore, qi_iinc, qi_iadd, qi_isub, qi_imul, qi_iand, qi_ior, qi_ixor, qi_ishl, qi_ishr, qi_iushr, qi_idiv, qi_irem, qi_lor, qi_lmul, qi_ladd, qi_lsub, qi_land, qi_lshl, qi_lshr, qi_i2l, qi_l2i, qi_i2c, qi_lcmp, qi_dup, qi_dup2, qi_pop, qi_if_eq, qi_icmp_eq, qi_if_ne, qi_icmp_ne, qi_if_lt, qi_icmp_lt, qi_if_ge, qi_icmp_ge, qi_if_gt, qi_icmp_gt, qi_if_le, qi_icmp_le, qi_sw, qi_get, qi_put, qi_iald, qi_lald, qi_aald, qi_iast, qi_zast, qi_cast, qi_last, qi_aast, qi_alen, qi_new, qi_newa, qi_newq, qi_obj, qi_invS, qi_invV, qi_invI, qi_iret, qi_zret, qi_lret, qi_vret, qi_acopy, qi_max, qi_min, at_o, at_i, at_l, at_q, at_a, lget, lset, lclr, lnon, lnth, spl, shrt, rpush, true_and, and_true, List.set, List.length, Nat.reduceAdd, Nat.reduceLT, Nat.reduceLeDiff, Nat.reduceEqDiff, Nat.reduceSub]
  exact (outer 0 (Nat.zero_le _)).1
theorem c_P_allAhead (hp : isPl h p n c T B A J S) (hw : pw n T B A J S) {t : Nat} (ht : t < 12) : MA M_P_allAhead [.ref p, .int (nI t)] h (some (.int (nI (aa_r B n (B t) n)))) h := by
  have hn := hw.1
  have hB := hw.2.2.1
  obtain ⟨e0, -, e2, -⟩ := hp
  have outer := lp_up (P := fun k => ∀ o, cx hc_tt M_P_allAhead h h (some (.int (nI (aa_r B n (B t) n)))) 9 [some (.ref p), some (.int (nI t)), some (.int (nI (aa_r B n (B t) k))), some (.int (nI k)), o] [] h) (n := n)
    (by intro o
        refine sn_P_allAhead_9 _ _ _ ?_
        simp only [vc_P_allAhead_9, vc_P_allAhead_61, qi_push, qi_pushl, qi_iload, qi_lload, qi_aload, qi_istore, qi_astore, qi_lstore, qi_iinc, qi_iadd, qi_isub, qi_imul, qi_iand, qi_ior, qi_ixor, qi_ishl, qi_ishr, qi_iushr, qi_idiv, qi_irem, qi_lor, qi_lmul, qi_ladd, qi_lsub, qi_land, qi_lshl, qi_lshr, qi_i2l, qi_l2i, qi_i2c, qi_lcmp, qi_dup, qi_dup2, qi_pop, qi_if_eq, qi_icmp_eq, qi_if_ne, qi_icmp_ne, qi_if_lt, qi_icmp_lt, qi_if_ge, qi_icmp_ge, qi_if_gt, qi_icmp_gt, qi_if_le, qi_icmp_le, qi_sw, qi_get, qi_put, qi_iald, qi_lald, qi_aald, qi_iast, qi_zast, qi_cast, qi_last, qi_aast, qi_alen, qi_new, qi_newa, qi_newq, qi_obj, qi_invS, qi_invV, qi_invI, qi_iret, qi_zret, qi_lret, qi_vret, qi_acopy, qi_max, qi_min, at_o, at_i, at_l, at_q, at_a, lget, lset, lclr, lnon, lnth, spl, shrt, rpush, true_and, and_true, List.set, List.length, Nat.reduceAdd, Nat.reduceLT, Nat.reduceLeDiff, Nat.reduceEqDiff, Nat.reduceSub, e0]
        exact ⟨fun _ => trivial, fun c => absurd (nI_le (by omega) (by omega)) c⟩)
    (fun k hk ih => by
        have inner := lp_up (P := fun x => cx hc_tt M_P_allAhead h h (some (.int (nI (aa_r B n (B t) n)))) 20 [some (.ref p), some (.int (nI t)), some (.int (nI (aa_p B x (aa_r B n (B t) k)))), some (.int (nI k)), some (.int (nI x))] [] h) (n := n)
          (by refine sn_P_allAhead_20 _ _ _ ?_
              simp only [vc_P_allAhead_20, vc_P_allAhead_55, qi_push, qi_pushl, qi_iload, qi_lload, qi_aload, qi_istore, qi_astore, qi_lstore, qi_iinc, qi_iadd, qi_isub, qi_imul, qi_iand, qi_ior, qi_ixor, qi_ishl, qi_ishr, qi_iushr, qi_idiv, qi_irem, qi_lor, qi_lmul, qi_ladd, qi_lsub, qi_land, qi_lshl, qi_lshr, qi_i2l, qi_l2i, qi_i2c, qi_lcmp, qi_dup, qi_dup2, qi_pop, qi_if_eq, qi_icmp_eq, qi_if_ne, qi_icmp_ne, qi_if_lt, qi_icmp_lt, qi_if_ge, qi_icmp_ge, qi_if_gt, qi_icmp_gt, qi_if_le, qi_icmp_le, qi_sw, qi_get, qi_put, qi_iald, qi_lald, qi_aald, qi_iast, qi_zast, qi_cast, qi_last, qi_aast, qi_alen, qi_new, qi_newa, qi_newq, qi_obj, qi_invS, qi_invV, qi_invI, qi_iret, qi_zret, qi_lret, qi_vret, qi_acopy, qi_max, qi_min, at_o, at_i, at_l, at_q, at_a, lget, lset, lclr, lnon, lnth, spl, shrt, rpush, true_and, and_true, List.set, List.length, Nat.reduceAdd, Nat.reduceLT, Nat.reduceLeDiff, Nat.reduceEqDiff, Nat.reduceSub, e0]
              rw [nI_add]
              exact ⟨fun _ => ih _, fun c => absurd (nI_le (by omega) (by omega)) c⟩)
          (fun x hx ih2 => by
              refine sn_P_allAhead_20 _ _ _ ?_
              simp only [vc_P_allAhead_20, vc_P_allAhead_49, qi_push, qi_pushl, qi_iload, qi_lload, qi_aload, qi_istore, qi_astore, qi_lstore, qi_iinc, qi_iadd, qi_isub, qi_imul, qi_iand, qi_ior, qi_ixor, qi_ishl, qi_ishr, qi_iushr, qi_idiv, qi_irem, qi_lor, qi_lmul, qi_ladd, qi_lsub, qi_land, qi_lshl, qi_lshr, qi_i2l, qi_l2i, qi_i2c, qi_lcmp, qi_dup, qi_dup2, qi_pop, qi_if_eq, qi_icmp_eq, qi_if_ne, qi_icmp_ne, qi_if_lt, qi_icmp_lt, qi_if_ge, qi_icmp_ge, qi_if_gt, qi_icmp_gt, qi_if_le, qi_icmp_le, qi_sw, qi_get, qi_put, qi_iald, qi_lald, qi_aald, qi_iast, qi_zast, qi_cast, qi_last, qi_aast, qi_alen, qi_new, qi_newa, qi_newq, qi_obj, qi_invS, qi_invV, qi_invI, qi_iret, qi_zret, qi_lret, qi_vret, qi_acopy, qi_max, qi_min, at_o, at_i, at_l, at_q, at_a, lget, lset, lclr, lnon, lnth, spl, shrt, rpush, true_and, and_true, List.set, List.length, Nat.reduceAdd, Nat.reduceLT, Nat.reduceLeDiff, Nat.reduceEqDiff, Nat.reduceSub, e0, e2]
              have l1 := aa_p_lt hB x _ (aa_r_lt hB (n := n) (hB t) k)
              rw [ni_bit (by omega) (by omega), nb_ne1, nb_eq1, nI_clamp (by omega), ni_or, nI_add]
              simp only [aa_p] at ih2
              refine ⟨fun c => absurd c (nI_ge hx (by omega)), fun _ => ⟨fun c => by rw [c] at ih2; exact ih2, fun c => ⟨vp_in_nI (by omega) (by omega), by rw [c] at ih2; exact ih2⟩⟩⟩)
        intro o
        refine sn_P_allAhead_9 _ _ _ ?_
        simp only [vc_P_allAhead_9, qi_push, qi_pushl, qi_iload, qi_lload, qi_aload, qi_istore, qi_astore, qi_lstore, qi_iinc, qi_iadd, qi_isub, qi_imul, qi_iand, qi_ior, qi_ixor, qi_ishl, qi_ishr, qi_iushr, qi_idiv, qi_irem, qi_lor, qi_lmul, qi_ladd, qi_lsub, qi_land, qi_lshl, qi_lshr, qi_i2l, qi_l2i, qi_i2c, qi_lcmp, qi_dup, qi_dup2, qi_pop, qi_if_eq, qi_icmp_eq, qi_if_ne, qi_icmp_ne, qi_if_lt, qi_icmp_lt, qi_if_ge, qi_icmp_ge, qi_if_gt, qi_icmp_gt, qi_if_le, qi_icmp_le, qi_sw, qi_get, qi_put, qi_iald, qi_lald, qi_aald, qi_iast, qi_zast, qi_cast, qi_last, qi_aast, qi_alen, qi_new, qi_newa, qi_newq, qi_obj, qi_invS, qi_invV, qi_invI, qi_iret, qi_zret, qi_lret, qi_vret, qi_acopy, qi_max, qi_min, at_o, at_i, at_l, at_q, at_a, lget, lset, lclr, lnon, lnth, spl, shrt, rpush, true_and, and_true, List.set, List.length, Nat.reduceAdd, Nat.reduceLT, Nat.reduceLeDiff, Nat.reduceEqDiff, Nat.reduceSub, e0]
        exact ⟨fun c => absurd c (nI_ge hk (by omega)), fun _ => inner 0 (Nat.zero_le _)⟩)
  refine MX.of (lv := [some (.ref p), some (.int (nI t)), none, none, none]) 3 rfl (by decide) (Nat.le_of_ble_eq_true rfl) (sn_P_allAhead_0 _ _ _ ?_)
  simp only [vc_P_allAhead_0, qi_push, qi_pushl, qi_iload, qi_lload, qi_aload, qi_istore, qi_astore, qi_lstore, qi_iinc, qi_iadd, qi_isub, qi_imul, qi_iand, qi_ior, qi_ixor, qi_ishl, qi_ishr, qi_iushr, qi_idiv, qi_irem, qi_lor, qi_lmul, qi_ladd, qi_lsub, qi_land, qi_lshl, qi_lshr, qi_i2l, qi_l2i, qi_i2c, qi_lcmp, qi_dup, qi_dup2, qi_pop, qi_if_eq, qi_icmp_eq, qi_if_ne, qi_icmp_ne, qi_if_lt, qi_icmp_lt, qi_if_ge, qi_icmp_ge, qi_if_gt, qi_icmp_gt, qi_if_le, qi_icmp_le, qi_sw, qi_get, qi_put, qi_iald, qi_lald, qi_aald, qi_iast, qi_zast, qi_cast, qi_last, qi_aast, qi_alen, qi_new, qi_newa, qi_newq, qi_obj, qi_invS, qi_invV, qi_invI, qi_iret, qi_zret, qi_lret, qi_vret, qi_acopy, qi_max, qi_min, at_o, at_i, at_l, at_q, at_a, lget, lset, lclr, lnon, lnth, spl, shrt, rpush, true_and, and_true, List.set, List.length, Nat.reduceAdd, Nat.reduceLT, Nat.reduceLeDiff, Nat.reduceEqDiff, Nat.reduceSub, e0, e2]
  refine ⟨vp_in_nI ht (by omega), ?_⟩
  rw [nI_clamp (by omega)]
  exact outer 0 (Nat.zero_le _) _
theorem c_P_wouldGoRound (hp : isPl h p n c T B A J S) (hw : pw n T B A J S) {a b : Nat} (ha : a < 12) (hb : b < 12) : MA M_P_wouldGoRound [.ref p, .int (nI a), .int (nI b)] h (some (.int (nI ((ab_r B b n n).testBit a).toNat))) h := by
  refine MX.of (lv := [some (.ref p), some (.int (nI a)), some (.int (nI b))]) 0 rfl (by decide) (Nat.le_of_ble_eq_true rfl) (sn_P_wouldGoRound_0 _ _ _ ?_)
  simp only [vc_P_wouldGoRound_0, qi_push, qi_pushl, qi_iload, qi_lload, qi_aload, qi_istore, qi_astore, qi_lstore, qi_iinc, qi_iadd, qi_isub, qi_imul, qi_iand, qi_ior, qi_ixor, qi_ishl, qi_ishr, qi_iushr, qi_idiv, qi_irem, qi_lor, qi_lmul, qi_ladd, qi_lsub, qi_land, qi_lshl, qi_lshr, qi_i2l, qi_l2i, qi_i2c, qi_lcmp, qi_dup, qi_dup2, qi_pop, qi_if_eq, qi_icmp_eq, qi_if_ne, qi_icmp_ne, qi_if_lt, qi_icmp_lt, qi_if_ge, qi_icmp_ge, qi_if_gt, qi_icmp_gt, qi_if_le, qi_icmp_le, qi_sw, qi_get, qi_put, qi_iald, qi_lald, qi_aald, qi_iast, qi_zast, qi_cast, qi_last, qi_aast, qi_alen, qi_new, qi_newa, qi_newq, qi_obj, qi_invS, qi_invV, qi_invI, qi_iret, qi_zret, qi_lret, qi_vret, qi_acopy, qi_max, qi_min, at_o, at_i, at_l, at_q, at_a, lget, lset, lclr, lnon, lnth, spl, shrt, rpush, true_and, and_true, List.set, List.length, Nat.reduceAdd, Nat.reduceLT, Nat.reduceLeDiff, Nat.reduceEqDiff, Nat.reduceSub, hp.1]
  refine ⟨_, _, c_P_allBehind hp hw hb, ?_⟩
  simp only [vc_P_wouldGoRound_17, vc_P_wouldGoRound_18, qi_push, qi_pushl, qi_iload, qi_lload, qi_aload, qi_istore, qi_astore, qi_lstore, qi_iinc, qi_iadd, qi_isub, qi_imul, qi_iand, qi_ior, qi_ixor, qi_ishl, qi_ishr, qi_iushr, qi_idiv, qi_irem, qi_lor, qi_lmul, qi_ladd, qi_lsub, qi_land, qi_lshl, qi_lshr, qi_i2l, qi_l2i, qi_i2c, qi_lcmp, qi_dup, qi_dup2, qi_pop, qi_if_eq, qi_icmp_eq, qi_if_ne, qi_icmp_ne, qi_if_lt, qi_icmp_lt, qi_if_ge, qi_icmp_ge, qi_if_gt, qi_icmp_gt, qi_if_le, qi_icmp_le, qi_sw, qi_get, qi_put, qi_iald, qi_lald, qi_aald, qi_iast, qi_zast, qi_cast, qi_last, qi_aast, qi_alen, qi_new, qi_newa, qi_newq, qi_obj, qi_invS, qi_invV, qi_invI, qi_iret, qi_zret, qi_lret, qi_vret, qi_acopy, qi_max, qi_min, at_o, at_i, at_l, at_q, at_a, lget, lset, lclr, lnon, lnth, spl, shrt, rpush, true_and, and_true, List.set, List.length, Nat.reduceAdd, Nat.reduceLT, Nat.reduceLeDiff, Nat.reduceEqDiff, Nat.reduceSub]
  have l1 := ab_r_lt (B := B) (t := b) hw.1 n
  rw [ni_bit (by omega) (by omega), nb_ne1, nb_eq1]
  exact ⟨fun c => ⟨Or.inl rfl, by rw [c]; rfl⟩, fun c => ⟨Or.inr rfl, by rw [c]; rfl⟩⟩
theorem c_P_zoneOf (hp : isPl h p n c T B A J S) (hw : pw n T B A J S) {a b : Nat} (ha : a < 12) (hb : b < 12) : MA M_P_zoneOf [.ref p, .int (nI a), .int (nI b)] h (some (.int (nI (if (A a).testBit b then 1 else if (J a).testBit b then 2 else 0)))) h := by
  obtain ⟨e0, -, -, e3, e4, -⟩ := hp
  have hA := hw.2.2.2.1 a
  have hJ := hw.2.2.2.2.1 a
  refine MX.of (lv := [some (.ref p), some (.int (nI a)), some (.int (nI b))]) 0 rfl (by decide) (Nat.le_of_ble_eq_true rfl) (sn_P_zoneOf_0 _ _ _ ?_)
  simp only [vc_P_zoneOf_0, vc_P_zoneOf_16, vc_P_zoneOf_34, vc_P_zoneOf_35, qi_push, qi_pushl, qi_iload, qi_lload, qi_aload, qi_istore, qi_astore, qi_lstore, qi_iinc, qi_iadd, qi_isub, qi_imul, qi_iand, qi_ior, qi_ixor, qi_ishl, qi_ishr, qi_iushr, qi_idiv, qi_irem, qi_lor, qi_lmul, qi_ladd, qi_lsub, qi_land, qi_lshl, qi_lshr, qi_i2l, qi_l2i, qi_i2c, qi_lcmp, qi_dup, qi_dup2, qi_pop, qi_if_eq, qi_icmp_eq, qi_if_ne, qi_icmp_ne, qi_if_lt, qi_icmp_lt, qi_if_ge, qi_icmp_ge, qi_if_gt, qi_icmp_gt, qi_if_le, qi_icmp_le, qi_sw, qi_get, qi_put, qi_iald, qi_lald, qi_aald, qi_iast, qi_zast, qi_cast, qi_last, qi_aast, qi_alen, qi_new, qi_newa, qi_newq, qi_obj, qi_invS, qi_invV, qi_invI, qi_iret, qi_zret, qi_lret, qi_vret, qi_acopy, qi_max, qi_min, at_o, at_i, at_l, at_q, at_a, lget, lset, lclr, lnon, lnth, spl, shrt, rpush, true_and, and_true, List.set, List.length, Nat.reduceAdd, Nat.reduceLT, Nat.reduceLeDiff, Nat.reduceEqDiff, Nat.reduceSub, e0, e3, e4]
  refine ⟨vp_in_nI ha (by omega), ?_⟩
  rw [nI_clamp (by omega), ni_bit (by omega) (by omega), ni_bit (by omega) (by omega)]
  simp only [nb_eq1, Bool.not_eq_true]
  refine ⟨fun c => ⟨vp_in_nI ha (by omega), fun c2 => ?_, fun c2 => ?_⟩, fun c => ?_⟩
  · rw [c, c2]; rfl
  · rw [c, c2]; rfl
  · rw [c]; rfl
theorem c_P_orders (hp : isPl h p n c T B A J S) (hw : pw n T B A J S) : MA M_P_orders [.ref p] h (some (.int (nI (osum B n)))) h := by
  have hn := hw.1
  obtain ⟨e0, -, e2, -⟩ := hp
  have loop := lp_up (P := fun x => cx hc_tt M_P_orders h h (some (.int (nI (osum B n)))) 4 [some (.ref p), some (.int (nI (osum B x))), some (.int (nI x))] [] h) (n := n)
    (by refine sn_P_orders_4 _ _ _ ?_
        simp only [vc_P_orders_4, vc_P_orders_30, qi_push, qi_pushl, qi_iload, qi_lload, qi_aload, qi_istore, qi_astore, qi_lstore, qi_iinc, qi_iadd, qi_isub, qi_imul, qi_iand, qi_ior, qi_ixor, qi_ishl, qi_ishr, qi_iushr, qi_idiv, qi_irem, qi_lor, qi_lmul, qi_ladd, qi_lsub, qi_land, qi_lshl, qi_lshr, qi_i2l, qi_l2i, qi_i2c, qi_lcmp, qi_dup, qi_dup2, qi_pop, qi_if_eq, qi_icmp_eq, qi_if_ne, qi_icmp_ne, qi_if_lt, qi_icmp_lt, qi_if_ge, qi_icmp_ge, qi_if_gt, qi_icmp_gt, qi_if_le, qi_icmp_le, qi_sw, qi_get, qi_put, qi_iald, qi_lald, qi_aald, qi_iast, qi_zast, qi_cast, qi_last, qi_aast, qi_alen, qi_new, qi_newa, qi_newq, qi_obj, qi_invS, qi_invV, qi_invI, qi_iret, qi_zret, qi_lret, qi_vret, qi_acopy, qi_max, qi_min, at_o, at_i, at_l, at_q, at_a, lget, lset, lclr, lnon, lnth, spl, shrt, rpush, true_and, and_true, List.set, List.length, Nat.reduceAdd, Nat.reduceLT, Nat.reduceLeDiff, Nat.reduceEqDiff, Nat.reduceSub, e0]
        exact ⟨fun _ => trivial, fun c => absurd (nI_le (by omega) (by omega)) c⟩)
    (fun x hx ih => by
        refine sn_P_orders_4 _ _ _ ?_
        simp only [vc_P_orders_4, qi_push, qi_pushl, qi_iload, qi_lload, qi_aload, qi_istore, qi_astore, qi_lstore, qi_iinc, qi_iadd, qi_isub, qi_imul, qi_iand, qi_ior, qi_ixor, qi_ishl, qi_ishr, qi_iushr, qi_idiv, qi_irem, qi_lor, qi_lmul, qi_ladd, qi_lsub, qi_land, qi_lshl, qi_lshr, qi_i2l, qi_l2i, qi_i2c, qi_lcmp, qi_dup, qi_dup2, qi_pop, qi_if_eq, qi_icmp_eq, qi_if_ne, qi_icmp_ne, qi_if_lt, qi_icmp_lt, qi_if_ge, qi_icmp_ge, qi_if_gt, qi_icmp_gt, qi_if_le, qi_icmp_le, qi_sw, qi_get, qi_put, qi_iald, qi_lald, qi_aald, qi_iast, qi_zast, qi_cast, qi_last, qi_aast, qi_alen, qi_new, qi_newa, qi_newq, qi_obj, qi_invS, qi_invV, qi_invI, qi_iret, qi_zret, qi_lret, qi_vret, qi_acopy, qi_max, qi_min, at_o, at_i, at_l, at_q, at_a, lget, lset, lclr, lnon, lnth, spl, shrt, rpush, true_and, and_true, List.set, List.length, Nat.reduceAdd, Nat.reduceLT, Nat.reduceLeDiff, Nat.reduceEqDiff, Nat.reduceSub, e0, e2]
        refine ⟨fun c => absurd c (nI_ge hx (by omega)), fun _ => ⟨vp_in_nI (by omega) (by omega), ?_⟩⟩
        rw [nI_clamp (by omega)]
        refine ⟨_, _, c_J_bitCount h (by have := hw.2.2.1 x; omega), ?_⟩
        simp only [qi_push, qi_pushl, qi_iload, qi_lload, qi_aload, qi_istore, qi_astore, qi_lstore, qi_iinc, qi_iadd, qi_isub, qi_imul, qi_iand, qi_ior, qi_ixor, qi_ishl, qi_ishr, qi_iushr, qi_idiv, qi_irem, qi_lor, qi_lmul, qi_ladd, qi_lsub, qi_land, qi_lshl, qi_lshr, qi_i2l, qi_l2i, qi_i2c, qi_lcmp, qi_dup, qi_dup2, qi_pop, qi_if_eq, qi_icmp_eq, qi_if_ne, qi_icmp_ne, qi_if_lt, qi_icmp_lt, qi_if_ge, qi_icmp_ge, qi_if_gt, qi_icmp_gt, qi_if_le, qi_icmp_le, qi_sw, qi_get, qi_put, qi_iald, qi_lald, qi_aald, qi_iast, qi_zast, qi_cast, qi_last, qi_aast, qi_alen, qi_new, qi_newa, qi_newq, qi_obj, qi_invS, qi_invV, qi_invI, qi_iret, qi_zret, qi_lret, qi_vret, qi_acopy, qi_max, qi_min, at_o, at_i, at_l, at_q, at_a, lget, lset, lclr, lnon, lnth, spl, shrt, rpush, true_and, and_true, List.set, List.length, Nat.reduceAdd, Nat.reduceLT, Nat.reduceLeDiff, Nat.reduceEqDiff, Nat.reduceSub]
        rw [nI_add, nI_add]
        exact ih)
  refine MX.of (lv := [some (.ref p), none, none]) 2 rfl (by decide) (Nat.le_of_ble_eq_true rfl) (sn_P_orders_0 _ _ _ ?_)
  simp only [vc_P_orders_0, qi_push, qi_pushl, qi_iload, qi_lload, qi_aload, qi_istore, qi_astore, qi_lstore, qi_iinc, qi_iadd, qi_isub, qi_imul, qi_iand, qi_ior, qi_ixor, qi_ishl, qi_ishr, qi_iushr, qi_idiv, qi_irem, qi_lor, qi_lmul, qi_ladd, qi_lsub, qi_land, qi_lshl, qi_lshr, qi_i2l, qi_l2i, qi_i2c, qi_lcmp, qi_dup, qi_dup2, qi_pop, qi_if_eq, qi_icmp_eq, qi_if_ne, qi_icmp_ne, qi_if_lt, qi_icmp_lt, qi_if_ge, qi_icmp_ge, qi_if_gt, qi_icmp_gt, qi_if_le, qi_icmp_le, qi_sw, qi_get, qi_put, qi_iald, qi_lald, qi_aald, qi_iast, qi_zast, qi_cast, qi_last, qi_aast, qi_alen, qi_new, qi_newa, qi_newq, qi_obj, qi_invS, qi_invV, qi_invI, qi_iret, qi_zret, qi_lret, qi_vret, qi_acopy, qi_max, qi_min, at_o, at_i, at_l, at_q, at_a, lget, lset, lclr, lnon, lnth, spl, shrt, rpush, true_and, and_true, List.set, List.length, Nat.reduceAdd, Nat.reduceLT, Nat.reduceLeDiff, Nat.reduceEqDiff, Nat.reduceSub]
  exact loop 0 (Nat.zero_le _)
theorem osum_le {B : Nat → Nat} : ∀ n, osum B n ≤ n * 13 := by
  have hp : ∀ s k, popc s k ≤ k := by
    intro s k
    induction k with
    | zero => exact Nat.le_refl _
    | succ k ih => simp only [popc]; have : (s.testBit k).toNat ≤ 1 := Bool.toNat_le _; omega
  intro n
  induction n with
  | zero => exact Nat.le_refl _
  | succ n ih => simp only [osum]; have := hp (B n) 13; omega
theorem c_P_pairs (hp : isPl h p n c T B A J S) (hn : n ≤ 12) {a : Nat} {f : Nat → Nat} (ha : h.1 a = some (.inl (0, 12, .inl (fun j => nI (f j))))) (hf : ∀ x, f x < 4096) : MA M_P_pairs [.ref p, .ref a] h (some (.int (nI (osum f n / 2)))) h := by
  obtain ⟨e0, -⟩ := hp
  have loop := lp_up (P := fun x => cx hc_tt M_P_pairs h h (some (.int (nI (osum f n / 2)))) 4 [some (.ref p), some (.ref a), some (.int (nI (osum f x))), some (.int (nI x))] [] h) (n := n)
    (by refine sn_P_pairs_4 _ _ _ ?_
        simp only [vc_P_pairs_4, vc_P_pairs_27, qi_push, qi_pushl, qi_iload, qi_lload, qi_aload, qi_istore, qi_astore, qi_lstore, qi_iinc, qi_iadd, qi_isub, qi_imul, qi_iand, qi_ior, qi_ixor, qi_ishl, qi_ishr, qi_iushr, qi_idiv, qi_irem, qi_lor, qi_lmul, qi_ladd, qi_lsub, qi_land, qi_lshl, qi_lshr, qi_i2l, qi_l2i, qi_i2c, qi_lcmp, qi_dup, qi_dup2, qi_pop, qi_if_eq, qi_icmp_eq, qi_if_ne, qi_icmp_ne, qi_if_lt, qi_icmp_lt, qi_if_ge, qi_icmp_ge, qi_if_gt, qi_icmp_gt, qi_if_le, qi_icmp_le, qi_sw, qi_get, qi_put, qi_iald, qi_lald, qi_aald, qi_iast, qi_zast, qi_cast, qi_last, qi_aast, qi_alen, qi_new, qi_newa, qi_newq, qi_obj, qi_invS, qi_invV, qi_invI, qi_iret, qi_zret, qi_lret, qi_vret, qi_acopy, qi_max, qi_min, at_o, at_i, at_l, at_q, at_a, lget, lset, lclr, lnon, lnth, spl, shrt, rpush, true_and, and_true, List.set, List.length, Nat.reduceAdd, Nat.reduceLT, Nat.reduceLeDiff, Nat.reduceEqDiff, Nat.reduceSub, e0]
        refine ⟨fun _ => ⟨by decide, ?_⟩, fun c => absurd (nI_le (by omega) (by omega)) c⟩
        rw [pk_div (by have := osum_le (B := f) n; omega) (by omega) (by omega)])
    (fun x hx ih => by
        refine sn_P_pairs_4 _ _ _ ?_
        simp only [vc_P_pairs_4, qi_push, qi_pushl, qi_iload, qi_lload, qi_aload, qi_istore, qi_astore, qi_lstore, qi_iinc, qi_iadd, qi_isub, qi_imul, qi_iand, qi_ior, qi_ixor, qi_ishl, qi_ishr, qi_iushr, qi_idiv, qi_irem, qi_lor, qi_lmul, qi_ladd, qi_lsub, qi_land, qi_lshl, qi_lshr, qi_i2l, qi_l2i, qi_i2c, qi_lcmp, qi_dup, qi_dup2, qi_pop, qi_if_eq, qi_icmp_eq, qi_if_ne, qi_icmp_ne, qi_if_lt, qi_icmp_lt, qi_if_ge, qi_icmp_ge, qi_if_gt, qi_icmp_gt, qi_if_le, qi_icmp_le, qi_sw, qi_get, qi_put, qi_iald, qi_lald, qi_aald, qi_iast, qi_zast, qi_cast, qi_last, qi_aast, qi_alen, qi_new, qi_newa, qi_newq, qi_obj, qi_invS, qi_invV, qi_invI, qi_iret, qi_zret, qi_lret, qi_vret, qi_acopy, qi_max, qi_min, at_o, at_i, at_l, at_q, at_a, lget, lset, lclr, lnon, lnth, spl, shrt, rpush, true_and, and_true, List.set, List.length, Nat.reduceAdd, Nat.reduceLT, Nat.reduceLeDiff, Nat.reduceEqDiff, Nat.reduceSub, e0, ha]
        refine ⟨fun c => absurd c (nI_ge hx (by omega)), fun _ => ⟨vp_in_nI (by omega) (by omega), ?_⟩⟩
        rw [nI_clamp (by omega)]
        refine ⟨_, _, c_J_bitCount h (by have := hf x; omega), ?_⟩
        simp only [qi_push, qi_pushl, qi_iload, qi_lload, qi_aload, qi_istore, qi_astore, qi_lstore, qi_iinc, qi_iadd, qi_isub, qi_imul, qi_iand, qi_ior, qi_ixor, qi_ishl, qi_ishr, qi_iushr, qi_idiv, qi_irem, qi_lor, qi_lmul, qi_ladd, qi_lsub, qi_land, qi_lshl, qi_lshr, qi_i2l, qi_l2i, qi_i2c, qi_lcmp, qi_dup, qi_dup2, qi_pop, qi_if_eq, qi_icmp_eq, qi_if_ne, qi_icmp_ne, qi_if_lt, qi_icmp_lt, qi_if_ge, qi_icmp_ge, qi_if_gt, qi_icmp_gt, qi_if_le, qi_icmp_le, qi_sw, qi_get, qi_put, qi_iald, qi_lald, qi_aald, qi_iast, qi_zast, qi_cast, qi_last, qi_aast, qi_alen, qi_new, qi_newa, qi_newq, qi_obj, qi_invS, qi_invV, qi_invI, qi_iret, qi_zret, qi_lret, qi_vret, qi_acopy, qi_max, qi_min, at_o, at_i, at_l, at_q, at_a, lget, lset, lclr, lnon, lnth, spl, shrt, rpush, true_and, and_true, List.set, List.length, Nat.reduceAdd, Nat.reduceLT, Nat.reduceLeDiff, Nat.reduceEqDiff, Nat.reduceSub]
        rw [nI_add, nI_add]
        exact ih)
  refine MX.of (lv := [some (.ref p), some (.ref a), none, none]) 2 rfl (by decide) (Nat.le_of_ble_eq_true rfl) (sn_P_pairs_0 _ _ _ ?_)
  simp only [vc_P_pairs_0, qi_push, qi_pushl, qi_iload, qi_lload, qi_aload, qi_istore, qi_astore, qi_lstore, qi_iinc, qi_iadd, qi_isub, qi_imul, qi_iand, qi_ior, qi_ixor, qi_ishl, qi_ishr, qi_iushr, qi_idiv, qi_irem, qi_lor, qi_lmul, qi_ladd, qi_lsub, qi_land, qi_lshl, qi_lshr, qi_i2l, qi_l2i, qi_i2c, qi_lcmp, qi_dup, qi_dup2, qi_pop, qi_if_eq, qi_icmp_eq, qi_if_ne, qi_icmp_ne, qi_if_lt, qi_icmp_lt, qi_if_ge, qi_icmp_ge, qi_if_gt, qi_icmp_gt, qi_if_le, qi_icmp_le, qi_sw, qi_get, qi_put, qi_iald, qi_lald, qi_aald, qi_iast, qi_zast, qi_cast, qi_last, qi_aast, qi_alen, qi_new, qi_newa, qi_newq, qi_obj, qi_invS, qi_invV, qi_invI, qi_iret, qi_zret, qi_lret, qi_vret, qi_acopy, qi_max, qi_min, at_o, at_i, at_l, at_q, at_a, lget, lset, lclr, lnon, lnth, spl, shrt, rpush, true_and, and_true, List.set, List.length, Nat.reduceAdd, Nat.reduceLT, Nat.reduceLeDiff, Nat.reduceEqDiff, Nat.reduceSub]
  exact loop 0 (Nat.zero_le _)
theorem c_P_everyTask (hp : isPl h p n c T B A J S) (hn : n ≤ 12) : MA M_P_everyTask [.ref p] h (some (.int (nI (2 ^ n - 1)))) h := by
  refine MX.of (lv := [some (.ref p)]) 0 rfl (by decide) (Nat.le_of_ble_eq_true rfl) (sn_P_everyTask_0 _ _ _ ?_)
  simp only [vc_P_everyTask_0, qi_push, qi_pushl, qi_iload, qi_lload, qi_aload, qi_istore, qi_astore, qi_lstore, qi_iinc, qi_iadd, qi_isub, qi_imul, qi_iand, qi_ior, qi_ixor, qi_ishl, qi_ishr, qi_iushr, qi_idiv, qi_irem, qi_lor, qi_lmul, qi_ladd, qi_lsub, qi_land, qi_lshl, qi_lshr, qi_i2l, qi_l2i, qi_i2c, qi_lcmp, qi_dup, qi_dup2, qi_pop, qi_if_eq, qi_icmp_eq, qi_if_ne, qi_icmp_ne, qi_if_lt, qi_icmp_lt, qi_if_ge, qi_icmp_ge, qi_if_gt, qi_icmp_gt, qi_if_le, qi_icmp_le, qi_sw, qi_get, qi_put, qi_iald, qi_lald, qi_aald, qi_iast, qi_zast, qi_cast, qi_last, qi_aast, qi_alen, qi_new, qi_newa, qi_newq, qi_obj, qi_invS, qi_invV, qi_invI, qi_iret, qi_zret, qi_lret, qi_vret, qi_acopy, qi_max, qi_min, at_o, at_i, at_l, at_q, at_a, lget, lset, lclr, lnon, lnth, spl, shrt, rpush, true_and, and_true, List.set, List.length, Nat.reduceAdd, Nat.reduceLT, Nat.reduceLeDiff, Nat.reduceEqDiff, Nat.reduceSub, hp.1]
  rw [ni_every hn]
theorem c_P_total (hp : isPl h p n c T B A J S) (hn : n ≤ 12) : MA M_P_total [.ref p] h (some (.int (nI (tsum T (2 ^ n - 1) n)))) h := by
  refine MX.of (lv := [some (.ref p)]) 0 rfl (by decide) (Nat.le_of_ble_eq_true rfl) (sn_P_total_0 _ _ _ ?_)
  simp only [vc_P_total_0, qi_push, qi_pushl, qi_iload, qi_lload, qi_aload, qi_istore, qi_astore, qi_lstore, qi_iinc, qi_iadd, qi_isub, qi_imul, qi_iand, qi_ior, qi_ixor, qi_ishl, qi_ishr, qi_iushr, qi_idiv, qi_irem, qi_lor, qi_lmul, qi_ladd, qi_lsub, qi_land, qi_lshl, qi_lshr, qi_i2l, qi_l2i, qi_i2c, qi_lcmp, qi_dup, qi_dup2, qi_pop, qi_if_eq, qi_icmp_eq, qi_if_ne, qi_icmp_ne, qi_if_lt, qi_icmp_lt, qi_if_ge, qi_icmp_ge, qi_if_gt, qi_icmp_gt, qi_if_le, qi_icmp_le, qi_sw, qi_get, qi_put, qi_iald, qi_lald, qi_aald, qi_iast, qi_zast, qi_cast, qi_last, qi_aast, qi_alen, qi_new, qi_newa, qi_newq, qi_obj, qi_invS, qi_invV, qi_invI, qi_iret, qi_zret, qi_lret, qi_vret, qi_acopy, qi_max, qi_min, at_o, at_i, at_l, at_q, at_a, lget, lset, lclr, lnon, lnth, spl, shrt, rpush, true_and, and_true, List.set, List.length, Nat.reduceAdd, Nat.reduceLT, Nat.reduceLeDiff, Nat.reduceEqDiff, Nat.reduceSub, hp.1]
  refine ⟨_, _, c_P_everyTask hp hn, ?_⟩
  simp only [qi_push, qi_pushl, qi_iload, qi_lload, qi_aload, qi_istore, qi_astore, qi_lstore, qi_iinc, qi_iadd, qi_isub, qi_imul, qi_iand, qi_ior, qi_ixor, qi_ishl, qi_ishr, qi_iushr, qi_idiv, qi_irem, qi_lor, qi_lmul, qi_ladd, qi_lsub, qi_land, qi_lshl, qi_lshr, qi_i2l, qi_l2i, qi_i2c, qi_lcmp, qi_dup, qi_dup2, qi_pop, qi_if_eq, qi_icmp_eq, qi_if_ne, qi_icmp_ne, qi_if_lt, qi_icmp_lt, qi_if_ge, qi_icmp_ge, qi_if_gt, qi_icmp_gt, qi_if_le, qi_icmp_le, qi_sw, qi_get, qi_put, qi_iald, qi_lald, qi_aald, qi_iast, qi_zast, qi_cast, qi_last, qi_aast, qi_alen, qi_new, qi_newa, qi_newq, qi_obj, qi_invS, qi_invV, qi_invI, qi_iret, qi_zret, qi_lret, qi_vret, qi_acopy, qi_max, qi_min, at_o, at_i, at_l, at_q, at_a, lget, lset, lclr, lnon, lnth, spl, shrt, rpush, true_and, and_true, List.set, List.length, Nat.reduceAdd, Nat.reduceLT, Nat.reduceLeDiff, Nat.reduceEqDiff, Nat.reduceSub, hp.1]
  refine ⟨_, _, c_P_timeOf hp hn (by have := every_lt hn; omega), ?_⟩
  simp only [qi_push, qi_pushl, qi_iload, qi_lload, qi_aload, qi_istore, qi_astore, qi_lstore, qi_iinc, qi_iadd, qi_isub, qi_imul, qi_iand, qi_ior, qi_ixor, qi_ishl, qi_ishr, qi_iushr, qi_idiv, qi_irem, qi_lor, qi_lmul, qi_ladd, qi_lsub, qi_land, qi_lshl, qi_lshr, qi_i2l, qi_l2i, qi_i2c, qi_lcmp, qi_dup, qi_dup2, qi_pop, qi_if_eq, qi_icmp_eq, qi_if_ne, qi_icmp_ne, qi_if_lt, qi_icmp_lt, qi_if_ge, qi_icmp_ge, qi_if_gt, qi_icmp_gt, qi_if_le, qi_icmp_le, qi_sw, qi_get, qi_put, qi_iald, qi_lald, qi_aald, qi_iast, qi_zast, qi_cast, qi_last, qi_aast, qi_alen, qi_new, qi_newa, qi_newq, qi_obj, qi_invS, qi_invV, qi_invI, qi_iret, qi_zret, qi_lret, qi_vret, qi_acopy, qi_max, qi_min, at_o, at_i, at_l, at_q, at_a, lget, lset, lclr, lnon, lnth, spl, shrt, rpush, true_and, and_true, List.set, List.length, Nat.reduceAdd, Nat.reduceLT, Nat.reduceLeDiff, Nat.reduceEqDiff, Nat.reduceSub]
theorem c_P_longestTime (hp : isPl h p n c T B A J S) (hw : pw n T B A J S) : MA M_P_longestTime [.ref p] h (some (.int (nI (mx T n)))) h := by
  have hn := hw.1
  obtain ⟨e0, e1, -⟩ := hp
  have loop := lp_up (P := fun x => cx hc_tt M_P_longestTime h h (some (.int (nI (mx T n)))) 4 [some (.ref p), some (.int (nI (mx T x))), some (.int (nI x))] [] h) (n := n)
    (by refine sn_P_longestTime_4 _ _ _ ?_
        simp only [vc_P_longestTime_4, vc_P_longestTime_29, qi_push, qi_pushl, qi_iload, qi_lload, qi_aload, qi_istore, qi_astore, qi_lstore, qi_iinc, qi_iadd, qi_isub, qi_imul, qi_iand, qi_ior, qi_ixor, qi_ishl, qi_ishr, qi_iushr, qi_idiv, qi_irem, qi_lor, qi_lmul, qi_ladd, qi_lsub, qi_land, qi_lshl, qi_lshr, qi_i2l, qi_l2i, qi_i2c, qi_lcmp, qi_dup, qi_dup2, qi_pop, qi_if_eq, qi_icmp_eq, qi_if_ne, qi_icmp_ne, qi_if_lt, qi_icmp_lt, qi_if_ge, qi_icmp_ge, qi_if_gt, qi_icmp_gt, qi_if_le, qi_icmp_le, qi_sw, qi_get, qi_put, qi_iald, qi_lald, qi_aald, qi_iast, qi_zast, qi_cast, qi_last, qi_aast, qi_alen, qi_new, qi_newa, qi_newq, qi_obj, qi_invS, qi_invV, qi_invI, qi_iret, qi_zret, qi_lret, qi_vret, qi_acopy, qi_max, qi_min, at_o, at_i, at_l, at_q, at_a, lget, lset, lclr, lnon, lnth, spl, shrt, rpush, true_and, and_true, List.set, List.length, Nat.reduceAdd, Nat.reduceLT, Nat.reduceLeDiff, Nat.reduceEqDiff, Nat.reduceSub, e0]
        exact ⟨fun _ => trivial, fun c => absurd (nI_le (by omega) (by omega)) c⟩)
    (fun x hx ih => by
        refine sn_P_longestTime_4 _ _ _ ?_
        simp only [vc_P_longestTime_4, qi_push, qi_pushl, qi_iload, qi_lload, qi_aload, qi_istore, qi_astore, qi_lstore, qi_iinc, qi_iadd, qi_isub, qi_imul, qi_iand, qi_ior, qi_ixor, qi_ishl, qi_ishr, qi_iushr, qi_idiv, qi_irem, qi_lor, qi_lmul, qi_ladd, qi_lsub, qi_land, qi_lshl, qi_lshr, qi_i2l, qi_l2i, qi_i2c, qi_lcmp, qi_dup, qi_dup2, qi_pop, qi_if_eq, qi_icmp_eq, qi_if_ne, qi_icmp_ne, qi_if_lt, qi_icmp_lt, qi_if_ge, qi_icmp_ge, qi_if_gt, qi_icmp_gt, qi_if_le, qi_icmp_le, qi_sw, qi_get, qi_put, qi_iald, qi_lald, qi_aald, qi_iast, qi_zast, qi_cast, qi_last, qi_aast, qi_alen, qi_new, qi_newa, qi_newq, qi_obj, qi_invS, qi_invV, qi_invI, qi_iret, qi_zret, qi_lret, qi_vret, qi_acopy, qi_max, qi_min, at_o, at_i, at_l, at_q, at_a, lget, lset, lclr, lnon, lnth, spl, shrt, rpush, true_and, and_true, List.set, List.length, Nat.reduceAdd, Nat.reduceLT, Nat.reduceLeDiff, Nat.reduceEqDiff, Nat.reduceSub, e0, e1]
        refine ⟨fun c => absurd c (nI_ge hx (by omega)), fun _ => ⟨vp_in_nI (by omega) (by omega), ?_⟩⟩
        have l1 := mx_le hw.2.1 x
        have l2 := hw.2.1 x
        rw [nI_clamp (by omega), ni_max (by omega) (by omega), nI_add]
        exact ih)
  refine MX.of (lv := [some (.ref p), none, none]) 2 rfl (by decide) (Nat.le_of_ble_eq_true rfl) (sn_P_longestTime_0 _ _ _ ?_)
  simp only [vc_P_longestTime_0, qi_push, qi_pushl, qi_iload, qi_lload, qi_aload, qi_istore, qi_astore, qi_lstore, qi_iinc, qi_iadd, qi_isub, qi_imul, qi_iand, qi_ior, qi_ixor, qi_ishl, qi_ishr, qi_iushr, qi_idiv, qi_irem, qi_lor, qi_lmul, qi_ladd, qi_lsub, qi_land, qi_lshl, qi_lshr, qi_i2l, qi_l2i, qi_i2c, qi_lcmp, qi_dup, qi_dup2, qi_pop, qi_if_eq, qi_icmp_eq, qi_if_ne, qi_icmp_ne, qi_if_lt, qi_icmp_lt, qi_if_ge, qi_icmp_ge, qi_if_gt, qi_icmp_gt, qi_if_le, qi_icmp_le, qi_sw, qi_get, qi_put, qi_iald, qi_lald, qi_aald, qi_iast, qi_zast, qi_cast, qi_last, qi_aast, qi_alen, qi_new, qi_newa, qi_newq, qi_obj, qi_invS, qi_invV, qi_invI, qi_iret, qi_zret, qi_lret, qi_vret, qi_acopy, qi_max, qi_min, at_o, at_i, at_l, at_q, at_a, lget, lset, lclr, lnon, lnth, spl, shrt, rpush, true_and, and_true, List.set, List.length, Nat.reduceAdd, Nat.reduceLT, Nat.reduceLeDiff, Nat.reduceEqDiff, Nat.reduceSub]
  exact loop 0 (Nat.zero_le _)
theorem c_P_lastSpot (hp : isPl h p n c T B A J S) (hw : pw n T B A J S) : MA M_P_lastSpot [.ref p] h (some (.int (nI (mx S n)))) h := by
  have hn := hw.1
  obtain ⟨e0, -, -, -, -, e5⟩ := hp
  have loop := lp_up (P := fun x => cx hc_tt M_P_lastSpot h h (some (.int (nI (mx S n)))) 4 [some (.ref p), some (.int (nI (mx S x))), some (.int (nI x))] [] h) (n := n)
    (by refine sn_P_lastSpot_4 _ _ _ ?_
        simp only [vc_P_lastSpot_4, vc_P_lastSpot_29, qi_push, qi_pushl, qi_iload, qi_lload, qi_aload, qi_istore, qi_astore, qi_lstore, qi_iinc, qi_iadd, qi_isub, qi_imul, qi_iand, qi_ior, qi_ixor, qi_ishl, qi_ishr, qi_iushr, qi_idiv, qi_irem, qi_lor, qi_lmul, qi_ladd, qi_lsub, qi_land, qi_lshl, qi_lshr, qi_i2l, qi_l2i, qi_i2c, qi_lcmp, qi_dup, qi_dup2, qi_pop, qi_if_eq, qi_icmp_eq, qi_if_ne, qi_icmp_ne, qi_if_lt, qi_icmp_lt, qi_if_ge, qi_icmp_ge, qi_if_gt, qi_icmp_gt, qi_if_le, qi_icmp_le, qi_sw, qi_get, qi_put, qi_iald, qi_lald, qi_aald, qi_iast, qi_zast, qi_cast, qi_last, qi_aast, qi_alen, qi_new, qi_newa, qi_newq, qi_obj, qi_invS, qi_invV, qi_invI, qi_iret, qi_zret, qi_lret, qi_vret, qi_acopy, qi_max, qi_min, at_o, at_i, at_l, at_q, at_a, lget, lset, lclr, lnon, lnth, spl, shrt, rpush, true_and, and_true, List.set, List.length, Nat.reduceAdd, Nat.reduceLT, Nat.reduceLeDiff, Nat.reduceEqDiff, Nat.reduceSub, e0]
        exact ⟨fun _ => trivial, fun c => absurd (nI_le (by omega) (by omega)) c⟩)
    (fun x hx ih => by
        refine sn_P_lastSpot_4 _ _ _ ?_
        simp only [vc_P_lastSpot_4, qi_push, qi_pushl, qi_iload, qi_lload, qi_aload, qi_istore, qi_astore, qi_lstore, qi_iinc, qi_iadd, qi_isub, qi_imul, qi_iand, qi_ior, qi_ixor, qi_ishl, qi_ishr, qi_iushr, qi_idiv, qi_irem, qi_lor, qi_lmul, qi_ladd, qi_lsub, qi_land, qi_lshl, qi_lshr, qi_i2l, qi_l2i, qi_i2c, qi_lcmp, qi_dup, qi_dup2, qi_pop, qi_if_eq, qi_icmp_eq, qi_if_ne, qi_icmp_ne, qi_if_lt, qi_icmp_lt, qi_if_ge, qi_icmp_ge, qi_if_gt, qi_icmp_gt, qi_if_le, qi_icmp_le, qi_sw, qi_get, qi_put, qi_iald, qi_lald, qi_aald, qi_iast, qi_zast, qi_cast, qi_last, qi_aast, qi_alen, qi_new, qi_newa, qi_newq, qi_obj, qi_invS, qi_invV, qi_invI, qi_iret, qi_zret, qi_lret, qi_vret, qi_acopy, qi_max, qi_min, at_o, at_i, at_l, at_q, at_a, lget, lset, lclr, lnon, lnth, spl, shrt, rpush, true_and, and_true, List.set, List.length, Nat.reduceAdd, Nat.reduceLT, Nat.reduceLeDiff, Nat.reduceEqDiff, Nat.reduceSub, e0, e5]
        refine ⟨fun c => absurd c (nI_ge hx (by omega)), fun _ => ⟨vp_in_nI (by omega) (by omega), ?_⟩⟩
        have l1 := mx_le hw.2.2.2.2.2 x
        have l2 := hw.2.2.2.2.2 x
        rw [nI_clamp (by omega), ni_max (by omega) (by omega), nI_add]
        exact ih)
  refine MX.of (lv := [some (.ref p), none, none]) 2 rfl (by decide) (Nat.le_of_ble_eq_true rfl) (sn_P_lastSpot_0 _ _ _ ?_)
  simp only [vc_P_lastSpot_0, qi_push, qi_pushl, qi_iload, qi_lload, qi_aload, qi_istore, qi_astore, qi_lstore, qi_iinc, qi_iadd, qi_isub, qi_imul, qi_iand, qi_ior, qi_ixor, qi_ishl, qi_ishr, qi_iushr, qi_idiv, qi_irem, qi_lor, qi_lmul, qi_ladd, qi_lsub, qi_land, qi_lshl, qi_lshr, qi_i2l, qi_l2i, qi_i2c, qi_lcmp, qi_dup, qi_dup2, qi_pop, qi_if_eq, qi_icmp_eq, qi_if_ne, qi_icmp_ne, qi_if_lt, qi_icmp_lt, qi_if_ge, qi_icmp_ge, qi_if_gt, qi_icmp_gt, qi_if_le, qi_icmp_le, qi_sw, qi_get, qi_put, qi_iald, qi_lald, qi_aald, qi_iast, qi_zast, qi_cast, qi_last, qi_aast, qi_alen, qi_new, qi_newa, qi_newq, qi_obj, qi_invS, qi_invV, qi_invI, qi_iret, qi_zret, qi_lret, qi_vret, qi_acopy, qi_max, qi_min, at_o, at_i, at_l, at_q, at_a, lget, lset, lclr, lnon, lnth, spl, shrt, rpush, true_and, and_true, List.set, List.length, Nat.reduceAdd, Nat.reduceLT, Nat.reduceLeDiff, Nat.reduceEqDiff, Nat.reduceSub]
  exact loop 0 (Nat.zero_le _)
theorem c_P_putIn (hp : isPl h p n c T B A J S) (hw : pw n T B A J S) {s : Nat} (hs : s < 100) : MA M_P_putIn [.ref p, .int (nI s)] h (some (.int (nI (bset (fun x => S x == s) n)))) h := by
  have hn := hw.1
  obtain ⟨e0, -, -, -, -, e5⟩ := hp
  have loop := lp_up (P := fun x => cx hc_tt M_P_putIn h h (some (.int (nI (bset (fun x => S x == s) n)))) 4 [some (.ref p), some (.int (nI s)), some (.int (nI (bset (fun x => S x == s) x))), some (.int (nI x))] [] h) (n := n)
    (by refine sn_P_putIn_4 _ _ _ ?_
        simp only [vc_P_putIn_4, vc_P_putIn_34, qi_push, qi_pushl, qi_iload, qi_lload, qi_aload, qi_istore, qi_astore, qi_lstore, qi_iinc, qi_iadd, qi_isub, qi_imul, qi_iand, qi_ior, qi_ixor, qi_ishl, qi_ishr, qi_iushr, qi_idiv, qi_irem, qi_lor, qi_lmul, qi_ladd, qi_lsub, qi_land, qi_lshl, qi_lshr, qi_i2l, qi_l2i, qi_i2c, qi_lcmp, qi_dup, qi_dup2, qi_pop, qi_if_eq, qi_icmp_eq, qi_if_ne, qi_icmp_ne, qi_if_lt, qi_icmp_lt, qi_if_ge, qi_icmp_ge, qi_if_gt, qi_icmp_gt, qi_if_le, qi_icmp_le, qi_sw, qi_get, qi_put, qi_iald, qi_lald, qi_aald, qi_iast, qi_zast, qi_cast, qi_last, qi_aast, qi_alen, qi_new, qi_newa, qi_newq, qi_obj, qi_invS, qi_invV, qi_invI, qi_iret, qi_zret, qi_lret, qi_vret, qi_acopy, qi_max, qi_min, at_o, at_i, at_l, at_q, at_a, lget, lset, lclr, lnon, lnth, spl, shrt, rpush, true_and, and_true, List.set, List.length, Nat.reduceAdd, Nat.reduceLT, Nat.reduceLeDiff, Nat.reduceEqDiff, Nat.reduceSub, e0]
        exact ⟨fun _ => trivial, fun c => absurd (nI_le (by omega) (by omega)) c⟩)
    (fun x hx ih => by
        refine sn_P_putIn_4 _ _ _ ?_
        simp only [vc_P_putIn_4, vc_P_putIn_28, qi_push, qi_pushl, qi_iload, qi_lload, qi_aload, qi_istore, qi_astore, qi_lstore, qi_iinc, qi_iadd, qi_isub, qi_imul, qi_iand, qi_ior, qi_ixor, qi_ishl, qi_ishr, qi_iushr, qi_idiv, qi_irem, qi_lor, qi_lmul, qi_ladd, qi_lsub, qi_land, qi_lshl, qi_lshr, qi_i2l, qi_l2i, qi_i2c, qi_lcmp, qi_dup, qi_dup2, qi_pop, qi_if_eq, qi_icmp_eq, qi_if_ne, qi_icmp_ne, qi_if_lt, qi_icmp_lt, qi_if_ge, qi_icmp_ge, qi_if_gt, qi_icmp_gt, qi_if_le, qi_icmp_le, qi_sw, qi_get, qi_put, qi_iald, qi_lald, qi_aald, qi_iast, qi_zast, qi_cast, qi_last, qi_aast, qi_alen, qi_new, qi_newa, qi_newq, qi_obj, qi_invS, qi_invV, qi_invI, qi_iret, qi_zret, qi_lret, qi_vret, qi_acopy, qi_max, qi_min, at_o, at_i, at_l, at_q, at_a, lget, lset, lclr, lnon, lnth, spl, shrt, rpush, true_and, and_true, List.set, List.length, Nat.reduceAdd, Nat.reduceLT, Nat.reduceLeDiff, Nat.reduceEqDiff, Nat.reduceSub, e0, e5]
        refine ⟨fun c => absurd c (nI_ge hx (by omega)), fun _ => ⟨vp_in_nI (by omega) (by omega), ?_⟩⟩
        have l2 := hw.2.2.2.2.2 x
        rw [nI_clamp (by omega), nI_eq (by omega) (by omega), ni_1shl (by omega), ni_or, nI_add]
        simp only [bset, beq_iff_eq] at ih
        exact ⟨fun c => by rw [if_neg c] at ih; exact ih, fun c => by rw [if_pos c] at ih; exact ih⟩)
  refine MX.of (lv := [some (.ref p), some (.int (nI s)), none, none]) 2 rfl (by decide) (Nat.le_of_ble_eq_true rfl) (sn_P_putIn_0 _ _ _ ?_)
  simp only [vc_P_putIn_0, qi_push, qi_pushl, qi_iload, qi_lload, qi_aload, qi_istore, qi_astore, qi_lstore, qi_iinc, qi_iadd, qi_isub, qi_imul, qi_iand, qi_ior, qi_ixor, qi_ishl, qi_ishr, qi_iushr, qi_idiv, qi_irem, qi_lor, qi_lmul, qi_ladd, qi_lsub, qi_land, qi_lshl, qi_lshr, qi_i2l, qi_l2i, qi_i2c, qi_lcmp, qi_dup, qi_dup2, qi_pop, qi_if_eq, qi_icmp_eq, qi_if_ne, qi_icmp_ne, qi_if_lt, qi_icmp_lt, qi_if_ge, qi_icmp_ge, qi_if_gt, qi_icmp_gt, qi_if_le, qi_icmp_le, qi_sw, qi_get, qi_put, qi_iald, qi_lald, qi_aald, qi_iast, qi_zast, qi_cast, qi_last, qi_aast, qi_alen, qi_new, qi_newa, qi_newq, qi_obj, qi_invS, qi_invV, qi_invI, qi_iret, qi_zret, qi_lret, qi_vret, qi_acopy, qi_max, qi_min, at_o, at_i, at_l, at_q, at_a, lget, lset, lclr, lnon, lnth, spl, shrt, rpush, true_and, and_true, List.set, List.length, Nat.reduceAdd, Nat.reduceLT, Nat.reduceLeDiff, Nat.reduceEqDiff, Nat.reduceSub]
  exact loop 0 (Nat.zero_le _)
theorem c_P_allPut (hp : isPl h p n c T B A J S) (hw : pw n T B A J S) : MA M_P_allPut [.ref p] h (some (.int (nI (sdf (2 ^ n - 1) (bset (fun x => S x == 0) n))))) h := by
  refine MX.of (lv := [some (.ref p)]) 0 rfl (by decide) (Nat.le_of_ble_eq_true rfl) (sn_P_allPut_0 _ _ _ ?_)
  simp only [vc_P_allPut_0, qi_push, qi_pushl, qi_iload, qi_lload, qi_aload, qi_istore, qi_astore, qi_lstore, qi_iinc, qi_iadd, qi_isub, qi_imul, qi_iand, qi_ior, qi_ixor, qi_ishl, qi_ishr, qi_iushr, qi_idiv, qi_irem, qi_lor, qi_lmul, qi_ladd, qi_lsub, qi_land, qi_lshl, qi_lshr, qi_i2l, qi_l2i, qi_i2c, qi_lcmp, qi_dup, qi_dup2, qi_pop, qi_if_eq, qi_icmp_eq, qi_if_ne, qi_icmp_ne, qi_if_lt, qi_icmp_lt, qi_if_ge, qi_icmp_ge, qi_if_gt, qi_icmp_gt, qi_if_le, qi_icmp_le, qi_sw, qi_get, qi_put, qi_iald, qi_lald, qi_aald, qi_iast, qi_zast, qi_cast, qi_last, qi_aast, qi_alen, qi_new, qi_newa, qi_newq, qi_obj, qi_invS, qi_invV, qi_invI, qi_iret, qi_zret, qi_lret, qi_vret, qi_acopy, qi_max, qi_min, at_o, at_i, at_l, at_q, at_a, lget, lset, lclr, lnon, lnth, spl, shrt, rpush, true_and, and_true, List.set, List.length, Nat.reduceAdd, Nat.reduceLT, Nat.reduceLeDiff, Nat.reduceEqDiff, Nat.reduceSub, hp.1]
  refine ⟨_, _, c_P_everyTask hp hw.1, ?_⟩
  simp only [qi_push, qi_pushl, qi_iload, qi_lload, qi_aload, qi_istore, qi_astore, qi_lstore, qi_iinc, qi_iadd, qi_isub, qi_imul, qi_iand, qi_ior, qi_ixor, qi_ishl, qi_ishr, qi_iushr, qi_idiv, qi_irem, qi_lor, qi_lmul, qi_ladd, qi_lsub, qi_land, qi_lshl, qi_lshr, qi_i2l, qi_l2i, qi_i2c, qi_lcmp, qi_dup, qi_dup2, qi_pop, qi_if_eq, qi_icmp_eq, qi_if_ne, qi_icmp_ne, qi_if_lt, qi_icmp_lt, qi_if_ge, qi_icmp_ge, qi_if_gt, qi_icmp_gt, qi_if_le, qi_icmp_le, qi_sw, qi_get, qi_put, qi_iald, qi_lald, qi_aald, qi_iast, qi_zast, qi_cast, qi_last, qi_aast, qi_alen, qi_new, qi_newa, qi_newq, qi_obj, qi_invS, qi_invV, qi_invI, qi_iret, qi_zret, qi_lret, qi_vret, qi_acopy, qi_max, qi_min, at_o, at_i, at_l, at_q, at_a, lget, lset, lclr, lnon, lnth, spl, shrt, rpush, true_and, and_true, List.set, List.length, Nat.reduceAdd, Nat.reduceLT, Nat.reduceLeDiff, Nat.reduceEqDiff, Nat.reduceSub, hp.1]
  refine ⟨_, _, c_P_putIn hp hw (by omega), ?_⟩
  simp only [qi_push, qi_pushl, qi_iload, qi_lload, qi_aload, qi_istore, qi_astore, qi_lstore, qi_iinc, qi_iadd, qi_isub, qi_imul, qi_iand, qi_ior, qi_ixor, qi_ishl, qi_ishr, qi_iushr, qi_idiv, qi_irem, qi_lor, qi_lmul, qi_ladd, qi_lsub, qi_land, qi_lshl, qi_lshr, qi_i2l, qi_l2i, qi_i2c, qi_lcmp, qi_dup, qi_dup2, qi_pop, qi_if_eq, qi_icmp_eq, qi_if_ne, qi_icmp_ne, qi_if_lt, qi_icmp_lt, qi_if_ge, qi_icmp_ge, qi_if_gt, qi_icmp_gt, qi_if_le, qi_icmp_le, qi_sw, qi_get, qi_put, qi_iald, qi_lald, qi_aald, qi_iast, qi_zast, qi_cast, qi_last, qi_aast, qi_alen, qi_new, qi_newa, qi_newq, qi_obj, qi_invS, qi_invV, qi_invI, qi_iret, qi_zret, qi_lret, qi_vret, qi_acopy, qi_max, qi_min, at_o, at_i, at_l, at_q, at_a, lget, lset, lclr, lnon, lnth, spl, shrt, rpush, true_and, and_true, List.set, List.length, Nat.reduceAdd, Nat.reduceLT, Nat.reduceLeDiff, Nat.reduceEqDiff, Nat.reduceSub]
  rw [ni_not]
theorem c_P_stationsInUse (hp : isPl h p n c T B A J S) (hw : pw n T B A J S) : MA M_P_stationsInUse [.ref p] h (some (.int (nI (popc (usd S n) 13)))) h := by
  have hn := hw.1
  obtain ⟨e0, -, -, -, -, e5⟩ := hp
  have loop := lp_up (P := fun x => cx hc_tt M_P_stationsInUse h h (some (.int (nI (popc (usd S n) 13)))) 4 [some (.ref p), some (.int (nI (usd S x))), some (.int (nI x))] [] h) (n := n)
    (by refine sn_P_stationsInUse_4 _ _ _ ?_
        simp only [vc_P_stationsInUse_4, vc_P_stationsInUse_38, qi_push, qi_pushl, qi_iload, qi_lload, qi_aload, qi_istore, qi_astore, qi_lstore, qi_iinc, qi_iadd, qi_isub, qi_imul, qi_iand, qi_ior, qi_ixor, qi_ishl, qi_ishr, qi_iushr, qi_idiv, qi_irem, qi_lor, qi_lmul, qi_ladd, qi_lsub, qi_land, qi_lshl, qi_lshr, qi_i2l, qi_l2i, qi_i2c, qi_lcmp, qi_dup, qi_dup2, qi_pop, qi_if_eq, qi_icmp_eq, qi_if_ne, qi_icmp_ne, qi_if_lt, qi_icmp_lt, qi_if_ge, qi_icmp_ge, qi_if_gt, qi_icmp_gt, qi_if_le, qi_icmp_le, qi_sw, qi_get, qi_put, qi_iald, qi_lald, qi_aald, qi_iast, qi_zast, qi_cast, qi_last, qi_aast, qi_alen, qi_new, qi_newa, qi_newq, qi_obj, qi_invS, qi_invV, qi_invI, qi_iret, qi_zret, qi_lret, qi_vret, qi_acopy, qi_max, qi_min, at_o, at_i, at_l, at_q, at_a, lget, lset, lclr, lnon, lnth, spl, shrt, rpush, true_and, and_true, List.set, List.length, Nat.reduceAdd, Nat.reduceLT, Nat.reduceLeDiff, Nat.reduceEqDiff, Nat.reduceSub, e0]
        refine ⟨fun _ => ⟨_, _, c_J_bitCount h (usd_lt hw.2.2.2.2.2 n), ?_⟩, fun c => absurd (nI_le (by omega) (by omega)) c⟩
        simp only [qi_push, qi_pushl, qi_iload, qi_lload, qi_aload, qi_istore, qi_astore, qi_lstore, qi_iinc, qi_iadd, qi_isub, qi_imul, qi_iand, qi_ior, qi_ixor, qi_ishl, qi_ishr, qi_iushr, qi_idiv, qi_irem, qi_lor, qi_lmul, qi_ladd, qi_lsub, qi_land, qi_lshl, qi_lshr, qi_i2l, qi_l2i, qi_i2c, qi_lcmp, qi_dup, qi_dup2, qi_pop, qi_if_eq, qi_icmp_eq, qi_if_ne, qi_icmp_ne, qi_if_lt, qi_icmp_lt, qi_if_ge, qi_icmp_ge, qi_if_gt, qi_icmp_gt, qi_if_le, qi_icmp_le, qi_sw, qi_get, qi_put, qi_iald, qi_lald, qi_aald, qi_iast, qi_zast, qi_cast, qi_last, qi_aast, qi_alen, qi_new, qi_newa, qi_newq, qi_obj, qi_invS, qi_invV, qi_invI, qi_iret, qi_zret, qi_lret, qi_vret, qi_acopy, qi_max, qi_min, at_o, at_i, at_l, at_q, at_a, lget, lset, lclr, lnon, lnth, spl, shrt, rpush, true_and, and_true, List.set, List.length, Nat.reduceAdd, Nat.reduceLT, Nat.reduceLeDiff, Nat.reduceEqDiff, Nat.reduceSub])
    (fun x hx ih => by
        refine sn_P_stationsInUse_4 _ _ _ ?_
        simp only [vc_P_stationsInUse_4, vc_P_stationsInUse_32, qi_push, qi_pushl, qi_iload, qi_lload, qi_aload, qi_istore, qi_astore, qi_lstore, qi_iinc, qi_iadd, qi_isub, qi_imul, qi_iand, qi_ior, qi_ixor, qi_ishl, qi_ishr, qi_iushr, qi_idiv, qi_irem, qi_lor, qi_lmul, qi_ladd, qi_lsub, qi_land, qi_lshl, qi_lshr, qi_i2l, qi_l2i, qi_i2c, qi_lcmp, qi_dup, qi_dup2, qi_pop, qi_if_eq, qi_icmp_eq, qi_if_ne, qi_icmp_ne, qi_if_lt, qi_icmp_lt, qi_if_ge, qi_icmp_ge, qi_if_gt, qi_icmp_gt, qi_if_le, qi_icmp_le, qi_sw, qi_get, qi_put, qi_iald, qi_lald, qi_aald, qi_iast, qi_zast, qi_cast, qi_last, qi_aast, qi_alen, qi_new, qi_newa, qi_newq, qi_obj, qi_invS, qi_invV, qi_invI, qi_iret, qi_zret, qi_lret, qi_vret, qi_acopy, qi_max, qi_min, at_o, at_i, at_l, at_q, at_a, lget, lset, lclr, lnon, lnth, spl, shrt, rpush, true_and, and_true, List.set, List.length, Nat.reduceAdd, Nat.reduceLT, Nat.reduceLeDiff, Nat.reduceEqDiff, Nat.reduceSub, e0, e5]
        have l2 := hw.2.2.2.2.2 x
        refine ⟨fun c => absurd c (nI_ge hx (by omega)), fun _ => ⟨vp_in_nI (by omega) (by omega), ?_⟩⟩
        rw [nI_clamp (by omega), ← nI_0, nI_eq (by omega) (by omega), ni_1shl (by omega), ni_or, nI_add]
        simp only [usd] at ih
        exact ⟨fun c => by rw [if_pos c] at ih; exact ih, fun c => by rw [if_neg c] at ih; exact ⟨vp_in_nI (by omega) (by omega), ih⟩⟩)
  refine MX.of (lv := [some (.ref p), none, none]) 2 rfl (by decide) (Nat.le_of_ble_eq_true rfl) (sn_P_stationsInUse_0 _ _ _ ?_)
  simp only [vc_P_stationsInUse_0, qi_push, qi_pushl, qi_iload, qi_lload, qi_aload, qi_istore, qi_astore, qi_lstore, qi_iinc, qi_iadd, qi_isub, qi_imul, qi_iand, qi_ior, qi_ixor, qi_ishl, qi_ishr, qi_iushr, qi_idiv, qi_irem, qi_lor, qi_lmul, qi_ladd, qi_lsub, qi_land, qi_lshl, qi_lshr, qi_i2l, qi_l2i, qi_i2c, qi_lcmp, qi_dup, qi_dup2, qi_pop, qi_if_eq, qi_icmp_eq, qi_if_ne, qi_icmp_ne, qi_if_lt, qi_icmp_lt, qi_if_ge, qi_icmp_ge, qi_if_gt, qi_icmp_gt, qi_if_le, qi_icmp_le, qi_sw, qi_get, qi_put, qi_iald, qi_lald, qi_aald, qi_iast, qi_zast, qi_cast, qi_last, qi_aast, qi_alen, qi_new, qi_newa, qi_newq, qi_obj, qi_invS, qi_invV, qi_invI, qi_iret, qi_zret, qi_lret, qi_vret, qi_acopy, qi_max, qi_min, at_o, at_i, at_l, at_q, at_a, lget, lset, lclr, lnon, lnth, spl, shrt, rpush, true_and, and_true, List.set, List.length, Nat.reduceAdd, Nat.reduceLT, Nat.reduceLeDiff, Nat.reduceEqDiff, Nat.reduceSub]
  exact loop 0 (Nat.zero_le _)
theorem c_P_roundedUp {s d : Nat} (hs : s < 2 ^ 29) (hd : d < 2 ^ 29) (h0 : 0 < d) : MA M_P_roundedUp [.int (nI s), .int (nI d)] h (some (.int (nI (ru s d)))) h := by
  refine MX.of (lv := [some (.int (nI s)), some (.int (nI d))]) 0 rfl (by decide) (Nat.le_of_ble_eq_true rfl) (sn_P_roundedUp_0 _ _ _ ?_)
  simp only [vc_P_roundedUp_0, vc_P_roundedUp_14, vc_P_roundedUp_15, qi_push, qi_pushl, qi_iload, qi_lload, qi_aload, qi_istore, qi_astore, qi_lstore, qi_iinc, qi_iadd, qi_isub, qi_imul, qi_iand, qi_ior, qi_ixor, qi_ishl, qi_ishr, qi_iushr, qi_idiv, qi_irem, qi_lor, qi_lmul, qi_ladd, qi_lsub, qi_land, qi_lshl, qi_lshr, qi_i2l, qi_l2i, qi_i2c, qi_lcmp, qi_dup, qi_dup2, qi_pop, qi_if_eq, qi_icmp_eq, qi_if_ne, qi_icmp_ne, qi_if_lt, qi_icmp_lt, qi_if_ge, qi_icmp_ge, qi_if_gt, qi_icmp_gt, qi_if_le, qi_icmp_le, qi_sw, qi_get, qi_put, qi_iald, qi_lald, qi_aald, qi_iast, qi_zast, qi_cast, qi_last, qi_aast, qi_alen, qi_new, qi_newa, qi_newq, qi_obj, qi_invS, qi_invV, qi_invI, qi_iret, qi_zret, qi_lret, qi_vret, qi_acopy, qi_max, qi_min, at_o, at_i, at_l, at_q, at_a, lget, lset, lclr, lnon, lnth, spl, shrt, rpush, true_and, and_true, List.set, List.length, Nat.reduceAdd, Nat.reduceLT, Nat.reduceLeDiff, Nat.reduceEqDiff, Nat.reduceSub]
  refine ⟨fun c => absurd c (nI_nle h0 (by omega)), fun _ => ⟨nI_ne0 h0 (by omega), ?_⟩⟩
  rw [nI_add, pk_sub (by omega), pk_div (by omega) h0 (by omega)]
  rfl
end PL
