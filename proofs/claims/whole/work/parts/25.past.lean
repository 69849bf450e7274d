/-! PLAN: taking off, the constructor. PAST. -/
def tmS (n C : Nat) (T B A J S : Nat → Nat) : Nat → Nat → Nat
  | 0 => S
  | x + 1 => if tmS n C T B A J S x x ≠ 0 ∧ wn n C T B A J (tmS n C T B A J S x) x (tmS n C T B A J S x x) ≠ 0 then va_up (tmS n C T B A J S x) x 0 else tmS n C T B A J S x
theorem tmS_le {n C : Nat} {T B A J S : Nat → Nat} (hS : ∀ x, S x ≤ 12) : ∀ k x, tmS n C T B A J S k x ≤ 12 := by
  intro k
  induction k with
  | zero => exact hS
  | succ k ih =>
    intro x
    simp only [tmS]
    split
    · unfold va_up; split <;> first | omega | exact ih x
    · exact ih x
theorem c_P_takeOffMisfits {h : hc_H} {p n C : Nat} {T B A J S : Nat → Nat} (hp : isPl h p n (nI C) T B A J S) (hw : pw n T B A J S) (hC : C < 1000) : ∃ h', MA M_P_takeOffMisfits [.ref p] h none h' ∧ isPl h' p n (nI C) T B A J (tmS n C T B A J S n) ∧ frm h h' p 6 := by
  have hn := hw.1
  let hx : Nat → hc_H := fun x => hc_set h (p + 5) (.inl (0, 12, .inl (fun j => nI (tmS n C T B A J S x j))))
  have hpx : ∀ x, isPl (hx x) p n (nI C) T B A J (tmS n C T B A J S x) := fun x => hp.setS
  have hwx : ∀ x, pw n T B A J (tmS n C T B A J S x) := fun x => ⟨hw.1, hw.2.1, hw.2.2.1, hw.2.2.2.1, hw.2.2.2.2.1, tmS_le hw.2.2.2.2.2 x⟩
  refine ⟨hx n, ?_, hpx n, frm.rfl'.set (by omega)⟩
  have loop := lp_up (P := fun x => cx hc_tt M_P_takeOffMisfits h (hx n) none 2 [some (.ref p), some (.int (nI x))] [] (hx x)) (n := n)
    (by refine sn_P_takeOffMisfits_2 _ _ _ ?_
        simp only [vc_P_takeOffMisfits_2, vc_P_takeOffMisfits_46, qi_push, qi_pushl, qi_iload, qi_lload, qi_aload, qi_istore, qi_astore, qi_lstore, qi_iinc, qi_iadd, qi_isub, qi_imul, qi_iand, qi_ior, qi_ixor, qi_ishl, qi_ishr, qi_iushr, qi_idiv, qi_irem, qi_lor, qi_lmul, qi_ladd, qi_lsub, qi_land, qi_lshl, qi_lshr, qi_i2l, qi_l2i, qi_i2c, qi_lcmp, qi_dup, qi_dup2, qi_pop, qi_if_eq, qi_icmp_eq, qi_if_ne, qi_icmp_ne, qi_if_lt, qi_icmp_lt, qi_if_ge, qi_icmp_ge, qi_if_gt, qi_icmp_gt, qi_if_le, qi_icmp_le, qi_sw, qi_get, qi_put, qi_iald, qi_lald, qi_aald, qi_iast, qi_zast, qi_cast, qi_last, qi_aast, qi_alen, qi_new, qi_newa, qi_newq, qi_obj, qi_invS, qi_invV, qi_invI, qi_iret, qi_zret, qi_lret, qi_vret, qi_acopy, qi_max, qi_min, at_o, at_i, at_l, at_q, at_a, lget, lset, lclr, lnon, lnth, spl, shrt, rpush, true_and, and_true, List.set, List.length, Nat.reduceAdd, Nat.reduceLT, Nat.reduceLeDiff, Nat.reduceEqDiff, Nat.reduceSub, (hpx n).1]
        exact ⟨fun _ => trivial, fun c => absurd (nI_le (by omega) (by omega)) c⟩)
    (fun x hxn ih => by
        refine sn_P_takeOffMisfits_2 _ _ _ ?_
        have e0 := (hpx x).1
        have e5 := (hpx x).2.2.2.2.2
        have hv : vp_in (nI x) 12 := vp_in_nI (by omega) (by omega)
        have lS := (hwx x).2.2.2.2.2 x
        simp only [vc_P_takeOffMisfits_2, vc_P_takeOffMisfits_40, qi_push, qi_pushl, qi_iload, qi_lload, qi_aload, qi_istore, qi_astore, qi_lstore, qi_iinc, qi_iadd, qi_isub, qi_imul, qi_iand, qi_ior, qi_ixor, qi_ishl, qi_ishr, qi_iushr, qi_idiv, qi_irem, qi_lor, qi_lmul, qi_ladd, qi_lsub, qi_land, qi_lshl, qi_lshr, qi_i2l, qi_l2i, qi_i2c, qi_lcmp, qi_dup, qi_dup2, qi_pop, qi_if_eq, qi_icmp_eq, qi_if_ne, qi_icmp_ne, qi_if_lt, qi_icmp_lt, qi_if_ge, qi_icmp_ge, qi_if_gt, qi_icmp_gt, qi_if_le, qi_icmp_le, qi_sw, qi_get, qi_put, qi_iald, qi_lald, qi_aald, qi_iast, qi_zast, qi_cast, qi_last, qi_aast, qi_alen, qi_new, qi_newa, qi_newq, qi_obj, qi_invS, qi_invV, qi_invI, qi_iret, qi_zret, qi_lret, qi_vret, qi_acopy, qi_max, qi_min, at_o, at_i, at_l, at_q, at_a, lget, lset, lclr, lnon, lnth, spl, shrt, rpush, true_and, and_true, List.set, List.length, Nat.reduceAdd, Nat.reduceLT, Nat.reduceLeDiff, Nat.reduceEqDiff, Nat.reduceSub, e0, e5]
        refine ⟨fun c => absurd c (nI_ge hxn (by omega)), fun _ => ⟨hv, ?_⟩⟩
        rw [nI_clamp (by omega), ← nI_0, nI_eq (by omega) (by omega), nI_add]
        have i1 : tmS n C T B A J S (x + 1) = if tmS n C T B A J S x x ≠ 0 ∧ wn n C T B A J (tmS n C T B A J S x) x (tmS n C T B A J S x x) ≠ 0 then va_up (tmS n C T B A J S x) x 0 else tmS n C T B A J S x := rfl
        have same : tmS n C T B A J S (x + 1) = tmS n C T B A J S x → hx (x + 1) = hx x := fun e => by show hc_set _ _ _ = hc_set _ _ _; rw [e]
        refine ⟨fun c => ?_, fun c => ⟨hv, _, _, c_P_whyNot (hpx x) (hwx x) hC (by omega) (by omega), ?_⟩⟩
        · rw [if_neg (fun q => q.1 c)] at i1
          rw [← same i1]; exact ih
        · have l6 := wn_le n C T B A J (tmS n C T B A J S x) x (tmS n C T B A J S x x)
          simp only [qi_push, qi_pushl, qi_iload, qi_lload, qi_aload, qi_istore, qi_astore, qi_lstore, qi_iinc, qi_iadd, qi_isub, qi_imul, qi_iand, qi_ior, qi_ixor, qi_ishl, qi_ishr, qi_iushr, qi_idiv, qi_irem, qi_lor, qi_lmul, qi_ladd, qi_lsub, qi_land, qi_lshl, qi_lshr, qi_i2l, qi_l2i, qi_i2c, qi_lcmp, qi_dup, qi_dup2, qi_pop, qi_if_eq, qi_icmp_eq, qi_if_ne, qi_icmp_ne, qi_if_lt, qi_icmp_lt, qi_if_ge, qi_icmp_ge, qi_if_gt, qi_icmp_gt, qi_if_le, qi_icmp_le, qi_sw, qi_get, qi_put, qi_iald, qi_lald, qi_aald, qi_iast, qi_zast, qi_cast, qi_last, qi_aast, qi_alen, qi_new, qi_newa, qi_newq, qi_obj, qi_invS, qi_invV, qi_invI, qi_iret, qi_zret, qi_lret, qi_vret, qi_acopy, qi_max, qi_min, at_o, at_i, at_l, at_q, at_a, lget, lset, lclr, lnon, lnth, spl, shrt, rpush, true_and, and_true, List.set, List.length, Nat.reduceAdd, Nat.reduceLT, Nat.reduceLeDiff, Nat.reduceEqDiff, Nat.reduceSub, (hpx x).1, (hpx x).2.2.2.2.2, hv]
          rw [nI_eq (by omega) (by omega), nI_clamp (by omega), upd_nI, nI_add]
          refine ⟨fun c2 => ?_, fun c2 => ?_⟩
          · rw [if_neg (fun q => q.2 c2)] at i1
            rw [← same i1]; exact ih
          · rw [if_pos ⟨c, c2⟩] at i1
            have e9 : hc_set (hx x) (p + 5) (.inl (0, 12, .inl (fun j => nI (va_up (tmS n C T B A J S x) x 0 j)))) = hx (x + 1) := by
              show hc_set (hc_set _ _ _) _ _ = hc_set _ _ _
              rw [hs_hs, i1]
            rw [e9]; exact ih)
  refine MX.of (lv := [some (.ref p), none]) 1 rfl (by decide) (Nat.le_of_ble_eq_true rfl) (sn_P_takeOffMisfits_0 _ _ _ ?_)
  simp only [vc_P_takeOffMisfits_0, qi_push, qi_pushl, qi_iload, qi_lload, qi_aload, qi_istore, qi_astore, qi_lstore, qi_iinc, qi_iadd, qi_isub, qi_imul, qi_iand, qi_ior, qi_ixor, qi_ishl, qi_ishr, qi_iushr, qi_idiv, qi_irem, qi_lor, qi_lmul, qi_ladd, qi_lsub, qi_land, qi_lshl, qi_lshr, qi_i2l, qi_l2i, qi_i2c, qi_lcmp, qi_dup, qi_dup2, qi_pop, qi_if_eq, qi_icmp_eq, qi_if_ne, qi_icmp_ne, qi_if_lt, qi_icmp_lt, qi_if_ge, qi_icmp_ge, qi_if_gt, qi_icmp_gt, qi_if_le, qi_icmp_le, qi_sw, qi_get, qi_put, qi_iald, qi_lald, qi_aald, qi_iast, qi_zast, qi_cast, qi_last, qi_aast, qi_alen, qi_new, qi_newa, qi_newq, qi_obj, qi_invS, qi_invV, qi_invI, qi_iret, qi_zret, qi_lret, qi_vret, qi_acopy, qi_max, qi_min, at_o, at_i, at_l, at_q, at_a, lget, lset, lclr, lnon, lnth, spl, shrt, rpush, true_and, and_true, List.set, List.length, Nat.reduceAdd, Nat.reduceLT, Nat.reduceLeDiff, Nat.reduceEqDiff, Nat.reduceSub]
  have l0 := loop 0 (Nat.zero_le _)
  rw [show hx 0 = h from hs_self h hp.2.2.2.2.2] at l0
  exact l0
/-- new cells: k of them from a on, sl slots; all else as it was -/
def frA (h h' : hc_H) (a k sl : Nat) : Prop := h'.2 = (a + k, h.2.2 + sl) ∧ ∀ q, ¬ (a ≤ q ∧ q < a + k) → h'.1 q = h.1 q
theorem hn_at (h : hc_H) (e : hc_C) (n q : Nat) : (hc_new h e n).1 q = if q = h.2.1 then some e else h.1 q := rfl
theorem hn_2 (h : hc_H) (e : hc_C) (n : Nat) : (hc_new h e n).2 = (h.2.1 + 1, h.2.2 + n) := rfl
theorem hn_21 (h : hc_H) (e : hc_C) (n : Nat) : (hc_new h e n).2.1 = h.2.1 + 1 := rfl
theorem hs_21 (h : hc_H) (a : Nat) (e : hc_C) : (hc_set h a e).2.1 = h.2.1 := rfl
theorem hc_fit_r {C : String} {a : Nat} : hc_fit (.object C) (.ref a) := ⟨rfl, rfl⟩
theorem hc_fit_a {t : FieldType} {a : Nat} : hc_fit (.array t) (.ref a) := ⟨rfl, rfl⟩
theorem ni_nn {k : Nat} (h : k < 100000) : ¬ nI k < 0 := nI_pos (by omega)
/-- a new row of numbers, put into a field -/
def nst (h : hc_H) (kd N p ci k : Nat) (fs : List Value) : hc_H := hc_set (hc_new h (.inl (kd, N, if kd = 2 then .inr (.inl (fun _ => 0)) else .inl (fun _ => 0))) N) p (.inr (ci, fs.set k (.ref h.2.1)))
theorem nst_ok {h : hc_H} {kd N p ci k : Nat} {fs : List Value} {t : FieldType} {K : hc_K} {lv : hc_L} {st : List Value} (hp : h.1 p = some (.inr (ci, fs))) (hne : p ≠ h.2.1) (hk : k < fs.length) (hN : N ≤ 100000) (hK : K lv st (nst h kd N p ci k fs)) : qi_newa kd (qi_put ci k (.array t) K) lv (.int (nI N) :: .ref p :: st) h := by
  simp only [qi_newa, qi_put]
  rw [nI_clamp (by omega)]
  refine ⟨nI_pos (by omega), hN, ?_⟩
  rw [hn_at, if_neg hne, hp]
  exact ⟨rfl, hk, hc_fit_a, hK⟩
theorem nst_at (h : hc_H) (kd N p ci k : Nat) (fs : List Value) (q : Nat) : (nst h kd N p ci k fs).1 q = if q = p then some (.inr (ci, fs.set k (.ref h.2.1))) else if q = h.2.1 then some (.inl (kd, N, if kd = 2 then .inr (.inl (fun _ => 0)) else .inl (fun _ => 0))) else h.1 q := rfl
theorem nst_2 (h : hc_H) (kd N p ci k : Nat) (fs : List Value) : (nst h kd N p ci k fs).2 = (h.2.1 + 1, h.2.2 + N) := rfl
theorem nst_21 (h : hc_H) (kd N p ci k : Nat) (fs : List Value) : (nst h kd N p ci k fs).2.1 = h.2.1 + 1 := rfl
theorem nst_p (h : hc_H) (kd N p ci k : Nat) (fs : List Value) : (nst h kd N p ci k fs).1 p = some (.inr (ci, fs.set k (.ref h.2.1))) := by rw [nst_at, if_pos rfl]
theorem c_P_init {h : hc_H} {p : Nat} (hp : h.1 p = some (.inr (2, [.int 0, .int 0, .null, .null, .null, .null, .null]))) (h2 : h.2.1 = p + 1) : ∃ h', MA M_P_init [.ref p] h none h' ∧ isPl h' p 0 (nI 0) (fun _ => 0) (fun _ => 0) (fun _ => 0) (fun _ => 0) (fun _ => 0) ∧ frA h h' p 6 60 := by
  let f0 : List Value := [.int 0, .int 0, .null, .null, .null, .null, .null]
  let n1 := nst h 0 12 p 2 2 f0
  let f1 := f0.set 2 (.ref h.2.1)
  let n2 := nst n1 0 12 p 2 3 f1
  let f2 := f1.set 3 (.ref n1.2.1)
  let n3 := nst n2 0 12 p 2 4 f2
  let f3 := f2.set 4 (.ref n2.2.1)
  let n4 := nst n3 0 12 p 2 5 f3
  let f4 := f3.set 5 (.ref n3.2.1)
  let n5 := nst n4 0 12 p 2 6 f4
  refine ⟨n5, MX.of (lv := [some (.ref p)]) 0 rfl (by decide) (Nat.le_of_ble_eq_true rfl) (sn_P_init_0 _ _ _ ?_), ?_, ?_⟩
  · simp only [vc_P_init_0, qi_aload, qi_obj, qi_push, lget, shrt, true_and]
    refine nst_ok hp (by omega) (by simp) (by omega) ?_
    simp only [qi_aload, qi_push, lget]
    refine nst_ok (nst_p ..) (by rw [nst_21]; omega) (by simp) (by omega) ?_
    simp only [qi_aload, qi_push, lget]
    refine nst_ok (nst_p ..) (by simp only [nst_21]; omega) (by simp) (by omega) ?_
    simp only [qi_aload, qi_push, lget]
    refine nst_ok (nst_p ..) (by simp only [nst_21]; omega) (by simp) (by omega) ?_
    simp only [qi_aload, qi_push, lget]
    refine nst_ok (nst_p ..) (by simp only [nst_21]; omega) (by simp) (by omega) ?_
    simp only [qi_vret]
    exact ⟨trivial, rfl⟩
  · unfold isPl
    refine ⟨?_, ?_, ?_, ?_, ?_, ?_⟩ <;> simp [n5, n4, n3, n2, n1, f4, f3, f2, f1, f0, nst_at, nst_21, h2, nI_0]
  · refine ⟨?_, fun q hq => ?_⟩
    · simp [n5, n4, n3, n2, n1, nst_2, h2]
    · simp only [n5, n4, n3, n2, n1, nst_at, nst_21, h2]
      rw [if_neg (by omega), if_neg (by omega), if_neg (by omega), if_neg (by omega), if_neg (by omega), if_neg (by omega), if_neg (by omega), if_neg (by omega), if_neg (by omega), if_neg (by omega)]
/-- a Plan's value -/
abbrev pv : Type := Nat × Int32 × (Nat → Nat) × (Nat → Nat) × (Nat → Nat) × (Nat → Nat) × (Nat → Nat)
def isPv (h : hc_H) (p : Nat) (v : pv) : Prop := isPl h p v.1 v.2.1 v.2.2.1 v.2.2.2.1 v.2.2.2.2.1 v.2.2.2.2.2.1 v.2.2.2.2.2.2
theorem isPv.keep {h h' : hc_H} {p a k : Nat} {v : pv} (hp : isPv h p v) (f : frm h h' a k) (hd : p + 6 ≤ a ∨ a + k ≤ p) : isPv h' p v := isPl.keep hp f hd
/-- PAST at a: its row of Plans at a + 1, the Plans behind it, in some order -/
def isPa (h : hc_H) (a z : Nat) (K : Nat → Nat) (V : Nat → pv) : Prop :=
  h.1 a = some (.inr (1, [.ref (a + 1), .int (nI z)])) ∧ h.1 (a + 1) = some (.inl (4, 6, .inr (.inr (.inr (.inr (fun i => some (K i))))))) ∧ (∀ i, i < 6 → ∃ m, m < 6 ∧ K i = a + 2 + 6 * m) ∧ (∀ i j, i < 6 → j < 6 → K i = K j → i = j) ∧ ∀ i, i < 6 → isPv h (K i) (V i)
theorem isPa.keep {h h' : hc_H} {a z b k : Nat} {K : Nat → Nat} {V : Nat → pv} (hp : isPa h a z K V) (f : frm h h' b k) (hd : a + 38 ≤ b ∨ b + k ≤ a) : isPa h' a z K V := by
  obtain ⟨e0, e1, e2, e3, e4⟩ := hp
  refine ⟨by rw [f.2 _ (by omega)]; exact e0, by rw [f.2 _ (by omega)]; exact e1, e2, e3, fun i hi => ?_⟩
  obtain ⟨m, hm, hK⟩ := e2 i hi
  exact (e4 i hi).keep f (by rw [hK]; omega)
section PA
variable {h : hc_H} {a z : Nat} {K : Nat → Nat} {V : Nat → pv}
theorem c_H_clear (hp : isPa h a z K V) : ∃ h', MA M_H_clear [.ref a] h none h' ∧ isPa h' a 0 K V ∧ frm h h' a 1 := by
  obtain ⟨e0, e1, e2, e3, e4⟩ := id hp
  have f : frm h (hc_set h a (.inr (1, [.ref (a + 1), .int (nI 0)]))) a 1 := frm.rfl'.set (by omega)
  refine ⟨hc_set h a (.inr (1, [.ref (a + 1), .int (nI 0)])), ?_, ⟨hs_eq _ _ _, by rw [hs_ne _ _ (by omega)]; exact e1, e2, e3, fun i hi => ?_⟩, f⟩
  · refine MX.of (lv := [some (.ref a)]) 0 rfl (by decide) (Nat.le_of_ble_eq_true rfl) (sn_H_clear_0 _ _ _ ?_)
    simp only [vc_H_clear_0, qi_push, qi_pushl, qi_iload, qi_lload, qi_aload, qi_istore, qi_astore, qi_lstore, qi_iinc, qi_iadd, qi_isub, qi_imul, qi_iand, qi_ior, qi_ixor, qi_ishl, qi_ishr, qi_iushr, qi_idiv, qi_irem, qi_lor, qi_lmul, qi_ladd, qi_lsub, qi_land, qi_lshl, qi_lshr, qi_i2l, qi_l2i, qi_i2c, qi_lcmp, qi_dup, qi_dup2, qi_pop, qi_if_eq, qi_icmp_eq, qi_if_ne, qi_icmp_ne, qi_if_lt, qi_icmp_lt, qi_if_ge, qi_icmp_ge, qi_if_gt, qi_icmp_gt, qi_if_le, qi_icmp_le, qi_sw, qi_get, qi_put, qi_iald, qi_lald, qi_aald, qi_iast, qi_zast, qi_cast, qi_last, qi_aast, qi_alen, qi_new, qi_newa, qi_newq, qi_obj, qi_invS, qi_invV, qi_invI, qi_iret, qi_zret, qi_lret, qi_vret, qi_acopy, qi_max, qi_min, at_o, at_i, at_l, at_q, at_a, lget, lset, lclr, lnon, lnth, spl, shrt, rpush, true_and, and_true, List.set, List.length, Nat.reduceAdd, Nat.reduceLT, Nat.reduceLeDiff, Nat.reduceEqDiff, Nat.reduceSub, e0]
    exact hc_fit_i
  · obtain ⟨m, hm, hK⟩ := e2 i hi
    exact (e4 i hi).keep f (by rw [hK]; omega)
theorem hq_c {h : hc_H} {a n : Nat} {f g : Nat → Option Nat} (e : ∀ i, f i = g i) : hc_set h a (.inl (4, n, .inr (.inr (.inr (.inr f))))) = hc_set h a (.inl (4, n, .inr (.inr (.inr (.inr g))))) := by rw [funext e]
def kdo (K : Nat → Nat) : Nat → Nat := fun i => if i < 5 then K (i + 1) else if i = 5 then K 0 else K i
theorem c_H_dropOldest (hp : isPa h a z K V) : ∃ h', MA M_H_dropOldest [.ref a] h none h' ∧ isPa h' a 5 (kdo K) (fun i => if i < 5 then V (i + 1) else V 0) ∧ frm h h' a 38 := by
  obtain ⟨e0, e1, e2, e3, e4⟩ := id hp
  let g : Nat → Nat → Option Nat := fun i j => if j + 1 < i then some (K (j + 1)) else some (K j)
  let hx : Nat → hc_H := fun i => hc_set h (a + 1) (.inl (4, 6, .inr (.inr (.inr (.inr (g i))))))
  let hz : hc_H := hc_set (hc_set h (a + 1) (.inl (4, 6, .inr (.inr (.inr (.inr (fun i => some (kdo K i)))))))) a (.inr (1, [.ref (a + 1), .int (nI 5)]))
  have hob : ∀ i j, j < 6 → ∃ fs, (hx i).1 (K j) = some (.inr (2, fs)) := fun i j hj => by
    obtain ⟨m, hm, hK⟩ := e2 j hj
    show ∃ fs, (hc_set _ _ _).1 (K j) = _
    rw [hs_ne _ _ (by rw [hK]; omega)]
    exact ⟨_, (e4 j hj).1⟩
  have loop := lp_up (P := fun i => 1 ≤ i → cx hc_tt M_H_dropOldest h hz none 9 [some (.ref a), some (.ref (K 0)), some (.int (nI i))] [] (hx i)) (n := 6)
    (by intro _
        refine sn_H_dropOldest_9 _ _ _ ?_
        have o1 : (hx 6).1 a = some (.inr (1, [.ref (a + 1), .int (nI z)])) := by show (hc_set _ _ _).1 a = _; rw [hs_ne _ _ (by omega)]; exact e0
        have o2 : (hx 6).1 (a + 1) = some (.inl (4, 6, .inr (.inr (.inr (.inr (g 6)))))) := hs_eq _ _ _
        obtain ⟨fs, o3⟩ := hob 6 0 (by omega)
        simp only [vc_H_dropOldest_9, vc_H_dropOldest_35, qi_push, qi_pushl, qi_iload, qi_lload, qi_aload, qi_istore, qi_astore, qi_lstore, qi_iinc, qi_iadd, qi_isub, qi_imul, qi_iand, qi_ior, qi_ixor, qi_ishl, qi_ishr, qi_iushr, qi_idiv, qi_irem, qi_lor, qi_lmul, qi_ladd, qi_lsub, qi_land, qi_lshl, qi_lshr, qi_i2l, qi_l2i, qi_i2c, qi_lcmp, qi_dup, qi_dup2, qi_pop, qi_if_eq, qi_icmp_eq, qi_if_ne, qi_icmp_ne, qi_if_lt, qi_icmp_lt, qi_if_ge, qi_icmp_ge, qi_if_gt, qi_icmp_gt, qi_if_le, qi_icmp_le, qi_sw, qi_get, qi_put, qi_iald, qi_lald, qi_aald, qi_iast, qi_zast, qi_cast, qi_last, qi_aast, qi_alen, qi_new, qi_newa, qi_newq, qi_obj, qi_invS, qi_invV, qi_invI, qi_iret, qi_zret, qi_lret, qi_vret, qi_acopy, qi_max, qi_min, at_o, at_i, at_l, at_q, at_a, lget, lset, lclr, lnon, lnth, spl, shrt, rpush, true_and, and_true, List.set, List.length, Nat.reduceAdd, Nat.reduceLT, Nat.reduceLeDiff, Nat.reduceEqDiff, Nat.reduceSub, o1, o2, o3]
        refine ⟨fun _ => ⟨vp_in_nI (by omega) (by omega), ?_⟩, fun c => absurd (nI_le (by omega) (by omega)) c⟩
        rw [hs_ne _ _ (show a ≠ a + 1 by omega), o1]
        simp only [qi_push, qi_pushl, qi_iload, qi_lload, qi_aload, qi_istore, qi_astore, qi_lstore, qi_iinc, qi_iadd, qi_isub, qi_imul, qi_iand, qi_ior, qi_ixor, qi_ishl, qi_ishr, qi_iushr, qi_idiv, qi_irem, qi_lor, qi_lmul, qi_ladd, qi_lsub, qi_land, qi_lshl, qi_lshr, qi_i2l, qi_l2i, qi_i2c, qi_lcmp, qi_dup, qi_dup2, qi_pop, qi_if_eq, qi_icmp_eq, qi_if_ne, qi_icmp_ne, qi_if_lt, qi_icmp_lt, qi_if_ge, qi_icmp_ge, qi_if_gt, qi_icmp_gt, qi_if_le, qi_icmp_le, qi_sw, qi_get, qi_put, qi_iald, qi_lald, qi_aald, qi_iast, qi_zast, qi_cast, qi_last, qi_aast, qi_alen, qi_new, qi_newa, qi_newq, qi_obj, qi_invS, qi_invV, qi_invI, qi_iret, qi_zret, qi_lret, qi_vret, qi_acopy, qi_max, qi_min, at_o, at_i, at_l, at_q, at_a, lget, lset, lclr, lnon, lnth, spl, shrt, rpush, true_and, and_true, List.set, List.length, Nat.reduceAdd, Nat.reduceLT, Nat.reduceLeDiff, Nat.reduceEqDiff, Nat.reduceSub]
        refine ⟨hc_fit_i, ?_⟩
        show hc_set (hc_set _ _ _) _ _ = hc_set (hc_set (hc_set _ _ _) _ _) _ _
        rw [hs_hs, hq_c (f := va_up (g 6) (nI 5).toNatClampNeg (some (K 0))) (g := fun i => some (kdo K i))]
        intro i
        rw [show (nI 5).toNatClampNeg = 5 by decide]
        show (if i = 5 then some (K 0) else (if i + 1 < 6 then some (K (i + 1)) else some (K i))) = some (kdo K i)
        unfold kdo
        by_cases q1 : i < 5
        · rw [if_pos q1, if_neg (by omega), if_pos (by omega)]
        · by_cases q2 : i = 5
          · rw [if_neg q1, if_pos q2, if_pos q2]
          · rw [if_neg q1, if_neg q2, if_neg q2, if_neg (by omega)])
    (fun i hi ih h1 => by
        refine sn_H_dropOldest_9 _ _ _ ?_
        have o1 : (hx i).1 a = some (.inr (1, [.ref (a + 1), .int (nI z)])) := by show (hc_set _ _ _).1 a = _; rw [hs_ne _ _ (by omega)]; exact e0
        have o2 : (hx i).1 (a + 1) = some (.inl (4, 6, .inr (.inr (.inr (.inr (g i)))))) := hs_eq _ _ _
        simp only [vc_H_dropOldest_9, qi_push, qi_pushl, qi_iload, qi_lload, qi_aload, qi_istore, qi_astore, qi_lstore, qi_iinc, qi_iadd, qi_isub, qi_imul, qi_iand, qi_ior, qi_ixor, qi_ishl, qi_ishr, qi_iushr, qi_idiv, qi_irem, qi_lor, qi_lmul, qi_ladd, qi_lsub, qi_land, qi_lshl, qi_lshr, qi_i2l, qi_l2i, qi_i2c, qi_lcmp, qi_dup, qi_dup2, qi_pop, qi_if_eq, qi_icmp_eq, qi_if_ne, qi_icmp_ne, qi_if_lt, qi_icmp_lt, qi_if_ge, qi_icmp_ge, qi_if_gt, qi_icmp_gt, qi_if_le, qi_icmp_le, qi_sw, qi_get, qi_put, qi_iald, qi_lald, qi_aald, qi_iast, qi_zast, qi_cast, qi_last, qi_aast, qi_alen, qi_new, qi_newa, qi_newq, qi_obj, qi_invS, qi_invV, qi_invI, qi_iret, qi_zret, qi_lret, qi_vret, qi_acopy, qi_max, qi_min, at_o, at_i, at_l, at_q, at_a, lget, lset, lclr, lnon, lnth, spl, shrt, rpush, true_and, and_true, List.set, List.length, Nat.reduceAdd, Nat.reduceLT, Nat.reduceLeDiff, Nat.reduceEqDiff, Nat.reduceSub, o1, o2]
        refine ⟨fun c => absurd c (nI_ge hi (by omega)), fun _ => ⟨vp_in_nI hi (by omega), ?_⟩⟩
        rw [nI_clamp (by omega)]
        have o4 : g i i = some (K i) := by show (if i + 1 < i then _ else _) = _; rw [if_neg (by omega)]
        rw [o4]
        obtain ⟨fs, o3⟩ := hob i i hi
        simp only [va_rf, qi_push, qi_pushl, qi_iload, qi_lload, qi_aload, qi_istore, qi_astore, qi_lstore, qi_iinc, qi_iadd, qi_isub, qi_imul, qi_iand, qi_ior, qi_ixor, qi_ishl, qi_ishr, qi_iushr, qi_idiv, qi_irem, qi_lor, qi_lmul, qi_ladd, qi_lsub, qi_land, qi_lshl, qi_lshr, qi_i2l, qi_l2i, qi_i2c, qi_lcmp, qi_dup, qi_dup2, qi_pop, qi_if_eq, qi_icmp_eq, qi_if_ne, qi_icmp_ne, qi_if_lt, qi_icmp_lt, qi_if_ge, qi_icmp_ge, qi_if_gt, qi_icmp_gt, qi_if_le, qi_icmp_le, qi_sw, qi_get, qi_put, qi_iald, qi_lald, qi_aald, qi_iast, qi_zast, qi_cast, qi_last, qi_aast, qi_alen, qi_new, qi_newa, qi_newq, qi_obj, qi_invS, qi_invV, qi_invI, qi_iret, qi_zret, qi_lret, qi_vret, qi_acopy, qi_max, qi_min, at_o, at_i, at_l, at_q, at_a, lget, lset, lclr, lnon, lnth, spl, shrt, rpush, true_and, and_true, List.set, List.length, Nat.reduceAdd, Nat.reduceLT, Nat.reduceLeDiff, Nat.reduceEqDiff, Nat.reduceSub, o2, o3]
        rw [pk_sub h1, nI_clamp (by omega)]
        refine ⟨vp_in_nI (by omega) (by omega), ?_⟩
        rw [nI_add]
        have e9 : hc_set (hx i) (a + 1) (.inl (4, 6, .inr (.inr (.inr (.inr (va_up (g i) (i - 1) (some (K i)))))))) = hx (i + 1) := by
          show hc_set (hc_set _ _ _) _ _ = hc_set _ _ _
          rw [hs_hs]
          refine hq_c (fun j => ?_)
          show (if j = i - 1 then some (K i) else if j + 1 < i then some (K (j + 1)) else some (K j)) = if j + 1 < i + 1 then some (K (j + 1)) else some (K j)
          by_cases q : j = i - 1
          · rw [if_pos q, if_pos (by omega), show j + 1 = i by omega]
          · rw [if_neg q]
            by_cases q2 : j + 1 < i
            · rw [if_pos q2, if_pos (by omega)]
            · rw [if_neg q2, if_neg (by omega)]
        rw [e9]
        exact ih (by omega))
  have fz : frm h hz a 38 := (frm.rfl'.set (by omega)).set (by omega)
  refine ⟨hz, ?_, ⟨hs_eq _ _ _, ?_, ?_, ?_, ?_⟩, fz⟩
  · refine MX.of (lv := [some (.ref a), none, none]) 2 rfl (by decide) (Nat.le_of_ble_eq_true rfl) (sn_H_dropOldest_0 _ _ _ ?_)
    simp only [vc_H_dropOldest_0, qi_push, qi_pushl, qi_iload, qi_lload, qi_aload, qi_istore, qi_astore, qi_lstore, qi_iinc, qi_iadd, qi_isub, qi_imul, qi_iand, qi_ior, qi_ixor, qi_ishl, qi_ishr, qi_iushr, qi_idiv, qi_irem, qi_lor, qi_lmul, qi_ladd, qi_lsub, qi_land, qi_lshl, qi_lshr, qi_i2l, qi_l2i, qi_i2c, qi_lcmp, qi_dup, qi_dup2, qi_pop, qi_if_eq, qi_icmp_eq, qi_if_ne, qi_icmp_ne, qi_if_lt, qi_icmp_lt, qi_if_ge, qi_icmp_ge, qi_if_gt, qi_icmp_gt, qi_if_le, qi_icmp_le, qi_sw, qi_get, qi_put, qi_iald, qi_lald, qi_aald, qi_iast, qi_zast, qi_cast, qi_last, qi_aast, qi_alen, qi_new, qi_newa, qi_newq, qi_obj, qi_invS, qi_invV, qi_invI, qi_iret, qi_zret, qi_lret, qi_vret, qi_acopy, qi_max, qi_min, at_o, at_i, at_l, at_q, at_a, lget, lset, lclr, lnon, lnth, spl, shrt, rpush, true_and, and_true, List.set, List.length, Nat.reduceAdd, Nat.reduceLT, Nat.reduceLeDiff, Nat.reduceEqDiff, Nat.reduceSub, e0, e1, va_rf]
    refine ⟨vp_in_nI (by omega) (by omega), ?_⟩
    rw [show (nI 0).toNatClampNeg = 0 by decide]
    have l1 := loop 1 (by omega) (by omega)
    have e9 : hx 1 = h := by
      show hc_set _ _ _ = h
      rw [hq_c (f := g 1) (g := fun i => some (K i)) (fun j => by show (if j + 1 < 1 then _ else _) = _; rw [if_neg (by omega)])]
      exact hs_self h e1
    rw [e9] at l1
    exact l1
  · show (hc_set (hc_set _ _ _) _ _).1 (a + 1) = _
    rw [hs_ne _ _ (by omega), hs_eq]
  · intro i hi
    unfold kdo
    by_cases q : i < 5
    · rw [if_pos q]; exact e2 (i + 1) (by omega)
    · rw [if_neg q, if_pos (by omega)]; exact e2 0 (by omega)
  · intro i j hi hj e
    unfold kdo at e
    by_cases q1 : i < 5 <;> by_cases q2 : j < 5
    · rw [if_pos q1, if_pos q2] at e; have := e3 _ _ (by omega) (by omega) e; omega
    · rw [if_pos q1, if_neg q2, if_pos (by omega)] at e; have := e3 _ _ (by omega) (by omega) e; omega
    · rw [if_neg q1, if_pos (by omega), if_pos q2] at e; have := e3 _ _ (by omega) (by omega) e; omega
    · omega
  · intro i hi
    have hk : ∀ m, m < 6 → isPv hz (K m) (V m) := fun m hm => by
      obtain ⟨m', hm', hK⟩ := e2 m hm
      have f2 : frm h hz a 2 := (frm.rfl'.set (by omega)).set (by omega)
      exact (e4 m hm).keep f2 (by rw [hK]; omega)
    unfold kdo
    by_cases q : i < 5
    · simp only [q, if_true]; exact hk (i + 1) (by omega)
    · simp only [q, if_false]; rw [if_pos (by omega)]; exact hk 0 (by omega)
end PA
