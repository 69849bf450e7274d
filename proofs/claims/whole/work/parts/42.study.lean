/-! STUDY: its picture; measuring. -/
theorem hc_fit_z : hc_fit .boolean (.int (nI 0)) := ⟨rfl, rfl⟩
theorem hc_fit_o : hc_fit .boolean (.int (nI 1)) := ⟨rfl, rfl⟩
abbrev styO (y p q ln me so bo : Nat) (st : Int32) (lc bp bc : Nat) : hc_C := .inr (4, [.ref p, .ref q, .ref ln, .int (nI me), .int (nI so), .int (nI bo), .int st, .int (nI lc), .long (lN bp), .ref (y + 1), .ref (y + 2), .int (nI bc)])
/-- STUDY at y: of the Plans at p and q; its Lines at y + 3 (rows of 512), or made anew at z0 -/
def isY (h : hc_H) (y p q z0 sl ln N me so bo : Nat) (st : Int32) (lc bp bc : Nat) (H K : Nat → Nat) : Prop :=
  h.1 y = some (styO y p q ln me so bo st lc bp bc) ∧ h.1 (y + 1) = ii 13 H ∧ h.1 (y + 2) = ii 66 K ∧ ((ln = y + 3 ∧ N = 512 ∧ h.2 = (z0, sl)) ∨ (ln = z0 ∧ N = 4096 ∧ h.2 = (z0 + 13, sl + 41003)))
/-- only Study's own cells differ -/
def frW (h h' : hc_H) (y z0 : Nat) : Prop := ∀ a, a < z0 → ¬ (y ≤ a ∧ a < y + 16) → h'.1 a = h.1 a
/-- and those of the trial -/
def frY (h h' : hc_H) (q y z0 : Nat) : Prop := ∀ a, a < z0 → ¬ (q ≤ a ∧ a < q + 6) → ¬ (y ≤ a ∧ a < y + 16) → h'.1 a = h.1 a
theorem frW.rfl' {h : hc_H} {y z0 : Nat} : frW h h y z0 := fun _ _ _ => rfl
theorem frW.trans {h h' h'' : hc_H} {y z0 : Nat} (f : frW h h' y z0) (g : frW h' h'' y z0) : frW h h'' y z0 := fun a h1 h2 => (g a h1 h2).trans (f a h1 h2)
theorem frY.rfl' {h : hc_H} {q y z0 : Nat} : frY h h q y z0 := fun _ _ _ _ => rfl
theorem frY.trans {h h' h'' : hc_H} {q y z0 : Nat} (f : frY h h' q y z0) (g : frY h' h'' q y z0) : frY h h'' q y z0 := fun a h1 h2 h3 => (g a h1 h2 h3).trans (f a h1 h2 h3)
theorem frW.toY {h h' : hc_H} {q y z0 : Nat} (f : frW h h' y z0) : frY h h' q y z0 := fun a h1 _ h3 => f a h1 h3
theorem frm.toY {h h' : hc_H} {q y z0 : Nat} (f : frm h h' q 6) : frY h h' q y z0 := fun a _ h2 _ => f.2 a h2
theorem frm.toW {h h' : hc_H} {a k y z0 : Nat} (f : frm h h' a k) (hd : (y ≤ a ∧ a + k ≤ y + 16) ∨ z0 ≤ a) : frW h h' y z0 := fun x h1 h2 => f.2 x (fun z => by omega)
theorem isPl.keepW {h h' : hc_H} {p n y z0 : Nat} {c : Int32} {T B A J S : Nat → Nat} (hp : isPl h p n c T B A J S) (f : frW h h' y z0) (h1 : p + 6 ≤ y) (h2 : y ≤ z0) : isPl h' p n c T B A J S := by
  obtain ⟨e0, e1, e2, e3, e4, e5⟩ := hp
  refine ⟨?_, ?_, ?_, ?_, ?_, ?_⟩ <;> rw [f _ (by omega) (by omega)] <;> assumption
theorem isPl.keepY {h h' : hc_H} {p n q y z0 : Nat} {c : Int32} {T B A J S : Nat → Nat} (hp : isPl h p n c T B A J S) (f : frY h h' q y z0) (h0 : p + 6 ≤ q) (h1 : q ≤ y) (h2 : y ≤ z0) : isPl h' p n c T B A J S := by
  obtain ⟨e0, e1, e2, e3, e4, e5⟩ := hp
  refine ⟨?_, ?_, ?_, ?_, ?_, ?_⟩ <;> rw [f _ (by omega) (by omega) (by omega)] <;> assumption
/-- where things lie -/
def layY (p q y z0 : Nat) : Prop := p + 6 ≤ q ∧ q + 6 ≤ y ∧ y + 16 ≤ z0
section ST
variable {h : hc_H} {y p q z0 sl ln N me so bo lc bp bc : Nat} {st : Int32} {H K : Nat → Nat}
theorem isY.keep {h' : hc_H} {b k : Nat} (hy : isY h y p q z0 sl ln N me so bo st lc bp bc H K) (f : frm h h' b k) (hd : b + k ≤ y ∨ y + 3 ≤ b) : isY h' y p q z0 sl ln N me so bo st lc bp bc H K := by
  obtain ⟨e0, e1, e2, e3⟩ := hy
  refine ⟨by rw [f.2 _ (by omega)]; exact e0, by rw [f.2 _ (by omega)]; exact e1, by rw [f.2 _ (by omega)]; exact e2, by rw [f.1]; exact e3⟩
theorem isY.setO {me' so' bo' lc' bp' bc' : Nat} {st' : Int32} (hy : isY h y p q z0 sl ln N me so bo st lc bp bc H K) : isY (hc_set h y (styO y p q ln me' so' bo' st' lc' bp' bc')) y p q z0 sl ln N me' so' bo' st' lc' bp' bc' H K := by
  obtain ⟨e0, e1, e2, e3⟩ := hy
  exact ⟨hs_eq _ _ _, by rw [hs_ne _ _ (by omega)]; exact e1, by rw [hs_ne _ _ (by omega)]; exact e2, e3⟩
theorem isY.setH {f : Nat → Nat} (hy : isY h y p q z0 sl ln N me so bo st lc bp bc H K) : isY (hc_set h (y + 1) (.inl (0, 13, .inl (fun j => nI (f j))))) y p q z0 sl ln N me so bo st lc bp bc f K := by
  obtain ⟨e0, e1, e2, e3⟩ := hy
  exact ⟨by rw [hs_ne _ _ (by omega)]; exact e0, hs_eq _ _ _, by rw [hs_ne _ _ (by omega)]; exact e2, e3⟩
theorem isY.setK {f : Nat → Nat} (hy : isY h y p q z0 sl ln N me so bo st lc bp bc H K) : isY (hc_set h (y + 2) (.inl (0, 66, .inl (fun j => nI (f j))))) y p q z0 sl ln N me so bo st lc bp bc H f := by
  obtain ⟨e0, e1, e2, e3⟩ := hy
  exact ⟨by rw [hs_ne _ _ (by omega)]; exact e0, by rw [hs_ne _ _ (by omega)]; exact e1, hs_eq _ _ _, e3⟩
theorem isLn.hs {a N fx wh us b : Nat} {c : Int32} {F G : Nat → Nat → Nat} {e : hc_C} (hp : isLn h a N fx wh c us F G) (hd : b < a ∨ a + 13 ≤ b) : isLn (hc_set h b e) a N fx wh c us F G := hp.keep (b := b) (k := 1) (frm.rfl'.set (by omega)) (by omega)
theorem isPl.hs {p n b : Nat} {c : Int32} {T B A J S : Nat → Nat} {e : hc_C} (hp : isPl h p n c T B A J S) (hd : b < p ∨ p + 6 ≤ b) : isPl (hc_set h b e) p n c T B A J S := hp.keep (a := b) (k := 1) (frm.rfl'.set (by omega)) (by omega)
theorem c_Y_forget (hy : isY h y p q z0 sl ln N me so bo st lc bp bc H K) : ∃ h', MA M_Y_forget [.ref y] h none h' ∧ isY h' y p q z0 sl ln N 0 0 0 st lc bp bc H K ∧ frm h h' y 1 := by
  refine ⟨hc_set h y (styO y p q ln 0 0 0 st lc bp bc), ?_, hy.setO, frm.rfl'.set (by omega)⟩
  obtain ⟨e0, e1, e2, e3⟩ := hy
  refine MX.of (lv := [some (.ref y)]) 0 rfl (by decide) (Nat.le_of_ble_eq_true rfl) (sn_Y_forget_0 _ _ _ ?_)
  simp only [vc_Y_forget_0, qi_push, qi_pushl, qi_iload, qi_lload, qi_aload, qi_istore, qi_astore, qi_lstore, qi_iinc, qi_iadd, qi_isub, qi_imul, qi_iand, qi_ior, qi_ixor, qi_ishl, qi_ishr, qi_iushr, qi_idiv, qi_irem, qi_lor, qi_lmul, qi_ladd, qi_lsub, qi_land, qi_lshl, qi_lshr, qi_i2l, qi_l2i, qi_i2c, qi_lcmp, qi_dup, qi_dup2, qi_pop, qi_if_eq, qi_icmp_eq, qi_if_ne, qi_icmp_ne, qi_if_lt, qi_icmp_lt, qi_if_ge, qi_icmp_ge, qi_if_gt, qi_icmp_gt, qi_if_le, qi_icmp_le, qi_sw, qi_get, qi_put, qi_iald, qi_lald, qi_aald, qi_iast, qi_zast, qi_cast, qi_last, qi_aast, qi_alen, qi_new, qi_newa, qi_newq, qi_obj, qi_invS, qi_invV, qi_invI, qi_iret, qi_zret, qi_lret, qi_vret, qi_acopy, qi_max, qi_min, at_o, at_i, at_l, at_q, at_a, lget, lset, lclr, lnon, lnth, spl, shrt, rpush, true_and, and_true, List.set, List.length, Nat.reduceAdd, Nat.reduceLT, Nat.reduceLeDiff, Nat.reduceEqDiff, Nat.reduceSub, e0, hs_eq, hs_hs]
  exact ⟨hc_fit_z, hc_fit_z, hc_fit_z⟩
/-- the Lines' own state, whatever was measured -/
def lnS (h : hc_H) (ln N : Nat) : Prop := ∃ fx wh c us F G, isLn h ln N fx wh c us F G ∧ lnG F G
theorem isY.le (hl : layY p q y z0) (hy : isY h y p q z0 sl ln N me so bo st lc bp bc H K) : y + 3 ≤ ln ∧ (ln = y + 3 ∨ ln = z0) ∧ N ≤ 4096 := by
  obtain ⟨l1, l2, l3⟩ := hl
  rcases hy.2.2.2 with ⟨z1, z2, z3⟩ | ⟨z1, z2, z3⟩ <;> omega
theorem up_G {F G : Nat → Nat → Nat} {k : Nat} {f : Nat → Nat} (hg : lnG F G) (hk : 7 ≤ k) (hf : ∀ s, f s ≤ 2000000) : lnG (va_up F k f) G := by
  obtain ⟨g1, g2, g3, g4, g5⟩ := hg
  have e : ∀ j, j < 7 → va_up F k f j = F j := fun j hj => if_neg (by omega)
  exact ⟨by rw [e 3 (by omega), e 4 (by omega), e 5 (by omega), e 6 (by omega)]; exact g1, up_le g2 hf, g3, by rw [e 2 (by omega)]; exact g4, by rw [e 2 (by omega)]; exact g5⟩
theorem tsum_0 {f : Nat → Nat} : ∀ n, tsum f 0 n = 0 := by
  intro n
  induction n with
  | zero => rfl
  | succ n ih => simp only [tsum]; rw [ih]; simp
theorem bor_0 {f : Nat → Nat} : ∀ n, bor f 0 n = 0 := by
  intro n
  induction n with
  | zero => rfl
  | succ n ih => simp only [bor]; rw [ih]; simp
theorem nd_le {n C : Nat} {T B A J : Nat → Nat} (hB : ∀ x, B x < 4096) (s : Nat) : nd n C T B A J s ≤ 2000000 := by
  unfold nd
  have := bor_lt hB s n
  split
  · omega
  · split
    · have := sub_le (sdf_sub (bor B s n) s); omega
    · omega
theorem c_Y_measure (hl : layY p q y z0) (hy : isY h y p q z0 sl ln N me so bo st lc bp bc H K) (hL : lnS h ln N) {r n C : Nat} {T B A J S : Nat → Nat} (hr : isPl h r n (nI C) T B A J S) (hw : pw n T B A J S) (hC : C < 1000) (hry : r + 6 ≤ y) :
    ∃ h' ln' N' fx us F G, MA M_Y_measure [.ref y, .ref r] h none h' ∧ isY h' y p q z0 sl ln' N' 0 so bo st lc bp bc H K ∧ isLn h' ln' N' fx (2 ^ n - 1) (nI C) us F G ∧ lnG F G ∧ lnM n C T B A J us F G ∧ 2 ^ n ≤ N' ∧ frW h h' y z0 := by
  obtain ⟨l1, l2, l3⟩ := id hl
  obtain ⟨b1, b2, b3⟩ := hy.le hl
  obtain ⟨fx, wh, c, us, F, G, hLn, hg⟩ := hL
  have hn := hw.1
  have o1 := hr.1
  have o0 := hLn.1
  -- from Lines that have room
  have go : ∀ (h1 : hc_H) (ln' N' fx wh : Nat) (c : Int32) (us : Nat) (F G : Nat → Nat → Nat), isY h1 y p q z0 sl ln' N' me so bo st lc bp bc H K → isLn h1 ln' N' fx wh c us F G → lnG F G → 2 ^ n ≤ N' → isPl h1 r n (nI C) T B A J S → frW h h1 y z0 →
      ∃ h' fx us F G, isY h' y p q z0 sl ln' N' 0 so bo st lc bp bc H K ∧ isLn h' ln' N' fx (2 ^ n - 1) (nI C) us F G ∧ lnG F G ∧ lnM n C T B A J us F G ∧ frW h h' y z0 ∧ vc_Y_measure_27 none h' (cx hc_tt M_Y_measure h h' none) [some (.ref y), some (.ref r)] [] h1 := by
    intro h1 ln' N' fx wh c us F G y1 n1 g1 hN1 p1 f1
    obtain ⟨b1, b2, b3⟩ := y1.le hl
    obtain ⟨g11, g12, g13, g14, g15⟩ := g1
    obtain ⟨h2, F', G', c1, c2, c3, c4, c5, c6, c7, c8, c9, c10, c11, c12⟩ := c_L_measure n1 b3 hN1 g12 p1 hw hC (by omega) g11
    have y2 := y1.keep c3 (by omega)
    have hM : lnM n C T B A J (fitU F' C (2 ^ n - 1)) (va_up F' 7 (fitN F' C (2 ^ n))) G' := lnM_of c4
    have fN : ∀ s, fitN F' C (2 ^ n) s ≤ 2000000 := fun s => by
      by_cases w : s < 2 ^ n
      · have := hM.2.1 s w
        rw [show va_up F' 7 (fitN F' C (2 ^ n)) 7 s = fitN F' C (2 ^ n) s from rfl] at this
        rw [this]
        exact nd_le hw.2.2.1 s
      · have := Nat.two_pow_pos n
        unfold fitN
        rw [if_neg (by omega), if_neg w]
        exact c5 7 s
    have hg' : lnG F' G' := by
      have hp := Nat.two_pow_pos n
      obtain ⟨m1, m2, m3, m4, m5⟩ := c4 0 hp
      refine ⟨⟨?_, ?_, ?_, ?_, ?_⟩, c5, by rw [c12]; exact g13, by rw [c7]; exact g14, by rw [c7]; exact g15⟩
      · rw [m1]; exact tsum_0 n
      · rw [m2]; exact bor_0 n
      · rw [m3]; exact bor_0 n
      · rw [m4]; exact bor_0 n
      · rw [m5]; exact tsum_0 n
    refine ⟨hc_set h2 y (styO y p q ln' 0 so bo st lc bp bc), fx, _, _, _, y2.setO, c2.hs (by omega), up_G hg' (by omega) fN, hM, f1.trans ((c3.toW (by omega)).trans (frm.toW (a := y) (k := 1) (frm.rfl'.set (by omega)) (by omega))), ?_⟩
    have o3 := y1.1
    have o4 := n1.1
    have o5 := y2.1
    simp only [vc_Y_measure_27, qi_push, qi_pushl, qi_iload, qi_lload, qi_aload, qi_istore, qi_astore, qi_lstore, qi_iinc, qi_iadd, qi_isub, qi_imul, qi_iand, qi_ior, qi_ixor, qi_ishl, qi_ishr, qi_iushr, qi_idiv, qi_irem, qi_lor, qi_lmul, qi_ladd, qi_lsub, qi_land, qi_lshl, qi_lshr, qi_i2l, qi_l2i, qi_i2c, qi_lcmp, qi_dup, qi_dup2, qi_pop, qi_if_eq, qi_icmp_eq, qi_if_ne, qi_icmp_ne, qi_if_lt, qi_icmp_lt, qi_if_ge, qi_icmp_ge, qi_if_gt, qi_icmp_gt, qi_if_le, qi_icmp_le, qi_sw, qi_get, qi_put, qi_iald, qi_lald, qi_aald, qi_iast, qi_zast, qi_cast, qi_last, qi_aast, qi_alen, qi_new, qi_newa, qi_newq, qi_obj, qi_invS, qi_invV, qi_invI, qi_iret, qi_zret, qi_lret, qi_vret, qi_acopy, qi_max, qi_min, at_o, at_i, at_l, at_q, at_a, lget, lset, lclr, lnon, lnth, spl, shrt, rpush, true_and, and_true, List.set, List.length, Nat.reduceAdd, Nat.reduceLT, Nat.reduceLeDiff, Nat.reduceEqDiff, Nat.reduceSub, o3, o4]
    refine ⟨_, _, c1, ?_⟩
    simp only [qi_push, qi_pushl, qi_iload, qi_lload, qi_aload, qi_istore, qi_astore, qi_lstore, qi_iinc, qi_iadd, qi_isub, qi_imul, qi_iand, qi_ior, qi_ixor, qi_ishl, qi_ishr, qi_iushr, qi_idiv, qi_irem, qi_lor, qi_lmul, qi_ladd, qi_lsub, qi_land, qi_lshl, qi_lshr, qi_i2l, qi_l2i, qi_i2c, qi_lcmp, qi_dup, qi_dup2, qi_pop, qi_if_eq, qi_icmp_eq, qi_if_ne, qi_icmp_ne, qi_if_lt, qi_icmp_lt, qi_if_ge, qi_icmp_ge, qi_if_gt, qi_icmp_gt, qi_if_le, qi_icmp_le, qi_sw, qi_get, qi_put, qi_iald, qi_lald, qi_aald, qi_iast, qi_zast, qi_cast, qi_last, qi_aast, qi_alen, qi_new, qi_newa, qi_newq, qi_obj, qi_invS, qi_invV, qi_invI, qi_iret, qi_zret, qi_lret, qi_vret, qi_acopy, qi_max, qi_min, at_o, at_i, at_l, at_q, at_a, lget, lset, lclr, lnon, lnth, spl, shrt, rpush, true_and, and_true, List.set, List.length, Nat.reduceAdd, Nat.reduceLT, Nat.reduceLeDiff, Nat.reduceEqDiff, Nat.reduceSub, o5]
    exact hc_fit_z
  have o3 := hy.1
  by_cases w : 2 ^ n ≤ N
  · obtain ⟨h', fx', us', F', G', d1, d2, d3, d4, d5, d6⟩ := go h ln N fx wh c us F G hy hLn hg w hr frW.rfl'
    refine ⟨h', ln, N, fx', us', F', G', MX.of (lv := [some (.ref y), some (.ref r)]) 0 rfl (by decide) (Nat.le_of_ble_eq_true rfl) (sn_Y_measure_0 _ _ _ ?_), d1, d2, d3, d4, w, d5⟩
    simp only [vc_Y_measure_0, qi_push, qi_pushl, qi_iload, qi_lload, qi_aload, qi_istore, qi_astore, qi_lstore, qi_iinc, qi_iadd, qi_isub, qi_imul, qi_iand, qi_ior, qi_ixor, qi_ishl, qi_ishr, qi_iushr, qi_idiv, qi_irem, qi_lor, qi_lmul, qi_ladd, qi_lsub, qi_land, qi_lshl, qi_lshr, qi_i2l, qi_l2i, qi_i2c, qi_lcmp, qi_dup, qi_dup2, qi_pop, qi_if_eq, qi_icmp_eq, qi_if_ne, qi_icmp_ne, qi_if_lt, qi_icmp_lt, qi_if_ge, qi_icmp_ge, qi_if_gt, qi_icmp_gt, qi_if_le, qi_icmp_le, qi_sw, qi_get, qi_put, qi_iald, qi_lald, qi_aald, qi_iast, qi_zast, qi_cast, qi_last, qi_aast, qi_alen, qi_new, qi_newa, qi_newq, qi_obj, qi_invS, qi_invV, qi_invI, qi_iret, qi_zret, qi_lret, qi_vret, qi_acopy, qi_max, qi_min, at_o, at_i, at_l, at_q, at_a, lget, lset, lclr, lnon, lnth, spl, shrt, rpush, true_and, and_true, List.set, List.length, Nat.reduceAdd, Nat.reduceLT, Nat.reduceLeDiff, Nat.reduceEqDiff, Nat.reduceSub, o3, o1, o0]
    refine ⟨_, _, c_L_hasRoomFor hLn b3 hn, ?_⟩
    rw [decide_eq_true w]
    simp only [qi_push, qi_pushl, qi_iload, qi_lload, qi_aload, qi_istore, qi_astore, qi_lstore, qi_iinc, qi_iadd, qi_isub, qi_imul, qi_iand, qi_ior, qi_ixor, qi_ishl, qi_ishr, qi_iushr, qi_idiv, qi_irem, qi_lor, qi_lmul, qi_ladd, qi_lsub, qi_land, qi_lshl, qi_lshr, qi_i2l, qi_l2i, qi_i2c, qi_lcmp, qi_dup, qi_dup2, qi_pop, qi_if_eq, qi_icmp_eq, qi_if_ne, qi_icmp_ne, qi_if_lt, qi_icmp_lt, qi_if_ge, qi_icmp_ge, qi_if_gt, qi_icmp_gt, qi_if_le, qi_icmp_le, qi_sw, qi_get, qi_put, qi_iald, qi_lald, qi_aald, qi_iast, qi_zast, qi_cast, qi_last, qi_aast, qi_alen, qi_new, qi_newa, qi_newq, qi_obj, qi_invS, qi_invV, qi_invI, qi_iret, qi_zret, qi_lret, qi_vret, qi_acopy, qi_max, qi_min, at_o, at_i, at_l, at_q, at_a, lget, lset, lclr, lnon, lnth, spl, shrt, rpush, true_and, and_true, List.set, List.length, Nat.reduceAdd, Nat.reduceLT, Nat.reduceLeDiff, Nat.reduceEqDiff, Nat.reduceSub]
    exact ⟨fun _ => d6, fun z => absurd z (by decide)⟩
  · -- Lines are made anew
    have l12 : 2 ^ n ≤ 2 ^ 12 := Nat.pow_le_pow_right (by omega) hn
    have hz : h.2 = (z0, sl) ∧ N = 512 := by
      rcases hy.2.2.2 with ⟨z1, z2, z3⟩ | ⟨z1, z2, z3⟩
      · exact ⟨z3, z2⟩
      · omega
    have hz1 : h.2.1 = z0 := by rw [hz.1]
    have hz2 : h.2.2 = sl := by rw [hz.1]
    obtain ⟨h1, eh1⟩ : ∃ x, hc_new h (.inr (0, [.null, .null, .null, .null, .null, .null, .null, .null, .null, .null, .null, .null, .int 0, .int 0, .int 0, .int 0])) 16 = x := ⟨_, rfl⟩
    have k1 : h1.1 z0 = some (.inr (0, [.null, .null, .null, .null, .null, .null, .null, .null, .null, .null, .null, .null, .int 0, .int 0, .int 0, .int 0])) := by rw [← eh1, hn_at, hz1, if_pos rfl]
    have k2 : h1.2 = (z0 + 1, sl + 16) := by rw [← eh1, hn_2, hz1, hz2]
    have k3 : ∀ a, a < z0 → h1.1 a = h.1 a := fun a ha => by rw [← eh1, hn_at, hz1, if_neg (by omega)]
    obtain ⟨h2, c1, c2, c3⟩ := c_L_init (n := 12) (by omega) k1 (by rw [k2])
    have k4 : ∀ a, a < z0 → h2.1 a = h.1 a := fun a ha => by rw [c3.2 a (by omega)]; exact k3 a ha
    have k5 : h2.2 = (z0 + 13, sl + 41003) := by
      have e5 : sl + 16 + (27 + 10 * 2 ^ 12) = sl + 41003 := by omega
      have e6 := c3.1
      rw [k2] at e6
      exact e6.trans (congrArg (Prod.mk (z0 + 13)) e5)
    obtain ⟨h3, eh3⟩ : ∃ x, hc_set h2 y (styO y p q z0 me so bo st lc bp bc) = x := ⟨_, rfl⟩
    have y3 : isY h3 y p q z0 sl z0 4096 me so bo st lc bp bc H K := by
      rw [← eh3]
      refine ⟨hs_eq _ _ _, ?_, ?_, Or.inr ⟨rfl, rfl, k5⟩⟩
      · rw [hs_ne _ _ (by omega), k4 _ (by omega)]; exact hy.2.1
      · rw [hs_ne _ _ (by omega), k4 _ (by omega)]; exact hy.2.2.1
    have f3 : frW h h3 y z0 := fun a h1 h2 => by rw [← eh3, hs_ne _ _ (by omega)]; exact k4 a h1
    obtain ⟨h', fx', us', F', G', d1, d2, d3, d4, d5, d6⟩ := go h3 z0 4096 0 0 (nI 0) 0 (fun _ _ => 0) (fun _ _ => 0) y3 (by rw [← eh3]; exact c2.hs (by omega)) ⟨⟨rfl, rfl, rfl, rfl, rfl⟩, fun _ _ => by show 0 ≤ 2000000; omega, fun _ => Nat.two_pow_pos 60, fun _ => by show 0 < 4096; omega, rfl⟩ (by omega) (hr.keepW f3 hry (by omega)) f3
    refine ⟨h', z0, 4096, fx', us', F', G', MX.of (lv := [some (.ref y), some (.ref r)]) 0 rfl (by decide) (Nat.le_of_ble_eq_true rfl) (sn_Y_measure_0 _ _ _ ?_), d1, d2, d3, d4, by omega, d5⟩
    simp only [vc_Y_measure_0, qi_push, qi_pushl, qi_iload, qi_lload, qi_aload, qi_istore, qi_astore, qi_lstore, qi_iinc, qi_iadd, qi_isub, qi_imul, qi_iand, qi_ior, qi_ixor, qi_ishl, qi_ishr, qi_iushr, qi_idiv, qi_irem, qi_lor, qi_lmul, qi_ladd, qi_lsub, qi_land, qi_lshl, qi_lshr, qi_i2l, qi_l2i, qi_i2c, qi_lcmp, qi_dup, qi_dup2, qi_pop, qi_if_eq, qi_icmp_eq, qi_if_ne, qi_icmp_ne, qi_if_lt, qi_icmp_lt, qi_if_ge, qi_icmp_ge, qi_if_gt, qi_icmp_gt, qi_if_le, qi_icmp_le, qi_sw, qi_get, qi_put, qi_iald, qi_lald, qi_aald, qi_iast, qi_zast, qi_cast, qi_last, qi_aast, qi_alen, qi_new, qi_newa, qi_newq, qi_obj, qi_invS, qi_invV, qi_invI, qi_iret, qi_zret, qi_lret, qi_vret, qi_acopy, qi_max, qi_min, at_o, at_i, at_l, at_q, at_a, lget, lset, lclr, lnon, lnth, spl, shrt, rpush, true_and, and_true, List.set, List.length, Nat.reduceAdd, Nat.reduceLT, Nat.reduceLeDiff, Nat.reduceEqDiff, Nat.reduceSub, o3, o1, o0]
    refine ⟨_, _, c_L_hasRoomFor hLn b3 hn, ?_⟩
    rw [decide_eq_false w]
    simp only [qi_push, qi_pushl, qi_iload, qi_lload, qi_aload, qi_istore, qi_astore, qi_lstore, qi_iinc, qi_iadd, qi_isub, qi_imul, qi_iand, qi_ior, qi_ixor, qi_ishl, qi_ishr, qi_iushr, qi_idiv, qi_irem, qi_lor, qi_lmul, qi_ladd, qi_lsub, qi_land, qi_lshl, qi_lshr, qi_i2l, qi_l2i, qi_i2c, qi_lcmp, qi_dup, qi_dup2, qi_pop, qi_if_eq, qi_icmp_eq, qi_if_ne, qi_icmp_ne, qi_if_lt, qi_icmp_lt, qi_if_ge, qi_icmp_ge, qi_if_gt, qi_icmp_gt, qi_if_le, qi_icmp_le, qi_sw, qi_get, qi_put, qi_iald, qi_lald, qi_aald, qi_iast, qi_zast, qi_cast, qi_last, qi_aast, qi_alen, qi_new, qi_newa, qi_newq, qi_obj, qi_invS, qi_invV, qi_invI, qi_iret, qi_zret, qi_lret, qi_vret, qi_acopy, qi_max, qi_min, at_o, at_i, at_l, at_q, at_a, lget, lset, lclr, lnon, lnth, spl, shrt, rpush, true_and, and_true, List.set, List.length, Nat.reduceAdd, Nat.reduceLT, Nat.reduceLeDiff, Nat.reduceEqDiff, Nat.reduceSub, eh1, hz1]
    refine ⟨fun z => absurd rfl z, fun _ => ⟨_, _, c1, ?_⟩⟩
    have o6 : h2.1 y = some (styO y p q ln me so bo st lc bp bc) := by rw [k4 _ (by omega)]; exact o3
    simp only [qi_push, qi_pushl, qi_iload, qi_lload, qi_aload, qi_istore, qi_astore, qi_lstore, qi_iinc, qi_iadd, qi_isub, qi_imul, qi_iand, qi_ior, qi_ixor, qi_ishl, qi_ishr, qi_iushr, qi_idiv, qi_irem, qi_lor, qi_lmul, qi_ladd, qi_lsub, qi_land, qi_lshl, qi_lshr, qi_i2l, qi_l2i, qi_i2c, qi_lcmp, qi_dup, qi_dup2, qi_pop, qi_if_eq, qi_icmp_eq, qi_if_ne, qi_icmp_ne, qi_if_lt, qi_icmp_lt, qi_if_ge, qi_icmp_ge, qi_if_gt, qi_icmp_gt, qi_if_le, qi_icmp_le, qi_sw, qi_get, qi_put, qi_iald, qi_lald, qi_aald, qi_iast, qi_zast, qi_cast, qi_last, qi_aast, qi_alen, qi_new, qi_newa, qi_newq, qi_obj, qi_invS, qi_invV, qi_invI, qi_iret, qi_zret, qi_lret, qi_vret, qi_acopy, qi_max, qi_min, at_o, at_i, at_l, at_q, at_a, lget, lset, lclr, lnon, lnth, spl, shrt, rpush, true_and, and_true, List.set, List.length, Nat.reduceAdd, Nat.reduceLT, Nat.reduceLeDiff, Nat.reduceEqDiff, Nat.reduceSub, o6]
    rw [eh3]
    exact ⟨hc_fit_r, d6⟩
end ST
