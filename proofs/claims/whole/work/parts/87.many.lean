/-! WHAT SOLVING HAS FOUND, TOLD BY LINES; how many lines. -/
theorem go_c {W : Nat} {ne ne' : Nat → Nat} (h : ∀ d s, ed W ne d s ↔ ed W ne' d s) : ∀ j d, go W ne j d ↔ go W ne' j d := by
  intro j
  induction j with
  | zero => intro d; exact Iff.rfl
  | succ j ih => intro d; simp only [go, ih, h]
theorem bln_c {W K : Nat} {ne ne' D : Nat → Nat} (h : ∀ d s, ed W ne d s ↔ ed W ne' d s) : bln W ne K D ↔ bln W ne' K D := by
  unfold bln pth
  simp only [h]
theorem isK_c {W K : Nat} {ne ne' : Nat → Nat} (h : ∀ d s, ed W ne d s ↔ ed W ne' d s) : isK W ne K ↔ isK W ne' K := by
  unfold isK
  simp only [go_c h]
theorem rOk_c {n W d r : Nat} {ne ne' : Nat → Nat} (h : ∀ d s, ed W ne d s ↔ ed W ne' d s) : rOk n W ne d r ↔ rOk n W ne' d r := by
  unfold rOk
  simp only [go_c h]
/-- e is a step behind d, as rests tell -/
def mkb (n c : Nat) (T B A J R : Nat → Nat) (d e : Nat) : Bool := decide (d &&& e = d ∧ 0 < sdf e d ∧ R d < 100 ∧ R e + 1 = R d) && nxb n c T B A J d (sdf e d)
theorem mkb_iff {n c d e : Nat} {T B A J R : Nat → Nat} (hn : n ≤ 12) (he : e ≤ 2 ^ n - 1) : mkb n c T B A J R d e = true ↔ ∃ t, ed (2 ^ n - 1) (nd n c T B A J) d t ∧ e = d ||| t ∧ R d < 100 ∧ R e + 1 = R d := by
  have hpn := Nat.two_pow_pos n
  unfold mkb
  rw [Bool.and_eq_true, decide_eq_true_eq]
  constructor
  · rintro ⟨⟨h1, h2, h3, h4⟩, h5⟩
    have dl := sub_le (show sub d e from h1)
    have sl := sub_le (sdf_sub e d)
    exact ⟨sdf e d, (nx_ed hn (by omega) (by omega) (and_0.mpr fun i i1 i2 => (bit_sdf.mp i2).2 i1)).mp h5, (or_sdf h1).symm, h3, h4⟩
  · rintro ⟨t, h1, h2, h3, h4⟩
    have e1 : sdf e d = t := by rw [h2]; exact sdf_or h1.2.1
    have s1 : sub d e := by rw [h2]; exact sub_or_l _ _
    have dl := sub_le s1
    have sl := sub_le (sdf_sub e d)
    rw [e1] at sl ⊢
    exact ⟨⟨s1, h1.2.2.1, h3, h4⟩, (nx_ed hn (by omega) (by omega) h1.2.1).mpr h1⟩
def mU (n c : Nat) (T B A J R U : Nat → Nat) : Prop := U (2 ^ n - 1) = 1 ∧ ∀ d, d < 2 ^ n - 1 → U d = min 1000000 (nsum (fun e => if mkb n c T B A J R d e = true then U e else 0) (2 ^ n - 1 + 1))
theorem many_eq {n c K : Nat} {T B A J R U ne l sp pl0 : Nat → Nat} (hn : n ≤ 12) (hc : ∀ d s, ed (2 ^ n - 1) ne d s ↔ ed (2 ^ n - 1) (nd n c T B A J) d s) (hK : isK (2 ^ n - 1) ne K) (hK12 : K ≤ 12) (hl : lvG (2 ^ n - 1) 0 (fun _ => 0) ne l K) (hR : ∀ d, d ≤ 2 ^ n - 1 → rOk n (2 ^ n - 1) ne d (R d)) (hU : mU n c T B A J R U) : ∀ x d, 2 ^ n - 1 ≤ d + x → d ≤ 2 ^ n - 1 → l d < 1000 → l d + R d = K → twi (2 ^ n - 1) l ne sp pl0 (2 ^ n - 1) d = U d := by
  have hpn := Nat.two_pow_pos n
  intro x
  induction x with
  | zero =>
    intro d h1 h2 _ _
    rw [show d = 2 ^ n - 1 by omega, w_W hl, hU.1]
  | succ x ih =>
    intro d h1 h2 h3 h4
    by_cases w : d = 2 ^ n - 1
    · rw [w, w_W hl, hU.1]
    · rw [w_d hl (by omega), hU.2 d (by omega)]
      congr 1
      refine nsum_c _ (fun e he => ?_)
      have hd := (hl.2.1 d h3).1
      by_cases q : mkb n c T B A J R d e = true
      · rw [if_pos q]
        obtain ⟨t, t1, t2, t3, t4⟩ := (mkb_iff hn (by omega)).mp q
        have t1 := (hc d t).mpr t1
        have r1 : rch (2 ^ n - 1) 0 (fun _ => 0) ne (l d + 1) e := Or.inr ⟨d, t, hd, t1, Nat.and_zero _, t2⟩
        have g1 : go (2 ^ n - 1) ne (R e) e := by
          rcases hR e (by omega) with ⟨z, -⟩ | ⟨-, z, -⟩
          · omega
          · exact z
        have b1 := hl.2.2.2 (l d + 1) e (R e) r1 (go_fwd _ _ _ g1) (by omega)
        have b2 := hK.2 _ (rch_go _ _ _ (hl.2.1 e (by omega)).1 g1)
        have b : bkr l ne d e = true := (bkr_iff (W := 2 ^ n - 1) (sub_all.mpr (by omega))).mpr ⟨t, t1, t2, by omega⟩
        have lt := bkr_lt b
        rw [if_pos b]
        exact ih e (by omega) (by omega) (by omega) (by omega)
      · rw [if_neg q]
        by_cases b : bkr l ne d e = true
        · rw [if_pos b]
          apply Nat.eq_zero_of_not_pos
          intro z
          obtain ⟨D, d1, d2, d3⟩ := wpos_on hn hK hl (2 ^ n) e (by omega) (by omega) z
          have := bln_R hK hR d1 d3
          rw [d2] at this
          obtain ⟨t, t1, t2, t3⟩ := (bkr_iff (W := 2 ^ n - 1) (sub_all.mpr (by omega))).mp b
          exact q ((mkb_iff hn (by omega)).mpr ⟨t, (hc d t).mp t1, t2, by omega, by omega⟩)
        · rw [if_neg b]
theorem slv_lines {n C lc bp : Nat} {T B A J H : Nat → Nat} {st : Int32} (hn : 1 ≤ n ∧ n ≤ 12) (h : slv n C T B A J st lc bp H) (hs : st ≠ -4) : ∃ K, (1 ≤ K ∧ K ≤ n) ∧ st = nI K ∧ isK (2 ^ n - 1) (nd n C T B A J) K ∧ (∀ k x, (H k).testBit x = true ↔ ∃ D i, bln (2 ^ n - 1) (nd n C T B A J) K D ∧ i < K ∧ k = i + 1 ∧ (sdf (D (i + 1)) (D i)).testBit x = true) ∧ (∃ D, bln (2 ^ n - 1) (nd n C T B A J) K D ∧ bp = cdf n D K 0) ∧ (∀ D, bln (2 ^ n - 1) (nd n C T B A J) K D → bp ≤ cdf n D K 0) ∧ ∀ R U, (∀ d, d ≤ 2 ^ n - 1 → rOk n (2 ^ n - 1) (nd n C T B A J) d (R d)) → mU n C T B A J R U → lc = U 0 := by
  have hpn := Nat.two_pow_pos n
  obtain ⟨ne, sp, h1, h2, -, h4⟩ := h
  obtain ⟨K, l, pl0, k1, k2, k3, hl, k5, k6, k7, -⟩ := h4 hs
  have hc : ∀ d s, ed (2 ^ n - 1) ne d s ↔ ed (2 ^ n - 1) (nd n C T B A J) d s := ed_c fun s q => (h1 s (sub_all.mp q)).1
  have hK : isK (2 ^ n - 1) ne K := by
    rcases h2 with ⟨k, a1, a2, a3, a4⟩ | ⟨-, a2⟩
    · have : K = k := by
        rw [k3, nI_eq (by omega) (by omega)] at a4
        exact a4
      subst this
      refine ⟨lin_go.mp a2, fun j hj => ?_⟩
      apply Nat.le_of_not_lt
      intro q
      exact a3 j q (lin_go.mpr hj)
    · exact absurd a2 hs
  have hK12 : K ≤ 12 := by omega
  have hb : ∀ D, bln (2 ^ n - 1) ne K D ↔ bln (2 ^ n - 1) (nd n C T B A J) K D := fun D => bln_c hc
  obtain ⟨D0, d0⟩ : ∃ D, bln (2 ^ n - 1) ne K D := by
    obtain ⟨D, d1, -⟩ := wpos_on (sp := sp) (pl0 := pl0) hn.2 hK hl 0 (2 ^ n - 1) (by omega) (Nat.le_refl _) (by rw [w_W hl]; omega)
    exact ⟨D, d1⟩
  have l0 : l 0 = 0 := by
    have := bln_l hK hK12 hl d0 (Nat.zero_le _)
    rwa [d0.1] at this
  have w0 := on_wpos (sp := sp) (pl0 := pl0) hK hK12 hl d0 K 0 (by omega)
  rw [d0.1] at w0
  have pm := pl_min hn.2 hK hK12 hl (fun s hs => (h1 s hs).2) (2 ^ n) 0 (by omega) (Nat.zero_le _) w0
  rw [l0, Nat.sub_zero] at pm
  refine ⟨K, ⟨k1, k2⟩, k3, (isK_c hc).mp hK, fun k x => ?_, ?_, fun D hD => ?_, fun R U hR hU => ?_⟩
  · rw [k7]
    show (thi (2 ^ n - 1) l ne sp pl0 (2 ^ n - 1) k).testBit x = true ↔ _
    rw [h_inv hl k x (2 ^ n - 1) (Nat.le_refl _)]
    constructor
    · rintro ⟨e, t, e1, e2, e3, e4, e5, e6⟩
      obtain ⟨De, a1, a2, a3⟩ := wpos_on hn.2 hK hl (2 ^ n) e (by omega) e2 e3
      have e5' := e5
      unfold okT at e5'
      rw [decide_eq_true_eq] at e5'
      have st : sub t e := e5'.1
      have ed1 : sdf e (sdf e t) = t := sdf_sdf st
      have b : bkr l ne (sdf e t) e = true := by
        unfold bkr
        rw [ed1, e5, Bool.and_true]
        exact decide_eq_true (sdf_sub e t)
      have ll := bkr_l hl b
      obtain ⟨u, u1, u2, u3⟩ := (bkr_iff (W := 2 ^ n - 1) (sub_all.mpr (by omega))).mp b
      obtain ⟨g1, -, -⟩ := bln_go a1 a3
      rw [a2] at g1
      obtain ⟨Dd, b1, b2⟩ := on_bln hK hl (e := sdf e t) (j := K - l e + 1) (by omega) (Or.inr ⟨u, u1, by rw [← u2]; exact g1⟩) (by omega)
      have spl := bln_splice (i := l (sdf e t)) (t := u) b1 a1 (by omega) (by rw [b2]; exact u1) (by rw [u3, a2, b2]; exact u2)
      refine ⟨_, l (sdf e t), (hb _).mp spl, by omega, by omega, ?_⟩
      show (sdf (if l (sdf e t) + 1 ≤ l (sdf e t) then Dd (l (sdf e t) + 1) else De (l (sdf e t) + 1)) (if l (sdf e t) ≤ l (sdf e t) then Dd (l (sdf e t)) else De (l (sdf e t)))).testBit x = true
      rw [if_neg (by omega), if_pos (Nat.le_refl _), b2, u3, a2, ed1]
      exact e6
    · rintro ⟨D, i, d1, d2, rfl, d4⟩
      have d1 := (hb D).mpr d1
      have b := bln_bkr hK hK12 hl d1 d2
      have lt := bkr_lt b
      obtain ⟨-, -, a3⟩ := bln_go d1 (show i + 1 ≤ K by omega)
      refine ⟨D (i + 1), sdf (D (i + 1)) (D i), by omega, a3, on_wpos hK hK12 hl d1 (K - (i + 1)) (i + 1) (by omega), bln_l hK hK12 hl d1 (by omega), ?_, d4⟩
      unfold bkr at b
      rw [Bool.and_eq_true] at b
      exact b.2
  · obtain ⟨⟨D, a1, -, a3⟩, -⟩ := pm
    exact ⟨D, (hb D).mp a1, by rw [k6]; exact a3⟩
  · rw [k6]
    exact pm.2 D ((hb D).mpr hD) ((hb D).mpr hD).1
  · rw [k5]
    have hR' : ∀ d, d ≤ 2 ^ n - 1 → rOk n (2 ^ n - 1) ne d (R d) := fun d hd => (rOk_c hc).mpr (hR d hd)
    refine many_eq hn.2 hc hK hK12 hl hR' hU (2 ^ n) 0 (by omega) (Nat.zero_le _) (by omega) ?_
    have := bln_R hK hR' d0 (Nat.zero_le _)
    rw [d0.1] at this
    omega
section MO
variable {h : hc_H} {m len um sp fs n C : Nat} {X : Nat → Nat → Nat} {Q : Nat → Int32} {T B A J S : Nat → Nat}
theorem c_R_many (hr : isR h m len um sp fs X Q) (hX : X 2 = rowP n C T B A J S) (hw : pw n T B A J S) (hn1 : 1 ≤ n) (hC : C ≤ 120) : ∃ h' X' st, MA M_R_many [.ref m] h (some (.int (if st = -4 then nI 0 else nI (X' 8 0)))) h' ∧ isR h' m len um sp fs X' Q ∧ (∀ j, ¬ j = 5 → ¬ j = 6 → ¬ j = 7 → ¬ j = 8 → X' j = X j) ∧ frm h h' m 12 ∧ isMin (lin n C T B A J) n st ∧ (∀ d, d ≤ 2 ^ n - 1 → rOk n (2 ^ n - 1) (nd n C T B A J) d (X' 7 d)) ∧ (st ≠ -4 → mU n C T B A J (X' 7) (X' 8)) := by
  have hn := hw.1
  have l12 := pow_12 hn
  have hp2 : 2 ≤ 2 ^ n := by
    have : 2 ^ 1 ≤ 2 ^ n := Nat.pow_le_pow_right (by omega) hn1
    omega
  obtain ⟨h1, X1, a1, a2, a3, a4, a5⟩ := c_R_fewest hr hX hw hn1 hC
  obtain ⟨st, est⟩ : ∃ z, (if X1 7 0 = 100 then -4 else nI (X1 7 0)) = z := ⟨_, rfl⟩
  have hm := rest_min hn (a4.2 0 (Nat.zero_le _))
  rw [est] at hm a1
  have o0 := hr.1
  by_cases w4 : st = -4
  · refine ⟨h1, X1, st, ?_, a2, fun j j5 j6 j7 _ => a3 j j5 j6 j7, a5, hm, a4.2, fun q => absurd w4 q⟩
    rw [if_pos w4]
    refine MX.of (lv := [some (.ref m), none, none, none, none, none]) 5 rfl (by decide) (Nat.le_of_ble_eq_true rfl) (sn_R_many_0 _ _ _ ?_)
    simp only [vc_R_many_0, qi_push, qi_pushl, qi_iload, qi_lload, qi_aload, qi_istore, qi_astore, qi_lstore, qi_iinc, qi_iadd, qi_isub, qi_imul, qi_iand, qi_ior, qi_ixor, qi_ishl, qi_ishr, qi_iushr, qi_idiv, qi_irem, qi_lor, qi_lmul, qi_ladd, qi_lsub, qi_land, qi_lshl, qi_lshr, qi_i2l, qi_l2i, qi_i2c, qi_lcmp, qi_dup, qi_dup2, qi_pop, qi_if_eq, qi_icmp_eq, qi_if_ne, qi_icmp_ne, qi_if_lt, qi_icmp_lt, qi_if_ge, qi_icmp_ge, qi_if_gt, qi_icmp_gt, qi_if_le, qi_icmp_le, qi_sw, qi_get, qi_put, qi_iald, qi_lald, qi_aald, qi_iast, qi_zast, qi_cast, qi_last, qi_aast, qi_alen, qi_new, qi_newa, qi_newq, qi_obj, qi_invS, qi_invV, qi_invI, qi_iret, qi_zret, qi_lret, qi_vret, qi_acopy, qi_max, qi_min, at_o, at_i, at_l, at_q, at_a, lget, lset, lclr, lnon, lnth, spl, shrt, rpush, true_and, and_true, List.set, List.length, Nat.reduceAdd, Nat.reduceLT, Nat.reduceLeDiff, Nat.reduceEqDiff, Nat.reduceSub, o0]
    refine ⟨_, _, a1, ?_⟩
    simp only [qi_push, qi_pushl, qi_iload, qi_lload, qi_aload, qi_istore, qi_astore, qi_lstore, qi_iinc, qi_iadd, qi_isub, qi_imul, qi_iand, qi_ior, qi_ixor, qi_ishl, qi_ishr, qi_iushr, qi_idiv, qi_irem, qi_lor, qi_lmul, qi_ladd, qi_lsub, qi_land, qi_lshl, qi_lshr, qi_i2l, qi_l2i, qi_i2c, qi_lcmp, qi_dup, qi_dup2, qi_pop, qi_if_eq, qi_icmp_eq, qi_if_ne, qi_icmp_ne, qi_if_lt, qi_icmp_lt, qi_if_ge, qi_icmp_ge, qi_if_gt, qi_icmp_gt, qi_if_le, qi_icmp_le, qi_sw, qi_get, qi_put, qi_iald, qi_lald, qi_aald, qi_iast, qi_zast, qi_cast, qi_last, qi_aast, qi_alen, qi_new, qi_newa, qi_newq, qi_obj, qi_invS, qi_invV, qi_invI, qi_iret, qi_zret, qi_lret, qi_vret, qi_acopy, qi_max, qi_min, at_o, at_i, at_l, at_q, at_a, lget, lset, lclr, lnon, lnth, spl, shrt, rpush, true_and, and_true, List.set, List.length, Nat.reduceAdd, Nat.reduceLT, Nat.reduceLeDiff, Nat.reduceEqDiff, Nat.reduceSub]
    exact ⟨fun q => absurd w4 q, fun _ => (by first | trivial | exact ⟨rfl, rfl⟩)⟩
  · have v0 : vp_in (nI 0) 4096 := vp_in_nI (by omega) (by omega)
    have x2 : X1 2 = rowP n C T B A J S := by rw [a3 2 (by omega) (by omega) (by omega), hX]
    let R : Nat → Nat := X1 7
    have R12 : ∀ d, d ≤ 2 ^ n - 1 → R d = 100 ∨ R d ≤ 12 := fun d hd => rOk_le hn (a4.2 d hd)
    let Z : hc_H → (Nat → Nat → Nat) → Prop := fun h' X' => isR h' m len um sp fs X' Q ∧ (∀ j, ¬ j = 8 → X' j = X1 j) ∧ mU n C T B A J R (X' 8) ∧ frm h h' m 12
    let fU : (Nat → Nat) → Nat → Nat → Nat → Nat := fun U d s e => if mkb n C T B A J R d e = true ∧ s < sdf e d then U e else 0
    have fU_c : ∀ (U U' : Nat → Nat) (d s e : Nat), (∀ e, d < e → U e = U' e) → fU U d s e = fU U' d s e := fun U U' d s e hu => by
      show (if mkb n C T B A J R d e = true ∧ s < sdf e d then U e else 0) = if mkb n C T B A J R d e = true ∧ s < sdf e d then U' e else 0
      by_cases q : mkb n C T B A J R d e = true ∧ s < sdf e d
      · rw [if_pos q, if_pos q]
        apply hu
        have q1 := q.1
        unfold mkb at q1
        rw [Bool.and_eq_true, decide_eq_true_eq] at q1
        have s1 : sub d e := q1.1.1
        have := sub_le s1
        apply Nat.lt_of_le_of_ne this
        intro z
        have := q1.1.2.1
        rw [z, sdf_eq0.mpr (sub_rfl e)] at this
        omega
      · rw [if_neg q, if_neg q]
    have lqO : ∀ k, k ≤ 2 ^ n - 1 → ∀ h2 X2, isR h2 m len um sp fs X2 Q → (∀ j, ¬ j = 8 → X2 j = X1 j) → (∀ e, k ≤ e → e ≤ 2 ^ n - 1 → X2 8 e ≤ 1000000) → X2 8 (2 ^ n - 1) = 1 → (∀ d, k ≤ d → d < 2 ^ n - 1 → X2 8 d = min 1000000 (nsum (fun e => if mkb n C T B A J R d e = true then X2 8 e else 0) (2 ^ n - 1 + 1))) → frm h h2 m 12 → ∃ h' X', Z h' X' ∧ ∀ o2 o3 o4 o5, cx hc_tt M_R_many h h' (some (.int (nI (X' 8 0)))) 28 [some (.ref m), some (.int (nI k + (-1))), o2, o3, o4, o5] [] h2 := by
      intro k
      induction k with
      | zero =>
        intro _ h2 X2 r2 q2 u2 uW g2 f2
        refine ⟨h2, X2, ⟨r2, q2, ⟨uW, fun d hd => g2 d (Nat.zero_le _) hd⟩, f2⟩, fun o2 o3 o4 o5 => sn_R_many_28 _ _ _ ?_⟩
        have p0 := r2.1
        have p8 := r2.2.2.2.2.2.2.2.2.1
        simp only [vc_R_many_28, vc_R_many_161, qi_push, qi_pushl, qi_iload, qi_lload, qi_aload, qi_istore, qi_astore, qi_lstore, qi_iinc, qi_iadd, qi_isub, qi_imul, qi_iand, qi_ior, qi_ixor, qi_ishl, qi_ishr, qi_iushr, qi_idiv, qi_irem, qi_lor, qi_lmul, qi_ladd, qi_lsub, qi_land, qi_lshl, qi_lshr, qi_i2l, qi_l2i, qi_i2c, qi_lcmp, qi_dup, qi_dup2, qi_pop, qi_if_eq, qi_icmp_eq, qi_if_ne, qi_icmp_ne, qi_if_lt, qi_icmp_lt, qi_if_ge, qi_icmp_ge, qi_if_gt, qi_icmp_gt, qi_if_le, qi_icmp_le, qi_sw, qi_get, qi_put, qi_iald, qi_lald, qi_aald, qi_iast, qi_zast, qi_cast, qi_last, qi_aast, qi_alen, qi_new, qi_newa, qi_newq, qi_obj, qi_invS, qi_invV, qi_invI, qi_iret, qi_zret, qi_lret, qi_vret, qi_acopy, qi_max, qi_min, at_o, at_i, at_l, at_q, at_a, lget, lset, lclr, lnon, lnth, spl, shrt, rpush, true_and, and_true, List.set, List.length, Nat.reduceAdd, Nat.reduceLT, Nat.reduceLeDiff, Nat.reduceEqDiff, Nat.reduceSub, p0, p8, v0, r0]
        exact ⟨fun _ => trivial, fun q => absurd ni_neg q⟩
      | succ d ih =>
        intro hk h2 X2 r2 q2 u2 uW g2 f2
        have vd : vp_in (nI d) 4096 := vp_in_nI (by omega) (by omega)
        have cd : (nI d).toNatClampNeg = d := nI_clamp (by omega)
        obtain ⟨op, eop⟩ : ∃ z, sdf (2 ^ n - 1) d = z := ⟨_, rfl⟩
        have opW : sub op (2 ^ n - 1) := by rw [← eop]; exact sdf_sub _ _
        have opl := sub_le opW
        have dis : ∀ s, sub s op → d &&& s = 0 := fun s hs => and_0.mpr fun i h1 h2 => by
          have := sub_iff.mp hs i h2
          rw [← eop, bit_sdf] at this
          exact this.2 h1
        have inO : ∀ e, e ≤ 2 ^ n - 1 → sub (sdf e d) op := fun e he => by
          rw [← eop, sub_iff]
          intro i hi
          rw [bit_sdf] at hi ⊢
          exact ⟨sub_iff.mp (sub_all.mpr (by omega)) i hi.1, hi.2⟩
        have lqI := subm_loop (o := op) (P := fun s => ∀ h3 X3, isR h3 m len um sp fs X3 Q → (∀ j, ¬ j = 8 → X3 j = X1 j) → (∀ e, ¬ e = d → X3 8 e = X2 8 e) → X3 8 d = min 1000000 (nsum (fU (X2 8) d s) (2 ^ n - 1 + 1)) → frm h h3 m 12 → ∃ h' X', Z h' X' ∧ ∀ o4 o5, cx hc_tt M_R_many h h' (some (.int (nI (X' 8 0)))) 50 [some (.ref m), some (.int (nI d)), some (.int (nI op)), some (.int (nI s)), o4, o5] [] h3)
          (by
            intro h3 X3 r3 q3 e3 g3 f3
            obtain ⟨h', X', z1, z2⟩ := ih (by omega) h3 X3 r3 q3 (fun e e1 e2 => by
              by_cases w : e = d
              · rw [w, g3]; exact Nat.min_le_left _ _
              · rw [e3 e w]; exact u2 e (by omega) e2) (by rw [e3 _ (by omega)]; exact uW) (fun e e1 e2 => by
              by_cases w : e = d
              · subst w
                rw [g3]
                congr 1
                refine nsum_c _ (fun y hy => ?_)
                show fU (X2 8) e 0 y = _
                rw [fU_c (X2 8) (X3 8) e 0 y (fun z hz => (e3 z (by omega)).symm)]
                show (if mkb n C T B A J R e y = true ∧ 0 < sdf y e then X3 8 y else 0) = _
                by_cases q : mkb n C T B A J R e y = true
                · have q1 := q
                  unfold mkb at q1
                  rw [Bool.and_eq_true, decide_eq_true_eq] at q1
                  rw [if_pos ⟨q, q1.1.2.1⟩, if_pos q]
                · rw [if_neg (fun z => q z.1), if_neg q]
              · rw [e3 e w, g2 e (by omega) e2]
                congr 1
                refine nsum_c _ (fun y hy => ?_)
                by_cases q : mkb n C T B A J R e y = true
                · rw [if_pos q, if_pos q]
                  have q1 := q
                  unfold mkb at q1
                  rw [Bool.and_eq_true, decide_eq_true_eq] at q1
                  have s1 : sub e y := q1.1.1
                  have := sub_le s1
                  exact (e3 y (by omega)).symm
                · rw [if_neg q, if_neg q]) f3
            refine ⟨h', X', z1, fun o4 o5 => sn_R_many_50 _ _ _ ?_⟩
            simp only [vc_R_many_50, vc_R_many_155, qi_push, qi_pushl, qi_iload, qi_lload, qi_aload, qi_istore, qi_astore, qi_lstore, qi_iinc, qi_iadd, qi_isub, qi_imul, qi_iand, qi_ior, qi_ixor, qi_ishl, qi_ishr, qi_iushr, qi_idiv, qi_irem, qi_lor, qi_lmul, qi_ladd, qi_lsub, qi_land, qi_lshl, qi_lshr, qi_i2l, qi_l2i, qi_i2c, qi_lcmp, qi_dup, qi_dup2, qi_pop, qi_if_eq, qi_icmp_eq, qi_if_ne, qi_icmp_ne, qi_if_lt, qi_icmp_lt, qi_if_ge, qi_icmp_ge, qi_if_gt, qi_icmp_gt, qi_if_le, qi_icmp_le, qi_sw, qi_get, qi_put, qi_iald, qi_lald, qi_aald, qi_iast, qi_zast, qi_cast, qi_last, qi_aast, qi_alen, qi_new, qi_newa, qi_newq, qi_obj, qi_invS, qi_invV, qi_invI, qi_iret, qi_zret, qi_lret, qi_vret, qi_acopy, qi_max, qi_min, at_o, at_i, at_l, at_q, at_a, lget, lset, lclr, lnon, lnth, spl, shrt, rpush, true_and, and_true, List.set, List.length, Nat.reduceAdd, Nat.reduceLT, Nat.reduceLeDiff, Nat.reduceEqDiff, Nat.reduceSub]
            exact ⟨fun _ => z2 _ _ _ _, fun q => absurd (by decide) q⟩)
          (fun s hs s0 ih2 h3 X3 r3 q3 e3 g3 f3 => by
            have sl : s ≤ 2 ^ n - 1 := Nat.le_trans (sub_le hs) opl
            have dl : d ||| s ≤ 2 ^ n - 1 := sub_le (or_sub (sub_all.mpr (by omega)) (sub_trans hs opW))
            have dgt : d < d ||| s := or_gt (dis s hs) s0
            have vo : vp_in (nI (d ||| s)) 4096 := vp_in_nI (by omega) (by omega)
            have co : (nI (d ||| s)).toNatClampNeg = d ||| s := nI_clamp (by omega)
            have es : sdf (d ||| s) d = s := sdf_or (dis s hs)
            have p0 := r3.1
            have p7 : h3.1 (m + 7) = ii 4096 R := by rw [r3.2.2.2.2.2.2.2.1, q3 7 (by omega)]
            have p8 := r3.2.2.2.2.2.2.2.2.1
            have hg : fgP n C T B A J X3 := by
              intro x hx
              rw [q3 5 (by omega), q3 6 (by omega)]
              exact a4.1 x hx
            have Ro := R12 (d ||| s) dl
            have Rd := R12 d (by omega)
            have wo : X3 8 (d ||| s) ≤ 1000000 := by rw [e3 _ (by omega)]; exact u2 _ (by omega) dl
            have wd : X3 8 d ≤ 1000000 := by rw [g3]; exact Nat.min_le_left _ _
            have vdl : X3 8 (d ||| s) = X2 8 (d ||| s) := e3 _ (by omega)
            -- the sum goes on
            have hsum : nsum (fU (X2 8) d ((s - 1) &&& op)) (2 ^ n - 1 + 1) = nsum (fU (X2 8) d s) (2 ^ n - 1 + 1) + fU (X2 8) d ((s - 1) &&& op) (d ||| s) := by
              refine nsum_one (2 ^ n - 1 + 1) (by omega) (fun y hy hne => ?_) ?_
              · show (if mkb n C T B A J R d y = true ∧ (s - 1) &&& op < sdf y d then X2 8 y else 0) = if mkb n C T B A J R d y = true ∧ s < sdf y d then X2 8 y else 0
                by_cases q : mkb n C T B A J R d y = true
                · have q1 := q
                  unfold mkb at q1
                  rw [Bool.and_eq_true, decide_eq_true_eq] at q1
                  have ne1 : ¬ sdf y d = s := fun z => hne (by rw [← z]; exact (or_sdf q1.1.1).symm)
                  have sn := subm_seen hs s0 (inO y (by omega))
                  by_cases z : s < sdf y d
                  · rw [if_pos ⟨q, sn.mpr (by omega)⟩, if_pos ⟨q, z⟩]
                  · rw [if_neg (fun u => by have := sn.mp u.2; omega), if_neg (fun u => z u.2)]
                · rw [if_neg (fun u => q u.1), if_neg (fun u => q u.1)]
              · show (if mkb n C T B A J R d (d ||| s) = true ∧ s < sdf (d ||| s) d then X2 8 (d ||| s) else 0) = 0
                rw [es, if_neg (fun u => absurd u.2 (Nat.lt_irrefl _))]
            have hfu : fU (X2 8) d ((s - 1) &&& op) (d ||| s) = if mkb n C T B A J R d (d ||| s) = true then X3 8 (d ||| s) else 0 := by
              show (if mkb n C T B A J R d (d ||| s) = true ∧ (s - 1) &&& op < sdf (d ||| s) d then X2 8 (d ||| s) else 0) = _
              rw [es, vdl]
              by_cases q : mkb n C T B A J R d (d ||| s) = true
              · rw [if_pos ⟨q, (subm_seen hs s0 hs).mpr (Nat.le_refl _)⟩, if_pos q]
              · rw [if_neg (fun u => q u.1), if_neg q]
            obtain ⟨ad, ead⟩ : ∃ z, (if mkb n C T B A J R d (d ||| s) = true then X3 8 (d ||| s) else 0) = z := ⟨_, rfl⟩
            rw [ead] at hfu
            have adl : ad ≤ 1000000 := by rw [← ead]; split; exact wo; omega
            have hv : min 1000000 (X3 8 d + ad) = min 1000000 (nsum (fU (X2 8) d ((s - 1) &&& op)) (2 ^ n - 1 + 1)) := by
              rw [hsum, hfu, g3, cap_add]
            have r4 := r3.set8 (f := va_up (X3 8) d (min 1000000 (X3 8 d + ad)))
            obtain ⟨h', X', z1, z2⟩ := ih2 _ _ r4 (fun j hj => by rw [up_ne hj]; exact q3 j hj) (fun e he => by
              show va_up (X3 8) d _ e = _
              rw [up_ne he]; exact e3 e he) (by
              show va_up (X3 8) d _ d = _
              rw [up_eq]; exact hv) (f3.set (by omega))
            refine ⟨h', X', z1, fun o4 o5 => sn_R_many_50 _ _ _ ?_⟩
            have k123 : ∀ o5, vc_R_many_123 (some (.int (nI (X' 8 0)))) h' (cx hc_tt M_R_many h h' (some (.int (nI (X' 8 0))))) [some (.ref m), some (.int (nI d)), some (.int (nI op)), some (.int (nI s)), o4, o5] [.int (nI ad), .int (nI (X3 8 d))] h3 → vc_R_many_123 (some (.int (nI (X' 8 0)))) h' (cx hc_tt M_R_many h h' (some (.int (nI (X' 8 0))))) [some (.ref m), some (.int (nI d)), some (.int (nI op)), some (.int (nI s)), o4, o5] [.int (nI ad), .int (nI (X3 8 d))] h3 := fun _ q => q
            have k123 : ∀ o4 o5, vc_R_many_123 (some (.int (nI (X' 8 0)))) h' (cx hc_tt M_R_many h h' (some (.int (nI (X' 8 0))))) [some (.ref m), some (.int (nI d)), some (.int (nI op)), some (.int (nI s)), o4, o5] [.int (nI ad), .int (nI (X3 8 d))] h3 := by
              intro o4 o5
              simp only [vc_R_many_123, vc_R_many_143, vc_R_many_145, qi_push, qi_pushl, qi_iload, qi_lload, qi_aload, qi_istore, qi_astore, qi_lstore, qi_iinc, qi_iadd, qi_isub, qi_imul, qi_iand, qi_ior, qi_ixor, qi_ishl, qi_ishr, qi_iushr, qi_idiv, qi_irem, qi_lor, qi_lmul, qi_ladd, qi_lsub, qi_land, qi_lshl, qi_lshr, qi_i2l, qi_l2i, qi_i2c, qi_lcmp, qi_dup, qi_dup2, qi_pop, qi_if_eq, qi_icmp_eq, qi_if_ne, qi_icmp_ne, qi_if_lt, qi_icmp_lt, qi_if_ge, qi_icmp_ge, qi_if_gt, qi_icmp_gt, qi_if_le, qi_icmp_le, qi_sw, qi_get, qi_put, qi_iald, qi_lald, qi_aald, qi_iast, qi_zast, qi_cast, qi_last, qi_aast, qi_alen, qi_new, qi_newa, qi_newq, qi_obj, qi_invS, qi_invV, qi_invI, qi_iret, qi_zret, qi_lret, qi_vret, qi_acopy, qi_max, qi_min, at_o, at_i, at_l, at_q, at_a, lget, lset, lclr, lnon, lnth, spl, shrt, rpush, true_and, and_true, List.set, List.length, Nat.reduceAdd, Nat.reduceLT, Nat.reduceLeDiff, Nat.reduceEqDiff, Nat.reduceSub, p0, p8, vd, cd, nI_add]
              rw [upd_nI, upd_nI, pk_sub (by omega), ni_and, nI_leI (by omega) (by omega)]
              refine ⟨fun q => ?_, fun q => ?_⟩
              · rw [Nat.min_eq_right q] at z2; exact z2 _ _
              · rw [Nat.min_eq_left (by omega)] at z2; exact z2 _ _
            have k98 : ∀ b : Bool, b = mkb n C T B A J R d (d ||| s) → ∀ o4 o5, vc_R_many_98 (some (.int (nI (X' 8 0)))) h' (cx hc_tt M_R_many h h' (some (.int (nI (X' 8 0))))) [some (.ref m), some (.int (nI d)), some (.int (nI op)), some (.int (nI s)), o4, o5] [.int (nI b.toNat)] h3 := by
              intro b hb o4 o5
              simp only [vc_R_many_98, vc_R_many_122, qi_push, qi_pushl, qi_iload, qi_lload, qi_aload, qi_istore, qi_astore, qi_lstore, qi_iinc, qi_iadd, qi_isub, qi_imul, qi_iand, qi_ior, qi_ixor, qi_ishl, qi_ishr, qi_iushr, qi_idiv, qi_irem, qi_lor, qi_lmul, qi_ladd, qi_lsub, qi_land, qi_lshl, qi_lshr, qi_i2l, qi_l2i, qi_i2c, qi_lcmp, qi_dup, qi_dup2, qi_pop, qi_if_eq, qi_icmp_eq, qi_if_ne, qi_icmp_ne, qi_if_lt, qi_icmp_lt, qi_if_ge, qi_icmp_ge, qi_if_gt, qi_icmp_gt, qi_if_le, qi_icmp_le, qi_sw, qi_get, qi_put, qi_iald, qi_lald, qi_aald, qi_iast, qi_zast, qi_cast, qi_last, qi_aast, qi_alen, qi_new, qi_newa, qi_newq, qi_obj, qi_invS, qi_invV, qi_invI, qi_iret, qi_zret, qi_lret, qi_vret, qi_acopy, qi_max, qi_min, at_o, at_i, at_l, at_q, at_a, lget, lset, lclr, lnon, lnth, spl, shrt, rpush, true_and, and_true, List.set, List.length, Nat.reduceAdd, Nat.reduceLT, Nat.reduceLeDiff, Nat.reduceEqDiff, Nat.reduceSub, p0, p8, vd, cd, vo, co, ni_or]
              refine ⟨fun q => ?_, fun q => ?_⟩
              · have e : ad = 0 := by rw [← ead, ← hb, (nb_eq0 _).mp q]; rfl
                have := k123 (some (.int (nI b.toNat))) o5
                rw [e] at this
                exact this
              · have e : ad = X3 8 (d ||| s) := by rw [← ead, ← hb, (nb_ne0 _).mp q]; rfl
                have := k123 (some (.int (nI b.toNat))) o5
                rw [e] at this
                exact this
            have emk : mkb n C T B A J R d (d ||| s) = (decide (R d < 100 ∧ R (d ||| s) + 1 = R d) && nxb n C T B A J d s) := by
              unfold mkb
              rw [es]
              congr 1
              have : (d &&& (d ||| s) = d ∧ 0 < s ∧ R d < 100 ∧ R (d ||| s) + 1 = R d) ↔ (R d < 100 ∧ R (d ||| s) + 1 = R d) := ⟨fun q => q.2.2, fun q => ⟨sub_or_l d s, s0, q⟩⟩
              exact decide_eq_decide.mpr this
            simp only [vc_R_many_50, vc_R_many_97, qi_push, qi_pushl, qi_iload, qi_lload, qi_aload, qi_istore, qi_astore, qi_lstore, qi_iinc, qi_iadd, qi_isub, qi_imul, qi_iand, qi_ior, qi_ixor, qi_ishl, qi_ishr, qi_iushr, qi_idiv, qi_irem, qi_lor, qi_lmul, qi_ladd, qi_lsub, qi_land, qi_lshl, qi_lshr, qi_i2l, qi_l2i, qi_i2c, qi_lcmp, qi_dup, qi_dup2, qi_pop, qi_if_eq, qi_icmp_eq, qi_if_ne, qi_icmp_ne, qi_if_lt, qi_icmp_lt, qi_if_ge, qi_icmp_ge, qi_if_gt, qi_icmp_gt, qi_if_le, qi_icmp_le, qi_sw, qi_get, qi_put, qi_iald, qi_lald, qi_aald, qi_iast, qi_zast, qi_cast, qi_last, qi_aast, qi_alen, qi_new, qi_newa, qi_newq, qi_obj, qi_invS, qi_invV, qi_invI, qi_iret, qi_zret, qi_lret, qi_vret, qi_acopy, qi_max, qi_min, at_o, at_i, at_l, at_q, at_a, lget, lset, lclr, lnon, lnth, spl, shrt, rpush, true_and, and_true, List.set, List.length, Nat.reduceAdd, Nat.reduceLT, Nat.reduceLeDiff, Nat.reduceEqDiff, Nat.reduceSub, p0, p7, vd, cd, vo, co, ni_or, nI_add]
            rw [nI_leI (by omega) (by omega), nI_eq (by omega) (by omega)]
            refine ⟨fun q => absurd q (nI_nle s0 (by omega)), fun _ => ⟨fun q => k98 false ?_ _ _, fun q => ⟨fun q2 => k98 false ?_ _ _, fun q2 => ⟨_, _, c_R_isNext r3 hg hn hw.2.2.1 (d := d) (s := s) (by omega) (by omega), ?_⟩⟩⟩⟩
            · rw [emk, decide_eq_false (fun z => by omega)]; rfl
            · rw [emk, decide_eq_false (fun z => q2 z.2)]; rfl
            · rw [decide_eq_true ⟨by omega, q2⟩, Bool.true_and] at emk
              simp only [qi_push, qi_pushl, qi_iload, qi_lload, qi_aload, qi_istore, qi_astore, qi_lstore, qi_iinc, qi_iadd, qi_isub, qi_imul, qi_iand, qi_ior, qi_ixor, qi_ishl, qi_ishr, qi_iushr, qi_idiv, qi_irem, qi_lor, qi_lmul, qi_ladd, qi_lsub, qi_land, qi_lshl, qi_lshr, qi_i2l, qi_l2i, qi_i2c, qi_lcmp, qi_dup, qi_dup2, qi_pop, qi_if_eq, qi_icmp_eq, qi_if_ne, qi_icmp_ne, qi_if_lt, qi_icmp_lt, qi_if_ge, qi_icmp_ge, qi_if_gt, qi_icmp_gt, qi_if_le, qi_icmp_le, qi_sw, qi_get, qi_put, qi_iald, qi_lald, qi_aald, qi_iast, qi_zast, qi_cast, qi_last, qi_aast, qi_alen, qi_new, qi_newa, qi_newq, qi_obj, qi_invS, qi_invV, qi_invI, qi_iret, qi_zret, qi_lret, qi_vret, qi_acopy, qi_max, qi_min, at_o, at_i, at_l, at_q, at_a, lget, lset, lclr, lnon, lnth, spl, shrt, rpush, true_and, and_true, List.set, List.length, Nat.reduceAdd, Nat.reduceLT, Nat.reduceLeDiff, Nat.reduceEqDiff, Nat.reduceSub]
              refine ⟨fun z => k98 false ?_ _ _, fun z => k98 true ?_ _ _⟩
              · rw [emk, (nb_eq0 _).mp z]
              · rw [emk, (nb_ne0 _).mp z])
        have r3 := r2.set8 (f := va_up (X2 8) d 0)
        obtain ⟨h', X', z1, z2⟩ := lqI op (sub_rfl op) _ _ r3 (fun j hj => by rw [up_ne hj]; exact q2 j hj) (fun e he => by
          show va_up (X2 8) d 0 e = _
          exact up_ne he) (by
          show va_up (X2 8) d 0 d = _
          rw [up_eq, nsum_0 _ (fun y hy => if_neg (fun u => by have := sub_le (inO y (by omega)); omega))]
          rfl) (f2.set (by omega))
        refine ⟨h', X', z1, fun o2 o3 o4 o5 => sn_R_many_28 _ _ _ ?_⟩
        have p0 := r2.1
        have p8 := r2.2.2.2.2.2.2.2.2.1
        rw [ni_dec]
        simp only [vc_R_many_28, qi_push, qi_pushl, qi_iload, qi_lload, qi_aload, qi_istore, qi_astore, qi_lstore, qi_iinc, qi_iadd, qi_isub, qi_imul, qi_iand, qi_ior, qi_ixor, qi_ishl, qi_ishr, qi_iushr, qi_idiv, qi_irem, qi_lor, qi_lmul, qi_ladd, qi_lsub, qi_land, qi_lshl, qi_lshr, qi_i2l, qi_l2i, qi_i2c, qi_lcmp, qi_dup, qi_dup2, qi_pop, qi_if_eq, qi_icmp_eq, qi_if_ne, qi_icmp_ne, qi_if_lt, qi_icmp_lt, qi_if_ge, qi_icmp_ge, qi_if_gt, qi_icmp_gt, qi_if_le, qi_icmp_le, qi_sw, qi_get, qi_put, qi_iald, qi_lald, qi_aald, qi_iast, qi_zast, qi_cast, qi_last, qi_aast, qi_alen, qi_new, qi_newa, qi_newq, qi_obj, qi_invS, qi_invV, qi_invI, qi_iret, qi_zret, qi_lret, qi_vret, qi_acopy, qi_max, qi_min, at_o, at_i, at_l, at_q, at_a, lget, lset, lclr, lnon, lnth, spl, shrt, rpush, true_and, and_true, List.set, List.length, Nat.reduceAdd, Nat.reduceLT, Nat.reduceLeDiff, Nat.reduceEqDiff, Nat.reduceSub, p0]
        refine ⟨fun q => absurd q (nI_pos (by omega)), fun _ => ⟨_, _, c_R_all r2 (by rw [q2 2 (by omega), x2]; rfl) hn, ?_⟩⟩
        simp only [qi_push, qi_pushl, qi_iload, qi_lload, qi_aload, qi_istore, qi_astore, qi_lstore, qi_iinc, qi_iadd, qi_isub, qi_imul, qi_iand, qi_ior, qi_ixor, qi_ishl, qi_ishr, qi_iushr, qi_idiv, qi_irem, qi_lor, qi_lmul, qi_ladd, qi_lsub, qi_land, qi_lshl, qi_lshr, qi_i2l, qi_l2i, qi_i2c, qi_lcmp, qi_dup, qi_dup2, qi_pop, qi_if_eq, qi_icmp_eq, qi_if_ne, qi_icmp_ne, qi_if_lt, qi_icmp_lt, qi_if_ge, qi_icmp_ge, qi_if_gt, qi_icmp_gt, qi_if_le, qi_icmp_le, qi_sw, qi_get, qi_put, qi_iald, qi_lald, qi_aald, qi_iast, qi_zast, qi_cast, qi_last, qi_aast, qi_alen, qi_new, qi_newa, qi_newq, qi_obj, qi_invS, qi_invV, qi_invI, qi_iret, qi_zret, qi_lret, qi_vret, qi_acopy, qi_max, qi_min, at_o, at_i, at_l, at_q, at_a, lget, lset, lclr, lnon, lnth, spl, shrt, rpush, true_and, and_true, List.set, List.length, Nat.reduceAdd, Nat.reduceLT, Nat.reduceLeDiff, Nat.reduceEqDiff, Nat.reduceSub, p0, p8, vd, cd]
        rw [ni_not, upd_nI, eop]
        exact z2 _ _
    have r3 := a2.set8 (f := va_up (X1 8) (2 ^ n - 1) 1)
    obtain ⟨h', X', z1, z2⟩ := lqO (2 ^ n - 1) (Nat.le_refl _) _ _ r3 (fun j hj => up_ne hj) (fun e e1 e2 => by
      show va_up (X1 8) (2 ^ n - 1) 1 e ≤ _
      rw [show e = 2 ^ n - 1 by omega, up_eq]; omega) (by show va_up (X1 8) (2 ^ n - 1) 1 (2 ^ n - 1) = 1; exact up_eq) (fun d d1 d2 => by omega) (a5.set (by omega))
    have e7 : X' 7 = R := z1.2.1 7 (by omega)
    refine ⟨h', X', st, ?_, z1.1, fun j j5 j6 j7 j8 => by rw [z1.2.1 j j8]; exact a3 j j5 j6 j7, z1.2.2.2, hm, fun d hd => by rw [e7]; exact a4.2 d hd, fun _ => by rw [e7]; exact z1.2.2.1⟩
    rw [if_neg w4]
    have p0 := a2.1
    have p8 := a2.2.2.2.2.2.2.2.2.1
    have s0 := r3.1
    have x0 : X1 2 0 = n := by rw [x2]; rfl
    refine MX.of (lv := [some (.ref m), none, none, none, none, none]) 5 rfl (by decide) (Nat.le_of_ble_eq_true rfl) (sn_R_many_0 _ _ _ ?_)
    simp only [vc_R_many_0, vc_R_many_11, qi_push, qi_pushl, qi_iload, qi_lload, qi_aload, qi_istore, qi_astore, qi_lstore, qi_iinc, qi_iadd, qi_isub, qi_imul, qi_iand, qi_ior, qi_ixor, qi_ishl, qi_ishr, qi_iushr, qi_idiv, qi_irem, qi_lor, qi_lmul, qi_ladd, qi_lsub, qi_land, qi_lshl, qi_lshr, qi_i2l, qi_l2i, qi_i2c, qi_lcmp, qi_dup, qi_dup2, qi_pop, qi_if_eq, qi_icmp_eq, qi_if_ne, qi_icmp_ne, qi_if_lt, qi_icmp_lt, qi_if_ge, qi_icmp_ge, qi_if_gt, qi_icmp_gt, qi_if_le, qi_icmp_le, qi_sw, qi_get, qi_put, qi_iald, qi_lald, qi_aald, qi_iast, qi_zast, qi_cast, qi_last, qi_aast, qi_alen, qi_new, qi_newa, qi_newq, qi_obj, qi_invS, qi_invV, qi_invI, qi_iret, qi_zret, qi_lret, qi_vret, qi_acopy, qi_max, qi_min, at_o, at_i, at_l, at_q, at_a, lget, lset, lclr, lnon, lnth, spl, shrt, rpush, true_and, and_true, List.set, List.length, Nat.reduceAdd, Nat.reduceLT, Nat.reduceLeDiff, Nat.reduceEqDiff, Nat.reduceSub, o0]
    refine ⟨_, _, a1, ?_⟩
    simp only [qi_push, qi_pushl, qi_iload, qi_lload, qi_aload, qi_istore, qi_astore, qi_lstore, qi_iinc, qi_iadd, qi_isub, qi_imul, qi_iand, qi_ior, qi_ixor, qi_ishl, qi_ishr, qi_iushr, qi_idiv, qi_irem, qi_lor, qi_lmul, qi_ladd, qi_lsub, qi_land, qi_lshl, qi_lshr, qi_i2l, qi_l2i, qi_i2c, qi_lcmp, qi_dup, qi_dup2, qi_pop, qi_if_eq, qi_icmp_eq, qi_if_ne, qi_icmp_ne, qi_if_lt, qi_icmp_lt, qi_if_ge, qi_icmp_ge, qi_if_gt, qi_icmp_gt, qi_if_le, qi_icmp_le, qi_sw, qi_get, qi_put, qi_iald, qi_lald, qi_aald, qi_iast, qi_zast, qi_cast, qi_last, qi_aast, qi_alen, qi_new, qi_newa, qi_newq, qi_obj, qi_invS, qi_invV, qi_invI, qi_iret, qi_zret, qi_lret, qi_vret, qi_acopy, qi_max, qi_min, at_o, at_i, at_l, at_q, at_a, lget, lset, lclr, lnon, lnth, spl, shrt, rpush, true_and, and_true, List.set, List.length, Nat.reduceAdd, Nat.reduceLT, Nat.reduceLeDiff, Nat.reduceEqDiff, Nat.reduceSub, p0]
    refine ⟨fun _ => ⟨_, _, c_R_all a2 x0 hn, ?_⟩, fun q => absurd q w4⟩
    simp only [qi_push, qi_pushl, qi_iload, qi_lload, qi_aload, qi_istore, qi_astore, qi_lstore, qi_iinc, qi_iadd, qi_isub, qi_imul, qi_iand, qi_ior, qi_ixor, qi_ishl, qi_ishr, qi_iushr, qi_idiv, qi_irem, qi_lor, qi_lmul, qi_ladd, qi_lsub, qi_land, qi_lshl, qi_lshr, qi_i2l, qi_l2i, qi_i2c, qi_lcmp, qi_dup, qi_dup2, qi_pop, qi_if_eq, qi_icmp_eq, qi_if_ne, qi_icmp_ne, qi_if_lt, qi_icmp_lt, qi_if_ge, qi_icmp_ge, qi_if_gt, qi_icmp_gt, qi_if_le, qi_icmp_le, qi_sw, qi_get, qi_put, qi_iald, qi_lald, qi_aald, qi_iast, qi_zast, qi_cast, qi_last, qi_aast, qi_alen, qi_new, qi_newa, qi_newq, qi_obj, qi_invS, qi_invV, qi_invI, qi_iret, qi_zret, qi_lret, qi_vret, qi_acopy, qi_max, qi_min, at_o, at_i, at_l, at_q, at_a, lget, lset, lclr, lnon, lnth, spl, shrt, rpush, true_and, and_true, List.set, List.length, Nat.reduceAdd, Nat.reduceLT, Nat.reduceLeDiff, Nat.reduceEqDiff, Nat.reduceSub, p0, p8]
    rw [nI_clamp (by omega), upd_nI]
    refine ⟨vp_in_nI (by omega) (by omega), ?_⟩
    simp only [qi_push, qi_pushl, qi_iload, qi_lload, qi_aload, qi_istore, qi_astore, qi_lstore, qi_iinc, qi_iadd, qi_isub, qi_imul, qi_iand, qi_ior, qi_ixor, qi_ishl, qi_ishr, qi_iushr, qi_idiv, qi_irem, qi_lor, qi_lmul, qi_ladd, qi_lsub, qi_land, qi_lshl, qi_lshr, qi_i2l, qi_l2i, qi_i2c, qi_lcmp, qi_dup, qi_dup2, qi_pop, qi_if_eq, qi_icmp_eq, qi_if_ne, qi_icmp_ne, qi_if_lt, qi_icmp_lt, qi_if_ge, qi_icmp_ge, qi_if_gt, qi_icmp_gt, qi_if_le, qi_icmp_le, qi_sw, qi_get, qi_put, qi_iald, qi_lald, qi_aald, qi_iast, qi_zast, qi_cast, qi_last, qi_aast, qi_alen, qi_new, qi_newa, qi_newq, qi_obj, qi_invS, qi_invV, qi_invI, qi_iret, qi_zret, qi_lret, qi_vret, qi_acopy, qi_max, qi_min, at_o, at_i, at_l, at_q, at_a, lget, lset, lclr, lnon, lnth, spl, shrt, rpush, true_and, and_true, List.set, List.length, Nat.reduceAdd, Nat.reduceLT, Nat.reduceLeDiff, Nat.reduceEqDiff, Nat.reduceSub, s0]
    refine ⟨_, _, c_R_all r3 (by rw [up_ne (by omega)]; exact x0) hn, ?_⟩
    simp only [qi_push, qi_pushl, qi_iload, qi_lload, qi_aload, qi_istore, qi_astore, qi_lstore, qi_iinc, qi_iadd, qi_isub, qi_imul, qi_iand, qi_ior, qi_ixor, qi_ishl, qi_ishr, qi_iushr, qi_idiv, qi_irem, qi_lor, qi_lmul, qi_ladd, qi_lsub, qi_land, qi_lshl, qi_lshr, qi_i2l, qi_l2i, qi_i2c, qi_lcmp, qi_dup, qi_dup2, qi_pop, qi_if_eq, qi_icmp_eq, qi_if_ne, qi_icmp_ne, qi_if_lt, qi_icmp_lt, qi_if_ge, qi_icmp_ge, qi_if_gt, qi_icmp_gt, qi_if_le, qi_icmp_le, qi_sw, qi_get, qi_put, qi_iald, qi_lald, qi_aald, qi_iast, qi_zast, qi_cast, qi_last, qi_aast, qi_alen, qi_new, qi_newa, qi_newq, qi_obj, qi_invS, qi_invV, qi_invI, qi_iret, qi_zret, qi_lret, qi_vret, qi_acopy, qi_max, qi_min, at_o, at_i, at_l, at_q, at_a, lget, lset, lclr, lnon, lnth, spl, shrt, rpush, true_and, and_true, List.set, List.length, Nat.reduceAdd, Nat.reduceLT, Nat.reduceLeDiff, Nat.reduceEqDiff, Nat.reduceSub]
    have : nI (2 ^ n - 1) - nI 1 = nI (2 ^ n - 1) + (-1) := by rw [Int32.sub_eq_add_neg]; rfl
    rw [this]
    exact z2 _ _ _ _
end MO
