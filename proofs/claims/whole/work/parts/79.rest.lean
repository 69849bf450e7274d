/-! THE FEWEST STATIONS FROM EACH SET ON. -/
/-- from d, all is done by j stations more, or fewer -/
def go (W : Nat) (ne : Nat → Nat) : Nat → Nat → Prop
  | 0, d => d = W
  | j + 1, d => go W ne j d ∨ ∃ s, ed W ne d s ∧ go W ne j (d ||| s)
section GO
variable {W n : Nat} {ne : Nat → Nat}
theorem go_mono {d j : Nat} (h : go W ne j d) : ∀ x, go W ne (j + x) d := by
  intro x
  induction x with
  | zero => exact h
  | succ x ih => exact Or.inl ih
theorem go_le {d j k : Nat} (h : go W ne j d) (hk : j ≤ k) : go W ne k d := by
  have := go_mono h (k - j)
  rwa [show j + (k - j) = k by omega] at this
theorem go_step {d : Nat} (hd : ¬ d = W) : ∀ j, go W ne j d → ∃ t i, ed W ne d t ∧ go W ne i (d ||| t) ∧ i + 1 ≤ j := by
  intro j
  induction j with
  | zero => intro h; exact absurd h hd
  | succ j ih =>
    rintro (h | ⟨s, h1, h2⟩)
    · obtain ⟨t, i, a1, a2, a3⟩ := ih h
      exact ⟨t, i, a1, a2, by omega⟩
    · exact ⟨s, j, h1, h2, Nat.le_refl _⟩
theorem rch_go : ∀ k d j, rch W 0 (fun _ => 0) ne k d → go W ne j d → go W ne (k + j) 0 := by
  intro k
  induction k with
  | zero => intro d j h1 h2; rw [show d = 0 from h1] at h2; rw [Nat.zero_add]; exact h2
  | succ k ih =>
    rintro d j (⟨h1, -⟩ | ⟨e, s, h1, h2, -, h4⟩) h5
    · have := ih d (j + 1) h1 (Or.inl h5)
      rwa [show k + 1 + j = k + (j + 1) by omega]
    · have := ih e (j + 1) h1 (Or.inr ⟨s, h2, by rw [← h4]; exact h5⟩)
      rwa [show k + 1 + j = k + (j + 1) by omega]
theorem go_rch : ∀ j k d, rch W 0 (fun _ => 0) ne k d → go W ne j d → rch W 0 (fun _ => 0) ne (k + j) W := by
  intro j
  induction j with
  | zero => intro k d h1 h2; rw [show d = W from h2] at h1; exact h1
  | succ j ih =>
    rintro k d h1 (h2 | ⟨s, h2, h3⟩)
    · have := ih k d h1 h2
      have : rch W 0 (fun _ => 0) ne (k + j + 1) W := Or.inl ⟨this, rfl⟩
      exact this
    · have := ih (k + 1) (d ||| s) (Or.inr ⟨d, s, h1, h2, Nat.and_zero _, rfl⟩) h3
      rwa [show k + 1 + j = k + (j + 1) by omega] at this
theorem lin_go {k : Nat} : rch W 0 (fun _ => 0) ne k W ↔ go W ne k 0 := by
  constructor
  · intro h
    have := rch_go k W 0 h rfl
    exact this
  · intro h
    have := go_rch k 0 0 rfl h
    rwa [Nat.zero_add] at this
/-- r is the fewest stations from d on; 100: there are none -/
def rOk (n W : Nat) (ne : Nat → Nat) (d r : Nat) : Prop := (r = 100 ∧ ∀ j, ¬ go W ne j d) ∨ (r + cn d n ≤ n ∧ go W ne r d ∧ ∀ j, go W ne j d → r ≤ j)
theorem rOk_le {d r : Nat} (hn : n ≤ 12) (h : rOk n W ne d r) : r = 100 ∨ r ≤ 12 := by
  rcases h with ⟨h, -⟩ | ⟨h, -⟩
  · exact Or.inl h
  · exact Or.inr (by omega)
theorem rOk_W : rOk n W ne W 0 := Or.inr ⟨by have := cn_le W n; omega, rfl, fun _ _ => Nat.zero_le _⟩
theorem ed_cn {n d s : Nat} {ne : Nat → Nat} (h : ed (2 ^ n - 1) ne d s) : cn d n + 1 ≤ cn (d ||| s) n := by
  have e : cn (d ||| s) n = cn d n + cn s n := tsum_or h.2.1 n
  obtain ⟨i, hi⟩ : ∃ i, s.testBit i = true := by
    apply Classical.byContradiction
    intro q
    have : s = 0 := eq0_bit.mpr fun i hi => q ⟨i, hi⟩
    have := h.2.2.1
    omega
  have il : i < n := by
    have := sub_iff.mp h.1 i hi
    rw [all_bit, decide_eq_true_eq] at this
    exact this
  have := cn_pos hi il
  omega
/-- what the inner loop has found when all parts above s were seen -/
def inR (W : Nat) (ne R : Nat → Nat) (d s v : Nat) : Prop := (v = 100 ∨ ∃ t, ed W ne d t ∧ R (d ||| t) ≤ 12 ∧ v = R (d ||| t) + 1) ∧ ∀ t, s < t → ed W ne d t → R (d ||| t) ≤ 12 → v ≤ R (d ||| t) + 1
theorem inR_end {d v : Nat} {R : Nat → Nat} (hn : n ≤ 12) (hd : d < 2 ^ n - 1) (hR : ∀ e, d < e → e ≤ 2 ^ n - 1 → rOk n (2 ^ n - 1) ne e (R e)) (h : inR (2 ^ n - 1) ne R d 0 v) : rOk n (2 ^ n - 1) ne d v := by
  obtain ⟨h1, h2⟩ := h
  have hok : ∀ t, ed (2 ^ n - 1) ne d t → rOk n (2 ^ n - 1) ne (d ||| t) (R (d ||| t)) := fun t ht => hR _ (or_gt ht.2.1 ht.2.2.1) (sub_le (or_sub (sub_all.mpr (by omega)) ht.1))
  rcases h1 with h1 | ⟨t, t1, t2, t3⟩
  · refine Or.inl ⟨h1, fun j hj => ?_⟩
    obtain ⟨t, i, a1, a2, a3⟩ := go_step (by omega) j hj
    rcases hok t a1 with ⟨-, q⟩ | ⟨q1, q2, q3⟩
    · exact q i a2
    · have := h2 t a1.2.2.1 a1 (by omega)
      omega
  · rcases hok t t1 with ⟨q, -⟩ | ⟨q1, q2, q3⟩
    · omega
    · refine Or.inr ⟨?_, ?_, fun j hj => ?_⟩
      · have := ed_cn t1
        omega
      · rw [t3]; exact Or.inr ⟨t, t1, q2⟩
      · obtain ⟨u, i, a1, a2, a3⟩ := go_step (by omega) j hj
        rcases hok u a1 with ⟨-, p⟩ | ⟨p1, p2, p3⟩
        · exact absurd a2 (p i)
        · have := h2 u a1.2.2.1 a1 (by omega)
          have := p3 i a2
          omega
end GO
theorem ni_dec (k : Nat) : nI (k + 1) + (-1) = nI k := by
  rw [nI_succ, Int32.add_assoc, show (1 : Int32) + -1 = 0 by decide, Int32.add_zero]
theorem ni_neg : nI 0 + (-1) < 0 := by decide
/-- what findRest leaves -/
def frP (n c : Nat) (T B A J : Nat → Nat) (X : Nat → Nat → Nat) : Prop := fgP n c T B A J X ∧ ∀ d, d ≤ 2 ^ n - 1 → rOk n (2 ^ n - 1) (nd n c T B A J) d (X 7 d)
section MO
variable {h : hc_H} {m len um sp fs n C : Nat} {X : Nat → Nat → Nat} {Q : Nat → Int32} {T B A J S : Nat → Nat}
theorem c_R_findRest (hr : isR h m len um sp fs X Q) (hX : X 2 = rowP n C T B A J S) (hw : pw n T B A J S) (hn1 : 1 ≤ n) {c : Nat} (hc : c < 2000) : ∃ h' X', MA M_R_findRest [.ref m, .int (nI c)] h (some (.int (nI (X' 7 0)))) h' ∧ isR h' m len um sp fs X' Q ∧ (∀ j, ¬ j = 5 → ¬ j = 6 → ¬ j = 7 → X' j = X j) ∧ frP n c T B A J X' ∧ frm h h' m 12 := by
  have hn := hw.1
  have l12 := pow_12 hn
  have hp2 : 2 ≤ 2 ^ n := by
    have : 2 ^ 1 ≤ 2 ^ n := Nat.pow_le_pow_right (by omega) hn1
    omega
  obtain ⟨h1, X1, a1, a2, a3, a4, a5⟩ := c_R_findGood hr hX hw hc
  have v0 : vp_in (nI 0) 4096 := vp_in_nI (by omega) (by omega)
  let ne := nd n c T B A J
  let Z : hc_H → (Nat → Nat → Nat) → Prop := fun h' X' => isR h' m len um sp fs X' Q ∧ (∀ j, ¬ j = 7 → X' j = X1 j) ∧ (∀ d, d ≤ 2 ^ n - 1 → rOk n (2 ^ n - 1) ne d (X' 7 d)) ∧ frm h h' m 12
  have outer : ∀ k, k ≤ 2 ^ n - 1 → ∀ h2 X2, isR h2 m len um sp fs X2 Q → (∀ j, ¬ j = 7 → X2 j = X1 j) → (∀ e, k ≤ e → e ≤ 2 ^ n - 1 → rOk n (2 ^ n - 1) ne e (X2 7 e)) → frm h h2 m 12 → ∃ h' X', Z h' X' ∧ ∀ o3 o4 o5, cx hc_tt M_R_findRest h h' (some (.int (nI (X' 7 0)))) 22 [some (.ref m), some (.int (nI c)), some (.int (nI k + (-1))), o3, o4, o5] [] h2 := by
    intro k
    induction k with
    | zero =>
      intro _ h2 X2 r2 q2 g2 f2
      refine ⟨h2, X2, ⟨r2, q2, fun d hd => g2 d (Nat.zero_le _) hd, f2⟩, fun o3 o4 o5 => sn_R_findRest_22 _ _ _ ?_⟩
      have o0 := r2.1
      have o7 := r2.2.2.2.2.2.2.2.1
      simp only [vc_R_findRest_22, vc_R_findRest_136, qi_push, qi_pushl, qi_iload, qi_lload, qi_aload, qi_istore, qi_astore, qi_lstore, qi_iinc, qi_iadd, qi_isub, qi_imul, qi_iand, qi_ior, qi_ixor, qi_ishl, qi_ishr, qi_iushr, qi_idiv, qi_irem, qi_lor, qi_lmul, qi_ladd, qi_lsub, qi_land, qi_lshl, qi_lshr, qi_i2l, qi_l2i, qi_i2c, qi_lcmp, qi_dup, qi_dup2, qi_pop, qi_if_eq, qi_icmp_eq, qi_if_ne, qi_icmp_ne, qi_if_lt, qi_icmp_lt, qi_if_ge, qi_icmp_ge, qi_if_gt, qi_icmp_gt, qi_if_le, qi_icmp_le, qi_sw, qi_get, qi_put, qi_iald, qi_lald, qi_aald, qi_iast, qi_zast, qi_cast, qi_last, qi_aast, qi_alen, qi_new, qi_newa, qi_newq, qi_obj, qi_invS, qi_invV, qi_invI, qi_iret, qi_zret, qi_lret, qi_vret, qi_acopy, qi_max, qi_min, at_o, at_i, at_l, at_q, at_a, lget, lset, lclr, lnon, lnth, spl, shrt, rpush, true_and, and_true, List.set, List.length, Nat.reduceAdd, Nat.reduceLT, Nat.reduceLeDiff, Nat.reduceEqDiff, Nat.reduceSub, o0, o7, v0, r0]
      exact ⟨fun _ => trivial, fun q => absurd ni_neg q⟩
    | succ d ih =>
      intro hk h2 X2 r2 q2 g2 f2
      have vd : vp_in (nI d) 4096 := vp_in_nI (by omega) (by omega)
      have cd : (nI d).toNatClampNeg = d := nI_clamp (by omega)
      obtain ⟨op, eop⟩ : ∃ z, sdf (2 ^ n - 1) d = z := ⟨_, rfl⟩
      have opW : sub op (2 ^ n - 1) := by rw [← eop]; exact sdf_sub _ _
      have opl := sub_le opW
      have dis : ∀ s, sub s op → d &&& s = 0 := fun s hs => and_0.mpr fun i h1 h2 => by
        have := sub_iff.mp hs i h2
        rw [← eop, bit_sdf] at this
        exact this.2 h1
      have inner := subm_loop (o := op) (P := fun s => ∀ h3 X3, isR h3 m len um sp fs X3 Q → (∀ j, ¬ j = 7 → X3 j = X1 j) → (∀ e, d < e → e ≤ 2 ^ n - 1 → rOk n (2 ^ n - 1) ne e (X3 7 e)) → inR (2 ^ n - 1) ne (X3 7) d s (X3 7 d) → frm h h3 m 12 → ∃ h' X', Z h' X' ∧ ∀ o5, cx hc_tt M_R_findRest h h' (some (.int (nI (X' 7 0)))) 46 [some (.ref m), some (.int (nI c)), some (.int (nI d)), some (.int (nI op)), some (.int (nI s)), o5] [] h3)
        (by
          intro h3 X3 r3 q3 g3 i3 f3
          obtain ⟨h', X', z1, z2⟩ := ih (by omega) h3 X3 r3 q3 (fun e e1 e2 => by
            by_cases w : e = d
            · rw [w]; exact inR_end hn (by omega) g3 i3
            · exact g3 e (by omega) e2) f3
          refine ⟨h', X', z1, fun o5 => sn_R_findRest_46 _ _ _ ?_⟩
          simp only [vc_R_findRest_46, vc_R_findRest_130, qi_push, qi_pushl, qi_iload, qi_lload, qi_aload, qi_istore, qi_astore, qi_lstore, qi_iinc, qi_iadd, qi_isub, qi_imul, qi_iand, qi_ior, qi_ixor, qi_ishl, qi_ishr, qi_iushr, qi_idiv, qi_irem, qi_lor, qi_lmul, qi_ladd, qi_lsub, qi_land, qi_lshl, qi_lshr, qi_i2l, qi_l2i, qi_i2c, qi_lcmp, qi_dup, qi_dup2, qi_pop, qi_if_eq, qi_icmp_eq, qi_if_ne, qi_icmp_ne, qi_if_lt, qi_icmp_lt, qi_if_ge, qi_icmp_ge, qi_if_gt, qi_icmp_gt, qi_if_le, qi_icmp_le, qi_sw, qi_get, qi_put, qi_iald, qi_lald, qi_aald, qi_iast, qi_zast, qi_cast, qi_last, qi_aast, qi_alen, qi_new, qi_newa, qi_newq, qi_obj, qi_invS, qi_invV, qi_invI, qi_iret, qi_zret, qi_lret, qi_vret, qi_acopy, qi_max, qi_min, at_o, at_i, at_l, at_q, at_a, lget, lset, lclr, lnon, lnth, spl, shrt, rpush, true_and, and_true, List.set, List.length, Nat.reduceAdd, Nat.reduceLT, Nat.reduceLeDiff, Nat.reduceEqDiff, Nat.reduceSub]
          exact ⟨fun _ => z2 _ _ _, fun q => absurd (by decide) q⟩)
        (fun s hs s0 ih2 h3 X3 r3 q3 g3 i3 f3 => by
          have sl : s ≤ 2 ^ n - 1 := Nat.le_trans (sub_le hs) opl
          have dl : d ||| s ≤ 2 ^ n - 1 := sub_le (or_sub (sub_all.mpr (by omega)) (sub_trans hs opW))
          have dgt : d < d ||| s := or_gt (dis s hs) s0
          have vo : vp_in (nI (d ||| s)) 4096 := vp_in_nI (by omega) (by omega)
          have co : (nI (d ||| s)).toNatClampNeg = d ||| s := nI_clamp (by omega)
          have ro := rOk_le hn (g3 (d ||| s) dgt dl)
          have o0 := r3.1
          have o7 := r3.2.2.2.2.2.2.2.1
          have hg : fgP n c T B A J X3 := by
            intro x hx
            rw [q3 5 (by omega), q3 6 (by omega)]
            exact a4 x hx
          have vle : X3 7 d ≤ 100 := by
            rcases i3.1 with q | ⟨t, -, q1, q2⟩ <;> omega
          have xed : nxb n c T B A J d s = true ↔ ed (2 ^ n - 1) ne d s := nx_ed hn (by omega) (by omega) (dis s hs)
          -- the number that is kept
          have next : ∀ v, inR (2 ^ n - 1) ne (X3 7) d ((s - 1) &&& op) v → ∃ h' X', Z h' X' ∧ ∀ o5, cx hc_tt M_R_findRest h h' (some (.int (nI (X' 7 0)))) 46 [some (.ref m), some (.int (nI c)), some (.int (nI d)), some (.int (nI op)), some (.int (nI ((s - 1) &&& op))), o5] [] (hc_set h3 (m + 7) (.inl (0, 4096, .inl (fun j => nI (va_up (X3 7) d v j))))) := by
            intro v hv
            refine ih2 _ _ (r3.set7 (f := va_up (X3 7) d v)) (fun j hj => by rw [up_ne hj]; exact q3 j hj) (fun e e1 e2 => ?_) ?_ (f3.set (by omega))
            · show rOk n (2 ^ n - 1) ne e (va_up (X3 7) d v e)
              rw [up_ne (by omega)]; exact g3 e e1 e2
            · show inR (2 ^ n - 1) ne (va_up (X3 7) d v) d ((s - 1) &&& op) (va_up (X3 7) d v d)
              rw [up_eq]
              have eo : ∀ t, ed (2 ^ n - 1) ne d t → va_up (X3 7) d v (d ||| t) = X3 7 (d ||| t) := fun t ht => up_ne (by have := or_gt ht.2.1 ht.2.2.1; omega)
              refine ⟨?_, fun t t1 t2 t3 => ?_⟩
              · rcases hv.1 with q | ⟨t, t1, t2, t3⟩
                · exact Or.inl q
                · exact Or.inr ⟨t, t1, by rw [eo t t1]; exact t2, by rw [eo t t1]; exact t3⟩
              · rw [eo t t2] at t3 ⊢
                exact hv.2 t t1 t2 t3
          have seen : ∀ t, ed (2 ^ n - 1) ne d t → ((s - 1) &&& op < t ↔ s ≤ t) := fun t ht => subm_seen hs s0 (by
            rw [← eop, sub_iff]
            intro i hi
            rw [bit_sdf]
            exact ⟨sub_iff.mp ht.1 i hi, fun q => and_0.mp ht.2.1 i q hi⟩)
          by_cases w : X3 7 (d ||| s) + 1 < X3 7 d ∧ nxb n c T B A J d s = true
          · have hv : inR (2 ^ n - 1) ne (X3 7) d ((s - 1) &&& op) (X3 7 (d ||| s) + 1) := by
              refine ⟨Or.inr ⟨s, xed.mp w.2, by omega, rfl⟩, fun t t1 t2 t3 => ?_⟩
              have := (seen t t2).mp t1
              by_cases e : t = s
              · rw [e]; exact Nat.le_refl _
              · have := i3.2 t (by omega) t2 t3
                omega
            obtain ⟨h', X', z1, z2⟩ := next _ hv
            refine ⟨h', X', z1, fun o5 => sn_R_findRest_46 _ _ _ ?_⟩
            simp only [vc_R_findRest_46, vc_R_findRest_85, qi_push, qi_pushl, qi_iload, qi_lload, qi_aload, qi_istore, qi_astore, qi_lstore, qi_iinc, qi_iadd, qi_isub, qi_imul, qi_iand, qi_ior, qi_ixor, qi_ishl, qi_ishr, qi_iushr, qi_idiv, qi_irem, qi_lor, qi_lmul, qi_ladd, qi_lsub, qi_land, qi_lshl, qi_lshr, qi_i2l, qi_l2i, qi_i2c, qi_lcmp, qi_dup, qi_dup2, qi_pop, qi_if_eq, qi_icmp_eq, qi_if_ne, qi_icmp_ne, qi_if_lt, qi_icmp_lt, qi_if_ge, qi_icmp_ge, qi_if_gt, qi_icmp_gt, qi_if_le, qi_icmp_le, qi_sw, qi_get, qi_put, qi_iald, qi_lald, qi_aald, qi_iast, qi_zast, qi_cast, qi_last, qi_aast, qi_alen, qi_new, qi_newa, qi_newq, qi_obj, qi_invS, qi_invV, qi_invI, qi_iret, qi_zret, qi_lret, qi_vret, qi_acopy, qi_max, qi_min, at_o, at_i, at_l, at_q, at_a, lget, lset, lclr, lnon, lnth, spl, shrt, rpush, true_and, and_true, List.set, List.length, Nat.reduceAdd, Nat.reduceLT, Nat.reduceLeDiff, Nat.reduceEqDiff, Nat.reduceSub, o0, o7, ni_or, vo, co, vd, cd, nI_add]
            rw [nI_leI (by omega) (by omega)]
            refine ⟨fun q => absurd q (nI_nle (by omega) (by omega)), fun _ => ⟨fun q => absurd q (by omega), fun _ => ⟨_, _, c_R_isNext r3 hg hn hw.2.2.1 (d := d) (s := s) (by omega) (by omega), ?_⟩⟩⟩
            rw [w.2]
            simp only [vc_R_findRest_86, vc_R_findRest_118, qi_push, qi_pushl, qi_iload, qi_lload, qi_aload, qi_istore, qi_astore, qi_lstore, qi_iinc, qi_iadd, qi_isub, qi_imul, qi_iand, qi_ior, qi_ixor, qi_ishl, qi_ishr, qi_iushr, qi_idiv, qi_irem, qi_lor, qi_lmul, qi_ladd, qi_lsub, qi_land, qi_lshl, qi_lshr, qi_i2l, qi_l2i, qi_i2c, qi_lcmp, qi_dup, qi_dup2, qi_pop, qi_if_eq, qi_icmp_eq, qi_if_ne, qi_icmp_ne, qi_if_lt, qi_icmp_lt, qi_if_ge, qi_icmp_ge, qi_if_gt, qi_icmp_gt, qi_if_le, qi_icmp_le, qi_sw, qi_get, qi_put, qi_iald, qi_lald, qi_aald, qi_iast, qi_zast, qi_cast, qi_last, qi_aast, qi_alen, qi_new, qi_newa, qi_newq, qi_obj, qi_invS, qi_invV, qi_invI, qi_iret, qi_zret, qi_lret, qi_vret, qi_acopy, qi_max, qi_min, at_o, at_i, at_l, at_q, at_a, lget, lset, lclr, lnon, lnth, spl, shrt, rpush, true_and, and_true, List.set, List.length, Nat.reduceAdd, Nat.reduceLT, Nat.reduceLeDiff, Nat.reduceEqDiff, Nat.reduceSub, o0, o7, ni_or, vo, co, vd, cd, nI_add]
            rw [upd_nI, pk_sub (by omega), ni_and]
            exact ⟨fun q => absurd q c10, fun _ => ⟨fun q => absurd q c10, fun _ => z2 _⟩⟩
          · have hv : inR (2 ^ n - 1) ne (X3 7) d ((s - 1) &&& op) (X3 7 d) := by
              refine ⟨i3.1, fun t t1 t2 t3 => ?_⟩
              have := (seen t t2).mp t1
              by_cases e : t = s
              · subst e
                apply Nat.le_of_not_lt
                intro q
                exact w ⟨q, xed.mpr t2⟩
              · exact i3.2 t (by omega) t2 t3
            obtain ⟨h', X', z1, z2⟩ := next _ hv
            refine ⟨h', X', z1, fun o5 => sn_R_findRest_46 _ _ _ ?_⟩
            have k86 : ∀ u, vc_R_findRest_86 (some (.int (nI (X' 7 0)))) h' (cx hc_tt M_R_findRest h h' (some (.int (nI (X' 7 0))))) [some (.ref m), some (.int (nI c)), some (.int (nI d)), some (.int (nI op)), some (.int (nI s)), u] [.int (nI 0)] h3 := by
              intro u
              simp only [vc_R_findRest_86, vc_R_findRest_112, vc_R_findRest_118, qi_push, qi_pushl, qi_iload, qi_lload, qi_aload, qi_istore, qi_astore, qi_lstore, qi_iinc, qi_iadd, qi_isub, qi_imul, qi_iand, qi_ior, qi_ixor, qi_ishl, qi_ishr, qi_iushr, qi_idiv, qi_irem, qi_lor, qi_lmul, qi_ladd, qi_lsub, qi_land, qi_lshl, qi_lshr, qi_i2l, qi_l2i, qi_i2c, qi_lcmp, qi_dup, qi_dup2, qi_pop, qi_if_eq, qi_icmp_eq, qi_if_ne, qi_icmp_ne, qi_if_lt, qi_icmp_lt, qi_if_ge, qi_icmp_ge, qi_if_gt, qi_icmp_gt, qi_if_le, qi_icmp_le, qi_sw, qi_get, qi_put, qi_iald, qi_lald, qi_aald, qi_iast, qi_zast, qi_cast, qi_last, qi_aast, qi_alen, qi_new, qi_newa, qi_newq, qi_obj, qi_invS, qi_invV, qi_invI, qi_iret, qi_zret, qi_lret, qi_vret, qi_acopy, qi_max, qi_min, at_o, at_i, at_l, at_q, at_a, lget, lset, lclr, lnon, lnth, spl, shrt, rpush, true_and, and_true, List.set, List.length, Nat.reduceAdd, Nat.reduceLT, Nat.reduceLeDiff, Nat.reduceEqDiff, Nat.reduceSub, o0, o7, ni_or, vo, co, vd, cd]
              rw [upd_nI, pk_sub (by omega), ni_and]
              exact ⟨fun _ => z2 _, fun q => absurd rfl q⟩
            simp only [vc_R_findRest_46, vc_R_findRest_85, qi_push, qi_pushl, qi_iload, qi_lload, qi_aload, qi_istore, qi_astore, qi_lstore, qi_iinc, qi_iadd, qi_isub, qi_imul, qi_iand, qi_ior, qi_ixor, qi_ishl, qi_ishr, qi_iushr, qi_idiv, qi_irem, qi_lor, qi_lmul, qi_ladd, qi_lsub, qi_land, qi_lshl, qi_lshr, qi_i2l, qi_l2i, qi_i2c, qi_lcmp, qi_dup, qi_dup2, qi_pop, qi_if_eq, qi_icmp_eq, qi_if_ne, qi_icmp_ne, qi_if_lt, qi_icmp_lt, qi_if_ge, qi_icmp_ge, qi_if_gt, qi_icmp_gt, qi_if_le, qi_icmp_le, qi_sw, qi_get, qi_put, qi_iald, qi_lald, qi_aald, qi_iast, qi_zast, qi_cast, qi_last, qi_aast, qi_alen, qi_new, qi_newa, qi_newq, qi_obj, qi_invS, qi_invV, qi_invI, qi_iret, qi_zret, qi_lret, qi_vret, qi_acopy, qi_max, qi_min, at_o, at_i, at_l, at_q, at_a, lget, lset, lclr, lnon, lnth, spl, shrt, rpush, true_and, and_true, List.set, List.length, Nat.reduceAdd, Nat.reduceLT, Nat.reduceLeDiff, Nat.reduceEqDiff, Nat.reduceSub, o0, o7, ni_or, vo, co, vd, cd, nI_add]
            rw [nI_leI (by omega) (by omega)]
            refine ⟨fun q => absurd q (nI_nle (by omega) (by omega)), fun _ => ⟨fun _ => k86 _, fun q => ⟨_, _, c_R_isNext r3 hg hn hw.2.2.1 (d := d) (s := s) (by omega) (by omega), ?_⟩⟩⟩
            have e0 : nxb n c T B A J d s = false := by
              cases z : nxb n c T B A J d s
              · rfl
              · exact absurd ⟨by omega, z⟩ w
            rw [e0]
            simp only [qi_push, qi_pushl, qi_iload, qi_lload, qi_aload, qi_istore, qi_astore, qi_lstore, qi_iinc, qi_iadd, qi_isub, qi_imul, qi_iand, qi_ior, qi_ixor, qi_ishl, qi_ishr, qi_iushr, qi_idiv, qi_irem, qi_lor, qi_lmul, qi_ladd, qi_lsub, qi_land, qi_lshl, qi_lshr, qi_i2l, qi_l2i, qi_i2c, qi_lcmp, qi_dup, qi_dup2, qi_pop, qi_if_eq, qi_icmp_eq, qi_if_ne, qi_icmp_ne, qi_if_lt, qi_icmp_lt, qi_if_ge, qi_icmp_ge, qi_if_gt, qi_icmp_gt, qi_if_le, qi_icmp_le, qi_sw, qi_get, qi_put, qi_iald, qi_lald, qi_aald, qi_iast, qi_zast, qi_cast, qi_last, qi_aast, qi_alen, qi_new, qi_newa, qi_newq, qi_obj, qi_invS, qi_invV, qi_invI, qi_iret, qi_zret, qi_lret, qi_vret, qi_acopy, qi_max, qi_min, at_o, at_i, at_l, at_q, at_a, lget, lset, lclr, lnon, lnth, spl, shrt, rpush, true_and, and_true, List.set, List.length, Nat.reduceAdd, Nat.reduceLT, Nat.reduceLeDiff, Nat.reduceEqDiff, Nat.reduceSub]
            exact ⟨fun _ => k86 _, fun q => absurd rfl q⟩)
      have r3 := r2.set7 (f := va_up (X2 7) d 100)
      obtain ⟨h', X', z1, z2⟩ := inner op (sub_rfl op) _ _ r3 (fun j hj => by rw [up_ne hj]; exact q2 j hj) (fun e e1 e2 => by
        show rOk n (2 ^ n - 1) ne e (va_up (X2 7) d 100 e)
        rw [up_ne (by omega)]
        exact g2 e (by omega) e2) (by
        show inR (2 ^ n - 1) ne (va_up (X2 7) d 100) d op (va_up (X2 7) d 100 d)
        rw [up_eq]
        refine ⟨Or.inl rfl, fun t t1 t2 t3 => ?_⟩
        have : sub t op := by
          rw [← eop, sub_iff]
          intro i hi
          rw [bit_sdf]
          exact ⟨sub_iff.mp t2.1 i hi, fun q => and_0.mp t2.2.1 i q hi⟩
        have := sub_le this
        omega) (f2.set (by omega))
      refine ⟨h', X', z1, fun o3 o4 o5 => sn_R_findRest_22 _ _ _ ?_⟩
      have o0 := r2.1
      have o7 := r2.2.2.2.2.2.2.2.1
      rw [ni_dec]
      simp only [vc_R_findRest_22, qi_push, qi_pushl, qi_iload, qi_lload, qi_aload, qi_istore, qi_astore, qi_lstore, qi_iinc, qi_iadd, qi_isub, qi_imul, qi_iand, qi_ior, qi_ixor, qi_ishl, qi_ishr, qi_iushr, qi_idiv, qi_irem, qi_lor, qi_lmul, qi_ladd, qi_lsub, qi_land, qi_lshl, qi_lshr, qi_i2l, qi_l2i, qi_i2c, qi_lcmp, qi_dup, qi_dup2, qi_pop, qi_if_eq, qi_icmp_eq, qi_if_ne, qi_icmp_ne, qi_if_lt, qi_icmp_lt, qi_if_ge, qi_icmp_ge, qi_if_gt, qi_icmp_gt, qi_if_le, qi_icmp_le, qi_sw, qi_get, qi_put, qi_iald, qi_lald, qi_aald, qi_iast, qi_zast, qi_cast, qi_last, qi_aast, qi_alen, qi_new, qi_newa, qi_newq, qi_obj, qi_invS, qi_invV, qi_invI, qi_iret, qi_zret, qi_lret, qi_vret, qi_acopy, qi_max, qi_min, at_o, at_i, at_l, at_q, at_a, lget, lset, lclr, lnon, lnth, spl, shrt, rpush, true_and, and_true, List.set, List.length, Nat.reduceAdd, Nat.reduceLT, Nat.reduceLeDiff, Nat.reduceEqDiff, Nat.reduceSub, o0]
      refine ⟨fun q => absurd q (nI_pos (by omega)), fun _ => ⟨_, _, c_R_all r2 (by rw [q2 2 (by omega), a3 2 (by omega) (by omega), hX]; rfl) hn, ?_⟩⟩
      simp only [qi_push, qi_pushl, qi_iload, qi_lload, qi_aload, qi_istore, qi_astore, qi_lstore, qi_iinc, qi_iadd, qi_isub, qi_imul, qi_iand, qi_ior, qi_ixor, qi_ishl, qi_ishr, qi_iushr, qi_idiv, qi_irem, qi_lor, qi_lmul, qi_ladd, qi_lsub, qi_land, qi_lshl, qi_lshr, qi_i2l, qi_l2i, qi_i2c, qi_lcmp, qi_dup, qi_dup2, qi_pop, qi_if_eq, qi_icmp_eq, qi_if_ne, qi_icmp_ne, qi_if_lt, qi_icmp_lt, qi_if_ge, qi_icmp_ge, qi_if_gt, qi_icmp_gt, qi_if_le, qi_icmp_le, qi_sw, qi_get, qi_put, qi_iald, qi_lald, qi_aald, qi_iast, qi_zast, qi_cast, qi_last, qi_aast, qi_alen, qi_new, qi_newa, qi_newq, qi_obj, qi_invS, qi_invV, qi_invI, qi_iret, qi_zret, qi_lret, qi_vret, qi_acopy, qi_max, qi_min, at_o, at_i, at_l, at_q, at_a, lget, lset, lclr, lnon, lnth, spl, shrt, rpush, true_and, and_true, List.set, List.length, Nat.reduceAdd, Nat.reduceLT, Nat.reduceLeDiff, Nat.reduceEqDiff, Nat.reduceSub, o0, o7, vd, cd]
      rw [ni_not, upd_nI, eop]
      exact z2 _
  have r3 := a2.set7 (f := va_up (X1 7) (2 ^ n - 1) 0)
  obtain ⟨h', X', z1, z2⟩ := outer (2 ^ n - 1) (Nat.le_refl _) _ _ r3 (fun j hj => up_ne hj) (fun e e1 e2 => by
    show rOk n (2 ^ n - 1) ne e (va_up (X1 7) (2 ^ n - 1) 0 e)
    rw [show e = 2 ^ n - 1 by omega, up_eq]
    exact rOk_W) (a5.set (by omega))
  refine ⟨h', X', MX.of (lv := [some (.ref m), some (.int (nI c)), none, none, none, none]) 4 rfl (by decide) (Nat.le_of_ble_eq_true rfl) (sn_R_findRest_0 _ _ _ ?_), z1.1, fun j j5 j6 j7 => by rw [z1.2.1 j j7]; exact a3 j j5 j6, ⟨?_, z1.2.2.1⟩, z1.2.2.2⟩
  · have o0 := hr.1
    have p0 := a2.1
    have p7 := a2.2.2.2.2.2.2.2.1
    have s0 := r3.1
    have x0 : X1 2 0 = n := by rw [a3 2 (by omega) (by omega), hX]; rfl
    simp only [vc_R_findRest_0, qi_push, qi_pushl, qi_iload, qi_lload, qi_aload, qi_istore, qi_astore, qi_lstore, qi_iinc, qi_iadd, qi_isub, qi_imul, qi_iand, qi_ior, qi_ixor, qi_ishl, qi_ishr, qi_iushr, qi_idiv, qi_irem, qi_lor, qi_lmul, qi_ladd, qi_lsub, qi_land, qi_lshl, qi_lshr, qi_i2l, qi_l2i, qi_i2c, qi_lcmp, qi_dup, qi_dup2, qi_pop, qi_if_eq, qi_icmp_eq, qi_if_ne, qi_icmp_ne, qi_if_lt, qi_icmp_lt, qi_if_ge, qi_icmp_ge, qi_if_gt, qi_icmp_gt, qi_if_le, qi_icmp_le, qi_sw, qi_get, qi_put, qi_iald, qi_lald, qi_aald, qi_iast, qi_zast, qi_cast, qi_last, qi_aast, qi_alen, qi_new, qi_newa, qi_newq, qi_obj, qi_invS, qi_invV, qi_invI, qi_iret, qi_zret, qi_lret, qi_vret, qi_acopy, qi_max, qi_min, at_o, at_i, at_l, at_q, at_a, lget, lset, lclr, lnon, lnth, spl, shrt, rpush, true_and, and_true, List.set, List.length, Nat.reduceAdd, Nat.reduceLT, Nat.reduceLeDiff, Nat.reduceEqDiff, Nat.reduceSub, o0]
    refine ⟨_, _, a1, ?_⟩
    simp only [qi_push, qi_pushl, qi_iload, qi_lload, qi_aload, qi_istore, qi_astore, qi_lstore, qi_iinc, qi_iadd, qi_isub, qi_imul, qi_iand, qi_ior, qi_ixor, qi_ishl, qi_ishr, qi_iushr, qi_idiv, qi_irem, qi_lor, qi_lmul, qi_ladd, qi_lsub, qi_land, qi_lshl, qi_lshr, qi_i2l, qi_l2i, qi_i2c, qi_lcmp, qi_dup, qi_dup2, qi_pop, qi_if_eq, qi_icmp_eq, qi_if_ne, qi_icmp_ne, qi_if_lt, qi_icmp_lt, qi_if_ge, qi_icmp_ge, qi_if_gt, qi_icmp_gt, qi_if_le, qi_icmp_le, qi_sw, qi_get, qi_put, qi_iald, qi_lald, qi_aald, qi_iast, qi_zast, qi_cast, qi_last, qi_aast, qi_alen, qi_new, qi_newa, qi_newq, qi_obj, qi_invS, qi_invV, qi_invI, qi_iret, qi_zret, qi_lret, qi_vret, qi_acopy, qi_max, qi_min, at_o, at_i, at_l, at_q, at_a, lget, lset, lclr, lnon, lnth, spl, shrt, rpush, true_and, and_true, List.set, List.length, Nat.reduceAdd, Nat.reduceLT, Nat.reduceLeDiff, Nat.reduceEqDiff, Nat.reduceSub, p0]
    refine ⟨_, _, c_R_all a2 x0 hn, ?_⟩
    simp only [qi_push, qi_pushl, qi_iload, qi_lload, qi_aload, qi_istore, qi_astore, qi_lstore, qi_iinc, qi_iadd, qi_isub, qi_imul, qi_iand, qi_ior, qi_ixor, qi_ishl, qi_ishr, qi_iushr, qi_idiv, qi_irem, qi_lor, qi_lmul, qi_ladd, qi_lsub, qi_land, qi_lshl, qi_lshr, qi_i2l, qi_l2i, qi_i2c, qi_lcmp, qi_dup, qi_dup2, qi_pop, qi_if_eq, qi_icmp_eq, qi_if_ne, qi_icmp_ne, qi_if_lt, qi_icmp_lt, qi_if_ge, qi_icmp_ge, qi_if_gt, qi_icmp_gt, qi_if_le, qi_icmp_le, qi_sw, qi_get, qi_put, qi_iald, qi_lald, qi_aald, qi_iast, qi_zast, qi_cast, qi_last, qi_aast, qi_alen, qi_new, qi_newa, qi_newq, qi_obj, qi_invS, qi_invV, qi_invI, qi_iret, qi_zret, qi_lret, qi_vret, qi_acopy, qi_max, qi_min, at_o, at_i, at_l, at_q, at_a, lget, lset, lclr, lnon, lnth, spl, shrt, rpush, true_and, and_true, List.set, List.length, Nat.reduceAdd, Nat.reduceLT, Nat.reduceLeDiff, Nat.reduceEqDiff, Nat.reduceSub, p0, p7]
    rw [nI_clamp (by omega), upd_nI]
    refine ⟨vp_in_nI (by omega) (by omega), ?_⟩
    simp only [qi_push, qi_pushl, qi_iload, qi_lload, qi_aload, qi_istore, qi_astore, qi_lstore, qi_iinc, qi_iadd, qi_isub, qi_imul, qi_iand, qi_ior, qi_ixor, qi_ishl, qi_ishr, qi_iushr, qi_idiv, qi_irem, qi_lor, qi_lmul, qi_ladd, qi_lsub, qi_land, qi_lshl, qi_lshr, qi_i2l, qi_l2i, qi_i2c, qi_lcmp, qi_dup, qi_dup2, qi_pop, qi_if_eq, qi_icmp_eq, qi_if_ne, qi_icmp_ne, qi_if_lt, qi_icmp_lt, qi_if_ge, qi_icmp_ge, qi_if_gt, qi_icmp_gt, qi_if_le, qi_icmp_le, qi_sw, qi_get, qi_put, qi_iald, qi_lald, qi_aald, qi_iast, qi_zast, qi_cast, qi_last, qi_aast, qi_alen, qi_new, qi_newa, qi_newq, qi_obj, qi_invS, qi_invV, qi_invI, qi_iret, qi_zret, qi_lret, qi_vret, qi_acopy, qi_max, qi_min, at_o, at_i, at_l, at_q, at_a, lget, lset, lclr, lnon, lnth, spl, shrt, rpush, true_and, and_true, List.set, List.length, Nat.reduceAdd, Nat.reduceLT, Nat.reduceLeDiff, Nat.reduceEqDiff, Nat.reduceSub, s0]
    refine ⟨_, _, c_R_all r3 (by rw [up_ne (by omega)]; exact x0) hn, ?_⟩
    simp only [qi_push, qi_pushl, qi_iload, qi_lload, qi_aload, qi_istore, qi_astore, qi_lstore, qi_iinc, qi_iadd, qi_isub, qi_imul, qi_iand, qi_ior, qi_ixor, qi_ishl, qi_ishr, qi_iushr, qi_idiv, qi_irem, qi_lor, qi_lmul, qi_ladd, qi_lsub, qi_land, qi_lshl, qi_lshr, qi_i2l, qi_l2i, qi_i2c, qi_lcmp, qi_dup, qi_dup2, qi_pop, qi_if_eq, qi_icmp_eq, qi_if_ne, qi_icmp_ne, qi_if_lt, qi_icmp_lt, qi_if_ge, qi_icmp_ge, qi_if_gt, qi_icmp_gt, qi_if_le, qi_icmp_le, qi_sw, qi_get, qi_put, qi_iald, qi_lald, qi_aald, qi_iast, qi_zast, qi_cast, qi_last, qi_aast, qi_alen, qi_new, qi_newa, qi_newq, qi_obj, qi_invS, qi_invV, qi_invI, qi_iret, qi_zret, qi_lret, qi_vret, qi_acopy, qi_max, qi_min, at_o, at_i, at_l, at_q, at_a, lget, lset, lclr, lnon, lnth, spl, shrt, rpush, true_and, and_true, List.set, List.length, Nat.reduceAdd, Nat.reduceLT, Nat.reduceLeDiff, Nat.reduceEqDiff, Nat.reduceSub]
    have : nI (2 ^ n - 1) - nI 1 = nI (2 ^ n - 1) + (-1) := by rw [Int32.sub_eq_add_neg]; rfl
    rw [this]
    exact z2 _ _ _
  · intro s hs
    rw [z1.2.1 5 (by omega), z1.2.1 6 (by omega)]
    exact a4 s hs
end MO
