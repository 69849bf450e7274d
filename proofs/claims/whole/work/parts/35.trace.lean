/-! LINES: going back through the best lines. -/
/-- all that is in those below n with P, together -/
def orS (P : Nat → Bool) : Nat → Nat
  | 0 => 0
  | n + 1 => if P n then orS P n ||| n else orS P n
theorem orS_bit {P : Nat → Bool} {i : Nat} : ∀ n, (orS P n).testBit i = true ↔ ∃ t, t < n ∧ P t = true ∧ t.testBit i = true := by
  intro n
  induction n with
  | zero => simp [orS]
  | succ n ih =>
    simp only [orS]
    constructor
    · intro h
      split at h
      · rename_i q
        rw [Nat.testBit_or, Bool.or_eq_true] at h
        rcases h with h | h
        · obtain ⟨x, h1, h2⟩ := ih.mp h; exact ⟨x, by omega, h2⟩
        · exact ⟨n, by omega, q, h⟩
      · obtain ⟨x, h1, h2⟩ := ih.mp h; exact ⟨x, by omega, h2⟩
    · rintro ⟨x, h1, h2, h3⟩
      by_cases q : x = n
      · subst q
        rw [if_pos h2, Nat.testBit_or, h3, Bool.or_true]
      · have := ih.mpr ⟨x, by omega, h2, h3⟩
        split
        · rw [Nat.testBit_or, this]; rfl
        · exact this
theorem orS_lt {P : Nat → Bool} {n : Nat} (hn : n ≤ 4096) : orS P n < 4096 := tb_lt (k := 12) fun i hi => by
  cases h : (orS P n).testBit i
  · rfl
  · obtain ⟨t, h1, h2, h3⟩ := (orS_bit n).mp h
    rw [tb_ge (k := 12) (by omega) hi] at h3
    cases h3
theorem tb_ext {a b : Nat} (h : ∀ i, a.testBit i = true ↔ b.testBit i = true) : a = b := Nat.eq_of_testBit_eq fun i => by
  have := h i
  cases ha : a.testBit i <;> cases hb : b.testBit i <;> simp_all
/-- a step back from th by t -/
def okT (l ne : Nat → Nat) (th t : Nat) : Bool := decide (t &&& th = t ∧ 0 < t ∧ l (sdf th t) + 1 = l th ∧ sdf (ne t) (sdf th t) = 0)
def tW (l ne w : Nat → Nat) (th s : Nat) : Nat → Nat := fun d => if d &&& th = d ∧ s < sdf th d ∧ okT l ne th (sdf th d) = true then min 1000000 (w d + w th) else w d
def tP (l ne sp w pl : Nat → Nat) (th s : Nat) : Nat → Nat := fun d => if (d &&& th = d ∧ s < sdf th d ∧ okT l ne th (sdf th d) = true) ∧ (w d = 0 ∨ pl th ||| sp (sdf th d) * l th < pl d) then pl th ||| sp (sdf th d) * l th else pl d
def tH (l ne ha : Nat → Nat) (th s : Nat) : Nat := ha (l th) ||| orS (fun t => decide (s < t) && okT l ne th t) (th + 1)
abbrev tT : Type := (Nat → Nat) × (Nat → Nat) × (Nat → Nat)
/-- after i sets, from W down -/
def trc (W : Nat) (l ne sp pl0 : Nat → Nat) : Nat → tT
  | 0 => (va_up (fun _ => 0) W 1, va_up pl0 W 0, fun _ => 0)
  | i + 1 => if 0 < (trc W l ne sp pl0 i).1 (W - i) ∧ 1 ≤ l (W - i) ∧ l (W - i) ≤ 12 then (tW l ne (trc W l ne sp pl0 i).1 (W - i) 0, tP l ne sp (trc W l ne sp pl0 i).1 (trc W l ne sp pl0 i).2.1 (W - i) 0, va_up (trc W l ne sp pl0 i).2.2 (l (W - i)) (tH l ne (trc W l ne sp pl0 i).2.2 (W - i) 0)) else trc W l ne sp pl0 i
theorem sdf_sdf {d th : Nat} (h : sub d th) : sdf th (sdf th d) = d := by
  apply Nat.eq_of_testBit_eq
  intro i
  rw [sdf_bit, sdf_bit]
  cases hd : d.testBit i
  · cases th.testBit i <;> rfl
  · rw [sub_iff.mp h i hd]; rfl
theorem lc_ge {a b : Nat} (ha : a < 2 ^ 63) (hb : b < 2 ^ 63) : 0 ≤ lg_cmp (lN a) (lN b) ↔ b ≤ a := by
  unfold lg_cmp
  have h1 := pk_lLT ha hb
  have h2 := pk_lEQ ha hb
  have h3 := pk_lLT hb ha
  repeat' split
  all_goals (simp only [h1, h2, h3] at *)
  all_goals first
    | (constructor <;> intro z <;> first | omega | exact absurd z (by decide) | decide)
section LN
variable {h : hc_H} {a N fx wh us C : Nat} {F G : Nat → Nat → Nat}
theorem c_L_traceStep (hp : isLn h a N fx wh (nI C) us F G) (hN : N ≤ 4096) (hF : ∀ k s, F k s ≤ 2000000) (hG0 : ∀ s, G 0 s < 2 ^ 60) {d s k : Nat} (hd : d < N) (hs : s < N) (hds : d ||| s < N) (hk1 : 1 ≤ k) (hk : k ≤ 12) (hG1 : G 1 s < 2 ^ 48) (hw : F 9 d ≤ 1000000 ∧ F 9 (d ||| s) ≤ 1000000) : ∃ h', MA M_L_traceStep [.ref a, .int (nI d), .int (nI s), .int (nI k)] h none h' ∧ isLn h' a N fx wh (nI C) us (va_up (va_up F 9 (va_up (F 9) d (min 1000000 (F 9 d + F 9 (d ||| s))))) 1 (va_up (F 1) k (F 1 k ||| s))) (va_up G 0 (if F 9 d = 0 ∨ G 0 (d ||| s) ||| G 1 s * k < G 0 d then va_up (G 0) d (G 0 (d ||| s) ||| G 1 s * k) else G 0)) ∧ frm h h' a 13 := by
  obtain ⟨e0, e1, e2, e3, e4, e5, e6, e7, e8, e9, e10, e11, e12⟩ := id hp
  have hvd : vp_in (nI d) N := vp_in_nI hd (by omega)
  have hvs : vp_in (nI s) N := vp_in_nI hs (by omega)
  have hvt : vp_in (nI (d ||| s)) N := vp_in_nI hds (by omega)
  have hvk : vp_in (nI k) 13 := vp_in_nI (by omega) (by omega)
  have cd : (nI d).toNatClampNeg = d := nI_clamp (by omega)
  have cs : (nI s).toNatClampNeg = s := nI_clamp (by omega)
  have ct : (nI (d ||| s)).toNatClampNeg = d ||| s := nI_clamp (by omega)
  have ck : (nI k).toNatClampNeg = k := nI_clamp (by omega)
  have kl : (nI k).toInt64 = lN k := nI_l (by omega)
  have b1 : G 1 s * k < 2 ^ 60 := by
    have : G 1 s * k ≤ G 1 s * 12 := Nat.mul_le_mul_left _ hk
    omega
  have b2 : G 0 (d ||| s) ||| G 1 s * k < 2 ^ 60 := or_lt (hG0 _) b1
  have b3 := hG0 d
  obtain ⟨pc, hpc⟩ : ∃ pc, G 0 (d ||| s) ||| G 1 s * k = pc := ⟨_, rfl⟩
  rw [hpc] at b2 ⊢
  have k53 : ∀ (g : Nat → Nat) (h1 hf : hc_H), isLn h1 a N fx wh (nI C) us F (va_up G 0 g) → (∀ x, hf = hc_set (hc_set h1 (a + 9) (.inl (0, N, .inl (fun j => nI (va_up (F 9) d (min 1000000 (F 9 d + F 9 (d ||| s))) j))))) (a + 1) (.inl (0, 13, .inl (fun j => nI (va_up (F 1) k (F 1 k ||| s) j)))) → vc_L_traceStep_53 none hf (cx hc_tt M_L_traceStep h hf none) [some (.ref a), some (.int (nI d)), some (.int (nI s)), some (.int (nI k)), some (.int (nI (d ||| s))), x, none] [] h1) := by
    intro g h1 hf l1 x hhf
    subst hhf
    obtain ⟨k9, ek9⟩ : ∃ z, hc_set h1 (a + 9) (.inl (0, N, .inl (fun j => nI (va_up (F 9) d (min 1000000 (F 9 d + F 9 (d ||| s))) j)))) = z := ⟨_, rfl⟩
    have l9 : isLn k9 a N fx wh (nI C) us (va_up F 9 (va_up (F 9) d (min 1000000 (F 9 d + F 9 (d ||| s))))) (va_up G 0 g) := ek9 ▸ l1.set9
    have o0 := l1.1
    have o9 := l1.2.2.2.2.2.2.2.2.2.1
    have x0 := l9.1
    have x1 : k9.1 (a + 1) = ii 13 (F 1) := l9.2.1
    simp only [vc_L_traceStep_53, qi_push, qi_pushl, qi_iload, qi_lload, qi_aload, qi_istore, qi_astore, qi_lstore, qi_iinc, qi_iadd, qi_isub, qi_imul, qi_iand, qi_ior, qi_ixor, qi_ishl, qi_ishr, qi_iushr, qi_idiv, qi_irem, qi_lor, qi_lmul, qi_ladd, qi_lsub, qi_land, qi_lshl, qi_lshr, qi_i2l, qi_l2i, qi_i2c, qi_lcmp, qi_dup, qi_dup2, qi_pop, qi_if_eq, qi_icmp_eq, qi_if_ne, qi_icmp_ne, qi_if_lt, qi_icmp_lt, qi_if_ge, qi_icmp_ge, qi_if_gt, qi_icmp_gt, qi_if_le, qi_icmp_le, qi_sw, qi_get, qi_put, qi_iald, qi_lald, qi_aald, qi_iast, qi_zast, qi_cast, qi_last, qi_aast, qi_alen, qi_new, qi_newa, qi_newq, qi_obj, qi_invS, qi_invV, qi_invI, qi_iret, qi_zret, qi_lret, qi_vret, qi_acopy, qi_max, qi_min, at_o, at_i, at_l, at_q, at_a, lget, lset, lclr, lnon, lnth, spl, shrt, rpush, true_and, and_true, List.set, List.length, Nat.reduceAdd, Nat.reduceLT, Nat.reduceLeDiff, Nat.reduceEqDiff, Nat.reduceSub, o0, o9, hvd, hvt, cd, ct, nI_add]
    rw [ni_min (by omega) (by omega), upd_nI, ek9]
    simp only [qi_push, qi_pushl, qi_iload, qi_lload, qi_aload, qi_istore, qi_astore, qi_lstore, qi_iinc, qi_iadd, qi_isub, qi_imul, qi_iand, qi_ior, qi_ixor, qi_ishl, qi_ishr, qi_iushr, qi_idiv, qi_irem, qi_lor, qi_lmul, qi_ladd, qi_lsub, qi_land, qi_lshl, qi_lshr, qi_i2l, qi_l2i, qi_i2c, qi_lcmp, qi_dup, qi_dup2, qi_pop, qi_if_eq, qi_icmp_eq, qi_if_ne, qi_icmp_ne, qi_if_lt, qi_icmp_lt, qi_if_ge, qi_icmp_ge, qi_if_gt, qi_icmp_gt, qi_if_le, qi_icmp_le, qi_sw, qi_get, qi_put, qi_iald, qi_lald, qi_aald, qi_iast, qi_zast, qi_cast, qi_last, qi_aast, qi_alen, qi_new, qi_newa, qi_newq, qi_obj, qi_invS, qi_invV, qi_invI, qi_iret, qi_zret, qi_lret, qi_vret, qi_acopy, qi_max, qi_min, at_o, at_i, at_l, at_q, at_a, lget, lset, lclr, lnon, lnth, spl, shrt, rpush, true_and, and_true, List.set, List.length, Nat.reduceAdd, Nat.reduceLT, Nat.reduceLeDiff, Nat.reduceEqDiff, Nat.reduceSub, x0, x1, hvk, ck, ni_or, upd_nI]
  by_cases q : F 9 d = 0 ∨ pc < G 0 d
  · rw [if_pos q]
    have l1 : isLn (hc_set h (a + 11) (.inl (2, N, .inr (.inl (fun j => lN (va_up (G 0) d pc j)))))) a N fx wh (nI C) us F (va_up G 0 (va_up (G 0) d pc)) := hp.setP
    refine ⟨hc_set (hc_set (hc_set h (a + 11) (.inl (2, N, .inr (.inl (fun j => lN (va_up (G 0) d pc j)))))) (a + 9) (.inl (0, N, .inl (fun j => nI (va_up (F 9) d (min 1000000 (F 9 d + F 9 (d ||| s))) j))))) (a + 1) (.inl (0, 13, .inl (fun j => nI (va_up (F 1) k (F 1 k ||| s) j)))), MX.of (lv := [some (.ref a), some (.int (nI d)), some (.int (nI s)), some (.int (nI k)), none, none, none]) 3 rfl (by decide) (Nat.le_of_ble_eq_true rfl) (sn_L_traceStep_0 _ _ _ ?_), l1.set9.set1, ((frm.rfl'.set (by omega)).set (by omega)).set (by omega)⟩
    have kk := fun hf => k53 _ _ hf l1
    have k45 : ∀ x : Nat, vc_L_traceStep_45 none (hc_set (hc_set (hc_set h (a + 11) (.inl (2, N, .inr (.inl (fun j => lN (va_up (G 0) d pc j)))))) (a + 9) (.inl (0, N, .inl (fun j => nI (va_up (F 9) d (min 1000000 (F 9 d + F 9 (d ||| s))) j))))) (a + 1) (.inl (0, 13, .inl (fun j => nI (va_up (F 1) k (F 1 k ||| s) j))))) (cx hc_tt M_L_traceStep h (hc_set (hc_set (hc_set h (a + 11) (.inl (2, N, .inr (.inl (fun j => lN (va_up (G 0) d pc j)))))) (a + 9) (.inl (0, N, .inl (fun j => nI (va_up (F 9) d (min 1000000 (F 9 d + F 9 (d ||| s))) j))))) (a + 1) (.inl (0, 13, .inl (fun j => nI (va_up (F 1) k (F 1 k ||| s) j))))) none) [some (.ref a), some (.int (nI d)), some (.int (nI s)), some (.int (nI k)), some (.int (nI (d ||| s))), some (.long (lN pc)), none] [] h := by
      intro x
      simp only [vc_L_traceStep_45, qi_push, qi_pushl, qi_iload, qi_lload, qi_aload, qi_istore, qi_astore, qi_lstore, qi_iinc, qi_iadd, qi_isub, qi_imul, qi_iand, qi_ior, qi_ixor, qi_ishl, qi_ishr, qi_iushr, qi_idiv, qi_irem, qi_lor, qi_lmul, qi_ladd, qi_lsub, qi_land, qi_lshl, qi_lshr, qi_i2l, qi_l2i, qi_i2c, qi_lcmp, qi_dup, qi_dup2, qi_pop, qi_if_eq, qi_icmp_eq, qi_if_ne, qi_icmp_ne, qi_if_lt, qi_icmp_lt, qi_if_ge, qi_icmp_ge, qi_if_gt, qi_icmp_gt, qi_if_le, qi_icmp_le, qi_sw, qi_get, qi_put, qi_iald, qi_lald, qi_aald, qi_iast, qi_zast, qi_cast, qi_last, qi_aast, qi_alen, qi_new, qi_newa, qi_newq, qi_obj, qi_invS, qi_invV, qi_invI, qi_iret, qi_zret, qi_lret, qi_vret, qi_acopy, qi_max, qi_min, at_o, at_i, at_l, at_q, at_a, lget, lset, lclr, lnon, lnth, spl, shrt, rpush, true_and, and_true, List.set, List.length, Nat.reduceAdd, Nat.reduceLT, Nat.reduceLeDiff, Nat.reduceEqDiff, Nat.reduceSub, e0, e11, hvd, cd, updL_lN]
      exact kk _ _ rfl
    simp only [vc_L_traceStep_0, qi_push, qi_pushl, qi_iload, qi_lload, qi_aload, qi_istore, qi_astore, qi_lstore, qi_iinc, qi_iadd, qi_isub, qi_imul, qi_iand, qi_ior, qi_ixor, qi_ishl, qi_ishr, qi_iushr, qi_idiv, qi_irem, qi_lor, qi_lmul, qi_ladd, qi_lsub, qi_land, qi_lshl, qi_lshr, qi_i2l, qi_l2i, qi_i2c, qi_lcmp, qi_dup, qi_dup2, qi_pop, qi_if_eq, qi_icmp_eq, qi_if_ne, qi_icmp_ne, qi_if_lt, qi_icmp_lt, qi_if_ge, qi_icmp_ge, qi_if_gt, qi_icmp_gt, qi_if_le, qi_icmp_le, qi_sw, qi_get, qi_put, qi_iald, qi_lald, qi_aald, qi_iast, qi_zast, qi_cast, qi_last, qi_aast, qi_alen, qi_new, qi_newa, qi_newq, qi_obj, qi_invS, qi_invV, qi_invI, qi_iret, qi_zret, qi_lret, qi_vret, qi_acopy, qi_max, qi_min, at_o, at_i, at_l, at_q, at_a, lget, lset, lclr, lnon, lnth, spl, shrt, rpush, true_and, and_true, List.set, List.length, Nat.reduceAdd, Nat.reduceLT, Nat.reduceLeDiff, Nat.reduceEqDiff, Nat.reduceSub, e0, e11, e12, e9, hvd, hvs, hvt, cd, cs, ct, ni_or, kl, lN_mul, lN_or, hpc]
    rw [← nI_0, nI_eq (by omega) (by omega), nI_0, lc_ge (by omega) (by omega)]
    exact ⟨fun _ => k45 0, fun z => ⟨fun z2 => by rcases q with q | q; exact absurd q z; omega, fun _ => k45 0⟩⟩
  · rw [if_neg q]
    have l1 : isLn h a N fx wh (nI C) us F (va_up G 0 (G 0)) := by
      have : va_up G 0 (G 0) = G := funext fun j => by unfold va_up; by_cases z : j = 0 <;> simp [z]
      rw [this]; exact hp
    refine ⟨hc_set (hc_set h (a + 9) (.inl (0, N, .inl (fun j => nI (va_up (F 9) d (min 1000000 (F 9 d + F 9 (d ||| s))) j))))) (a + 1) (.inl (0, 13, .inl (fun j => nI (va_up (F 1) k (F 1 k ||| s) j)))), MX.of (lv := [some (.ref a), some (.int (nI d)), some (.int (nI s)), some (.int (nI k)), none, none, none]) 3 rfl (by decide) (Nat.le_of_ble_eq_true rfl) (sn_L_traceStep_0 _ _ _ ?_), l1.set9.set1, (frm.rfl'.set (by omega)).set (by omega)⟩
    have kk := fun hf => k53 _ _ hf l1
    simp only [vc_L_traceStep_0, qi_push, qi_pushl, qi_iload, qi_lload, qi_aload, qi_istore, qi_astore, qi_lstore, qi_iinc, qi_iadd, qi_isub, qi_imul, qi_iand, qi_ior, qi_ixor, qi_ishl, qi_ishr, qi_iushr, qi_idiv, qi_irem, qi_lor, qi_lmul, qi_ladd, qi_lsub, qi_land, qi_lshl, qi_lshr, qi_i2l, qi_l2i, qi_i2c, qi_lcmp, qi_dup, qi_dup2, qi_pop, qi_if_eq, qi_icmp_eq, qi_if_ne, qi_icmp_ne, qi_if_lt, qi_icmp_lt, qi_if_ge, qi_icmp_ge, qi_if_gt, qi_icmp_gt, qi_if_le, qi_icmp_le, qi_sw, qi_get, qi_put, qi_iald, qi_lald, qi_aald, qi_iast, qi_zast, qi_cast, qi_last, qi_aast, qi_alen, qi_new, qi_newa, qi_newq, qi_obj, qi_invS, qi_invV, qi_invI, qi_iret, qi_zret, qi_lret, qi_vret, qi_acopy, qi_max, qi_min, at_o, at_i, at_l, at_q, at_a, lget, lset, lclr, lnon, lnth, spl, shrt, rpush, true_and, and_true, List.set, List.length, Nat.reduceAdd, Nat.reduceLT, Nat.reduceLeDiff, Nat.reduceEqDiff, Nat.reduceSub, e0, e11, e12, e9, hvd, hvs, hvt, cd, cs, ct, ni_or, kl, lN_mul, lN_or, hpc]
    rw [← nI_0, nI_eq (by omega) (by omega), nI_0, lc_ge (by omega) (by omega)]
    exact ⟨fun z => absurd (Or.inl z) q, fun z => ⟨fun z2 => kk _ _ rfl, fun z2 => absurd (Or.inr (by omega)) q⟩⟩
theorem c_L_traceFrom (hp : isLn h a N fx wh (nI C) us F G) (hN : N ≤ 4096) (hW : wh < N) (hF : ∀ k s, F k s ≤ 2000000) (hG0 : ∀ s, G 0 s < 2 ^ 60) (hG1 : ∀ s, s ≤ wh → G 1 s < 2 ^ 48) (hH : ∀ s, F 1 s < 4096) (hw : ∀ s, F 9 s ≤ 1000000) (hl : ∀ s, F 8 s ≤ 1000) {th : Nat} (hth : th ≤ wh) : ∃ h', MA M_L_traceFrom [.ref a, .int (nI th)] h none h' ∧ frm h h' a 13 ∧ ((1 ≤ F 8 th ∧ F 8 th ≤ 12) → isLn h' a N fx wh (nI C) us (va_up (va_up F 9 (tW (F 8) (F 7) (F 9) th 0)) 1 (va_up (F 1) (F 8 th) (tH (F 8) (F 7) (F 1) th 0))) (va_up G 0 (tP (F 8) (F 7) (G 1) (F 9) (G 0) th 0))) ∧ (¬ (1 ≤ F 8 th ∧ F 8 th ≤ 12) → h' = h) := by
  obtain ⟨e0, e1, e2, e3, e4, e5, e6, e7, e8, e9, e10, e11, e12⟩ := id hp
  have hlt := hl th
  have hvt : vp_in (nI th) N := vp_in_nI (by omega) (by omega)
  have ct : (nI th).toNatClampNeg = th := nI_clamp (by omega)
  have hin : (nI 1 ≤ nI (F 8 th) ∧ nI (F 8 th) ≤ nI 12) ↔ (1 ≤ F 8 th ∧ F 8 th ≤ 12) := by rw [nI_leI (by omega) (by omega), nI_leI (by omega) (by omega)]
  by_cases q : 1 ≤ F 8 th ∧ F 8 th ≤ 12
  · obtain ⟨k, hk⟩ : ∃ k, F 8 th = k := ⟨_, rfl⟩
    let FS : Nat → Nat → Nat → Nat := fun s => va_up (va_up F 9 (tW (F 8) (F 7) (F 9) th s)) 1 (va_up (F 1) k (tH (F 8) (F 7) (F 1) th s))
    let GS : Nat → Nat → Nat → Nat := fun s => va_up G 0 (tP (F 8) (F 7) (G 1) (F 9) (G 0) th s)
    have loop := subm_loop (P := fun s => ∀ h1, isLn h1 a N fx wh (nI C) us (FS s) (GS s) → frm h h1 a 13 → ∃ h', isLn h' a N fx wh (nI C) us (FS 0) (GS 0) ∧ frm h h' a 13 ∧ ∀ o4, cx hc_tt M_L_traceFrom h h' none 17 [some (.ref a), some (.int (nI th)), some (.int (nI k)), some (.int (nI s)), o4] [] h1) (o := th)
      (by intro h1 i1 i2
          refine ⟨h1, i1, i2, fun o4 => sn_L_traceFrom_17 _ _ _ ?_⟩
          simp only [vc_L_traceFrom_17, vc_L_traceFrom_72, qi_push, qi_pushl, qi_iload, qi_lload, qi_aload, qi_istore, qi_astore, qi_lstore, qi_iinc, qi_iadd, qi_isub, qi_imul, qi_iand, qi_ior, qi_ixor, qi_ishl, qi_ishr, qi_iushr, qi_idiv, qi_irem, qi_lor, qi_lmul, qi_ladd, qi_lsub, qi_land, qi_lshl, qi_lshr, qi_i2l, qi_l2i, qi_i2c, qi_lcmp, qi_dup, qi_dup2, qi_pop, qi_if_eq, qi_icmp_eq, qi_if_ne, qi_icmp_ne, qi_if_lt, qi_icmp_lt, qi_if_ge, qi_icmp_ge, qi_if_gt, qi_icmp_gt, qi_if_le, qi_icmp_le, qi_sw, qi_get, qi_put, qi_iald, qi_lald, qi_aald, qi_iast, qi_zast, qi_cast, qi_last, qi_aast, qi_alen, qi_new, qi_newa, qi_newq, qi_obj, qi_invS, qi_invV, qi_invI, qi_iret, qi_zret, qi_lret, qi_vret, qi_acopy, qi_max, qi_min, at_o, at_i, at_l, at_q, at_a, lget, lset, lclr, lnon, lnth, spl, shrt, rpush, true_and, and_true, List.set, List.length, Nat.reduceAdd, Nat.reduceLT, Nat.reduceLeDiff, Nat.reduceEqDiff, Nat.reduceSub]
          exact ⟨fun _ => trivial, fun z => absurd (by decide) z⟩)
      (fun s hs h0 ih h1 i1 i2 => by
          have hsth := sub_le hs
          have hsN : s < N := by omega
          obtain ⟨d, hd⟩ : ∃ d, sdf th s = d := ⟨_, rfl⟩
          have dle : d ≤ th := by rw [← hd]; exact sub_le (sdf_sub _ _)
          have dN : d < N := by omega
          have dsub : sub d th := by rw [← hd]; exact sdf_sub _ _
          have sd : sdf th d = s := by rw [← hd]; exact sdf_sdf hs
          have ds : d ||| s = th := by rw [← sd]; exact or_sdf dsub
          have o0 := i1.1
          have o7 : h1.1 (a + 7) = ii N (F 7) := i1.2.2.2.2.2.2.2.1
          have o8 : h1.1 (a + 8) = ii N (F 8) := i1.2.2.2.2.2.2.2.2.1
          have hvs : vp_in (nI s) N := vp_in_nI hsN (by omega)
          have hvd : vp_in (nI d) N := vp_in_nI dN (by omega)
          have cs : (nI s).toNatClampNeg = s := nI_clamp (by omega)
          have cd : (nI d).toNatClampNeg = d := nI_clamp (by omega)
          have hld := hl d
          have b7 := hF 7 s
          have s7 : sdf (F 7 s) d ≤ F 7 s := sub_le (sdf_sub _ _)
          have hok : okT (F 8) (F 7) th s = true ↔ (F 8 d + 1 = k ∧ sdf (F 7 s) d = 0) := by
            unfold okT
            rw [decide_eq_true_eq, hd, hk]
            exact ⟨fun w => w.2.2, fun w => ⟨hs, h0, w⟩⟩
          have s1 : sub ((s - 1) &&& th) th := sub_and _ _
          -- the state behind this part
          have eW : ∀ e, tW (F 8) (F 7) (F 9) th ((s - 1) &&& th) e = if e = d ∧ okT (F 8) (F 7) th s = true then min 1000000 (F 9 d + F 9 th) else tW (F 8) (F 7) (F 9) th s e := by
            intro e
            unfold tW
            by_cases w : e = d
            · subst w
              rw [sd]
              by_cases w2 : okT (F 8) (F 7) th s = true
              · rw [if_pos ⟨dsub, subm_lt h0, w2⟩, if_pos ⟨rfl, w2⟩]
              · rw [if_neg (fun z => w2 z.2.2), if_neg (fun z => w2 z.2), if_neg (fun z => w2 z.2.2)]
            · refine Eq.trans ?_ (if_neg (fun z => w z.1)).symm
              by_cases w3 : sub e th
              · have w4 : (s - 1) &&& th < sdf th e ↔ s < sdf th e := by
                  rw [subm_seen hs h0 (sdf_sub th e)]
                  constructor
                  · intro z
                    refine Nat.lt_of_le_of_ne z (fun z2 => w ?_)
                    rw [← hd, z2, sdf_sdf w3]
                  · intro z; omega
                simp only [w4]
              · rw [if_neg (fun z => w3 z.1), if_neg (fun z => w3 z.1)]
          have eP : ∀ e, tP (F 8) (F 7) (G 1) (F 9) (G 0) th ((s - 1) &&& th) e = if e = d ∧ okT (F 8) (F 7) th s = true ∧ (F 9 d = 0 ∨ G 0 th ||| G 1 s * k < G 0 d) then G 0 th ||| G 1 s * k else tP (F 8) (F 7) (G 1) (F 9) (G 0) th s e := by
            intro e
            unfold tP
            rw [hk]
            by_cases w : e = d
            · subst w
              rw [sd]
              by_cases w2 : okT (F 8) (F 7) th s = true ∧ (F 9 e = 0 ∨ G 0 th ||| G 1 s * k < G 0 e)
              · rw [if_pos ⟨⟨dsub, subm_lt h0, w2.1⟩, w2.2⟩, if_pos ⟨rfl, w2⟩]
              · rw [if_neg (fun z => w2 ⟨z.1.2.2, z.2⟩), if_neg (fun z => w2 z.2), if_neg (fun z => w2 ⟨z.1.2.2, z.2⟩)]
            · refine Eq.trans ?_ (if_neg (fun z => w z.1)).symm
              by_cases w3 : sub e th
              · have w4 : (s - 1) &&& th < sdf th e ↔ s < sdf th e := by
                  rw [subm_seen hs h0 (sdf_sub th e)]
                  constructor
                  · intro z
                    refine Nat.lt_of_le_of_ne z (fun z2 => w ?_)
                    rw [← hd, z2, sdf_sdf w3]
                  · intro z; omega
                simp only [w4]
              · rw [if_neg (fun z => w3 z.1.1), if_neg (fun z => w3 z.1.1)]
          have eH : tH (F 8) (F 7) (F 1) th ((s - 1) &&& th) = if okT (F 8) (F 7) th s = true then tH (F 8) (F 7) (F 1) th s ||| s else tH (F 8) (F 7) (F 1) th s := by
            have hseen : ∀ t, okT (F 8) (F 7) th t = true → ((s - 1) &&& th < t ↔ s ≤ t) := fun t ht => by
              unfold okT at ht
              rw [decide_eq_true_eq] at ht
              exact subm_seen hs h0 ht.1
            have base : (orS (fun t => decide ((s - 1) &&& th < t) && okT (F 8) (F 7) th t) (th + 1)) = if okT (F 8) (F 7) th s = true then orS (fun t => decide (s < t) && okT (F 8) (F 7) th t) (th + 1) ||| s else orS (fun t => decide (s < t) && okT (F 8) (F 7) th t) (th + 1) := by
              apply tb_ext
              intro i
              rw [orS_bit]
              by_cases w : okT (F 8) (F 7) th s = true
              · rw [if_pos w, Nat.testBit_or, Bool.or_eq_true, orS_bit]
                constructor
                · rintro ⟨t, t1, t2, t3⟩
                  rw [Bool.and_eq_true, decide_eq_true_eq] at t2
                  have := (hseen t t2.2).mp t2.1
                  by_cases w2 : t = s
                  · exact Or.inr (w2 ▸ t3)
                  · exact Or.inl ⟨t, t1, by rw [Bool.and_eq_true, decide_eq_true_eq]; exact ⟨by omega, t2.2⟩, t3⟩
                · rintro (⟨t, t1, t2, t3⟩ | t3)
                  · rw [Bool.and_eq_true, decide_eq_true_eq] at t2
                    exact ⟨t, t1, by rw [Bool.and_eq_true, decide_eq_true_eq]; exact ⟨(hseen t t2.2).mpr (by omega), t2.2⟩, t3⟩
                  · exact ⟨s, by omega, by rw [Bool.and_eq_true, decide_eq_true_eq]; exact ⟨subm_lt h0, w⟩, t3⟩
              · rw [if_neg w, orS_bit]
                constructor
                · rintro ⟨t, t1, t2, t3⟩
                  rw [Bool.and_eq_true, decide_eq_true_eq] at t2
                  have := (hseen t t2.2).mp t2.1
                  have w2 : t ≠ s := fun z => w (z ▸ t2.2)
                  exact ⟨t, t1, by rw [Bool.and_eq_true, decide_eq_true_eq]; exact ⟨by omega, t2.2⟩, t3⟩
                · rintro ⟨t, t1, t2, t3⟩
                  rw [Bool.and_eq_true, decide_eq_true_eq] at t2
                  exact ⟨t, t1, by rw [Bool.and_eq_true, decide_eq_true_eq]; exact ⟨(hseen t t2.2).mpr (by omega), t2.2⟩, t3⟩
            unfold tH
            rw [base]
            split
            · rw [Nat.or_assoc]
            · rfl
          have next : ∀ h9 o4, isLn h9 a N fx wh (nI C) us (FS ((s - 1) &&& th)) (GS ((s - 1) &&& th)) → frm h h9 a 13 → ∃ h', isLn h' a N fx wh (nI C) us (FS 0) (GS 0) ∧ frm h h' a 13 ∧ vc_L_traceFrom_63 none h' (cx hc_tt M_L_traceFrom h h' none) [some (.ref a), some (.int (nI th)), some (.int (nI k)), some (.int (nI s)), o4] [] h9 := by
            intro h9 o4 j1 j2
            obtain ⟨h', g1, g2, g3⟩ := ih h9 j1 j2
            refine ⟨h', g1, g2, ?_⟩
            simp only [vc_L_traceFrom_63, qi_push, qi_pushl, qi_iload, qi_lload, qi_aload, qi_istore, qi_astore, qi_lstore, qi_iinc, qi_iadd, qi_isub, qi_imul, qi_iand, qi_ior, qi_ixor, qi_ishl, qi_ishr, qi_iushr, qi_idiv, qi_irem, qi_lor, qi_lmul, qi_ladd, qi_lsub, qi_land, qi_lshl, qi_lshr, qi_i2l, qi_l2i, qi_i2c, qi_lcmp, qi_dup, qi_dup2, qi_pop, qi_if_eq, qi_icmp_eq, qi_if_ne, qi_icmp_ne, qi_if_lt, qi_icmp_lt, qi_if_ge, qi_icmp_ge, qi_if_gt, qi_icmp_gt, qi_if_le, qi_icmp_le, qi_sw, qi_get, qi_put, qi_iald, qi_lald, qi_aald, qi_iast, qi_zast, qi_cast, qi_last, qi_aast, qi_alen, qi_new, qi_newa, qi_newq, qi_obj, qi_invS, qi_invV, qi_invI, qi_iret, qi_zret, qi_lret, qi_vret, qi_acopy, qi_max, qi_min, at_o, at_i, at_l, at_q, at_a, lget, lset, lclr, lnon, lnth, spl, shrt, rpush, true_and, and_true, List.set, List.length, Nat.reduceAdd, Nat.reduceLT, Nat.reduceLeDiff, Nat.reduceEqDiff, Nat.reduceSub]
            rw [pk_sub h0, ni_and]
            exact g3 _
          by_cases w : F 8 d + 1 = k ∧ sdf (F 7 s) d = 0
          · have wt : okT (F 8) (F 7) th s = true := hok.mpr w
            have at_d : tW (F 8) (F 7) (F 9) th s d = F 9 d := by unfold tW; rw [sd, if_neg (fun z => absurd z.2.1 (Nat.lt_irrefl _))]
            have at_th : tW (F 8) (F 7) (F 9) th s th = F 9 th := by unfold tW; rw [sdf_eq0.mpr (sub_rfl th), if_neg (fun z => absurd z.2.1 (Nat.not_lt_zero _))]
            have pt_d : tP (F 8) (F 7) (G 1) (F 9) (G 0) th s d = G 0 d := by unfold tP; rw [sd, if_neg (fun z => absurd z.1.2.1 (Nat.lt_irrefl _))]
            have pt_th : tP (F 8) (F 7) (G 1) (F 9) (G 0) th s th = G 0 th := by unfold tP; rw [sdf_eq0.mpr (sub_rfl th), if_neg (fun z => absurd z.1.2.1 (Nat.not_lt_zero _))]
            have bW : ∀ e, tW (F 8) (F 7) (F 9) th s e ≤ 1000000 := fun e => by unfold tW; split; exact Nat.min_le_left _ _; exact hw e
            have bP : ∀ e, tP (F 8) (F 7) (G 1) (F 9) (G 0) th s e < 2 ^ 60 := fun e => by
              unfold tP
              split
              · refine or_lt (hG0 _) ?_
                have h1 := hG1 (sdf th e) (Nat.le_trans (sub_le (sdf_sub _ _)) hth)
                have h2 : G 1 (sdf th e) * F 8 th ≤ G 1 (sdf th e) * 12 := Nat.mul_le_mul_left _ q.2
                omega
              · exact hG0 e
            have bH : ∀ e, FS s 1 e ≤ 2000000 := fun e => by
              show va_up (F 1) k (tH (F 8) (F 7) (F 1) th s) e ≤ 2000000
              refine up1_le (hF 1) ?_ e
              unfold tH
              have h2 : orS (fun t => decide (s < t) && okT (F 8) (F 7) th t) (th + 1) < 4096 := orS_lt (by omega)
              have h3 := or_lt (k := 12) (hH (F 8 th)) h2
              omega
            have bF : ∀ x e, FS s x e ≤ 2000000 := by
              intro x e
              show va_up (va_up F 9 _) 1 _ x e ≤ _
              refine up_le (up_le hF (fun e => by have := bW e; omega)) (fun e => bH e) x e
            obtain ⟨h2, c1, c2, c3⟩ := c_L_traceStep i1 hN bF bP (d := d) (s := s) (k := k) dN hsN (by rw [ds]; omega) (by omega) (by omega) (hG1 s (by omega)) ⟨bW d, bW _⟩
            have c2' : isLn h2 a N fx wh (nI C) us (FS ((s - 1) &&& th)) (GS ((s - 1) &&& th)) := by
              rw [ds] at c2
              have eF : va_up (va_up (FS s) 9 (va_up (FS s 9) d (min 1000000 (FS s 9 d + FS s 9 th)))) 1 (va_up (FS s 1) k (FS s 1 k ||| s)) = FS ((s - 1) &&& th) := by
                funext x
                by_cases x1 : x = 1
                · subst x1
                  funext e
                  show va_up (va_up (F 1) k (tH (F 8) (F 7) (F 1) th s)) k (va_up (F 1) k (tH (F 8) (F 7) (F 1) th s) k ||| s) e = va_up (F 1) k (tH (F 8) (F 7) (F 1) th ((s - 1) &&& th)) e
                  rw [eH, if_pos wt, bx_uu, show va_up (F 1) k (tH (F 8) (F 7) (F 1) th s) k = tH (F 8) (F 7) (F 1) th s from if_pos rfl]
                · by_cases x9 : x = 9
                  · subst x9
                    funext e
                    show va_up (tW (F 8) (F 7) (F 9) th s) d (min 1000000 (tW (F 8) (F 7) (F 9) th s d + tW (F 8) (F 7) (F 9) th s th)) e = tW (F 8) (F 7) (F 9) th ((s - 1) &&& th) e
                    rw [eW, at_d, at_th]
                    unfold va_up
                    by_cases w5 : e = d
                    · rw [if_pos w5, if_pos ⟨w5, wt⟩]
                    · rw [if_neg w5]; exact (if_neg (fun z => w5 z.1)).symm
                  · show va_up (va_up (va_up (va_up F 9 _) 1 _) 9 _) 1 _ x = va_up (va_up F 9 _) 1 _ x
                    unfold va_up
                    simp only [x1, x9, if_false]
              have eG : va_up (GS s) 0 (if FS s 9 d = 0 ∨ GS s 0 th ||| GS s 1 s * k < GS s 0 d then va_up (GS s 0) d (GS s 0 th ||| GS s 1 s * k) else GS s 0) = GS ((s - 1) &&& th) := by
                have g1 : GS s 1 = G 1 := rfl
                have g0 : GS s 0 = tP (F 8) (F 7) (G 1) (F 9) (G 0) th s := rfl
                have f9 : FS s 9 = tW (F 8) (F 7) (F 9) th s := rfl
                rw [g1, g0, f9, at_d, pt_d, pt_th]
                show va_up (va_up G 0 _) 0 _ = va_up G 0 _
                rw [bx_uu]
                congr 1
                funext e
                rw [eP e]
                by_cases w6 : F 9 d = 0 ∨ G 0 th ||| G 1 s * k < G 0 d
                · rw [if_pos w6]
                  unfold va_up
                  by_cases w5 : e = d
                  · rw [if_pos w5, if_pos ⟨w5, wt, w6⟩]
                  · rw [if_neg w5]; exact (if_neg (fun z => w5 z.1)).symm
                · rw [if_neg w6]; exact (if_neg (fun z => w6 z.2.2)).symm
              rw [eF, eG] at c2
              exact c2
            obtain ⟨h', g1, g2, g3⟩ := next h2 (some (.int (nI d))) c2' (i2.trans c3)
            refine ⟨h', g1, g2, fun o4 => sn_L_traceFrom_17 _ _ _ ?_⟩
            simp only [vc_L_traceFrom_17, qi_push, qi_pushl, qi_iload, qi_lload, qi_aload, qi_istore, qi_astore, qi_lstore, qi_iinc, qi_iadd, qi_isub, qi_imul, qi_iand, qi_ior, qi_ixor, qi_ishl, qi_ishr, qi_iushr, qi_idiv, qi_irem, qi_lor, qi_lmul, qi_ladd, qi_lsub, qi_land, qi_lshl, qi_lshr, qi_i2l, qi_l2i, qi_i2c, qi_lcmp, qi_dup, qi_dup2, qi_pop, qi_if_eq, qi_icmp_eq, qi_if_ne, qi_icmp_ne, qi_if_lt, qi_icmp_lt, qi_if_ge, qi_icmp_ge, qi_if_gt, qi_icmp_gt, qi_if_le, qi_icmp_le, qi_sw, qi_get, qi_put, qi_iald, qi_lald, qi_aald, qi_iast, qi_zast, qi_cast, qi_last, qi_aast, qi_alen, qi_new, qi_newa, qi_newq, qi_obj, qi_invS, qi_invV, qi_invI, qi_iret, qi_zret, qi_lret, qi_vret, qi_acopy, qi_max, qi_min, at_o, at_i, at_l, at_q, at_a, lget, lset, lclr, lnon, lnth, spl, shrt, rpush, true_and, and_true, List.set, List.length, Nat.reduceAdd, Nat.reduceLT, Nat.reduceLeDiff, Nat.reduceEqDiff, Nat.reduceSub, o0, o7, o8]
            rw [ni_not, hd, cd, cs, ni_not, pk_sub (by omega), ← nI_0, nI_eq (by omega) (by omega), nI_eq (by omega) (by omega)]
            refine ⟨fun z => absurd z (by rw [nI_0]; exact nI_nle h0 (by omega)), fun _ => ⟨hvd, fun z => absurd (by omega) z, fun _ => ⟨hvs, fun z => absurd w.2 z, fun _ => ⟨_, _, c1, ?_⟩⟩⟩⟩
            simp only [qi_push, qi_pushl, qi_iload, qi_lload, qi_aload, qi_istore, qi_astore, qi_lstore, qi_iinc, qi_iadd, qi_isub, qi_imul, qi_iand, qi_ior, qi_ixor, qi_ishl, qi_ishr, qi_iushr, qi_idiv, qi_irem, qi_lor, qi_lmul, qi_ladd, qi_lsub, qi_land, qi_lshl, qi_lshr, qi_i2l, qi_l2i, qi_i2c, qi_lcmp, qi_dup, qi_dup2, qi_pop, qi_if_eq, qi_icmp_eq, qi_if_ne, qi_icmp_ne, qi_if_lt, qi_icmp_lt, qi_if_ge, qi_icmp_ge, qi_if_gt, qi_icmp_gt, qi_if_le, qi_icmp_le, qi_sw, qi_get, qi_put, qi_iald, qi_lald, qi_aald, qi_iast, qi_zast, qi_cast, qi_last, qi_aast, qi_alen, qi_new, qi_newa, qi_newq, qi_obj, qi_invS, qi_invV, qi_invI, qi_iret, qi_zret, qi_lret, qi_vret, qi_acopy, qi_max, qi_min, at_o, at_i, at_l, at_q, at_a, lget, lset, lclr, lnon, lnth, spl, shrt, rpush, true_and, and_true, List.set, List.length, Nat.reduceAdd, Nat.reduceLT, Nat.reduceLeDiff, Nat.reduceEqDiff, Nat.reduceSub]
            exact g3
          · have wf : ¬ okT (F 8) (F 7) th s = true := fun z => w (hok.mp z)
            have eF : FS ((s - 1) &&& th) = FS s := by
              show va_up (va_up F 9 _) 1 _ = va_up (va_up F 9 _) 1 _
              rw [eH, if_neg wf, funext (fun e => (eW e).trans (if_neg (fun z => wf z.2)))]
            have eG : GS ((s - 1) &&& th) = GS s := by
              show va_up G 0 _ = va_up G 0 _
              rw [funext (fun e => (eP e).trans (if_neg (fun z => wf z.2.1)))]
            obtain ⟨h', g1, g2, g3⟩ := next h1 (some (.int (nI d))) (by rw [eF, eG]; exact i1) i2
            refine ⟨h', g1, g2, fun o4 => sn_L_traceFrom_17 _ _ _ ?_⟩
            simp only [vc_L_traceFrom_17, qi_push, qi_pushl, qi_iload, qi_lload, qi_aload, qi_istore, qi_astore, qi_lstore, qi_iinc, qi_iadd, qi_isub, qi_imul, qi_iand, qi_ior, qi_ixor, qi_ishl, qi_ishr, qi_iushr, qi_idiv, qi_irem, qi_lor, qi_lmul, qi_ladd, qi_lsub, qi_land, qi_lshl, qi_lshr, qi_i2l, qi_l2i, qi_i2c, qi_lcmp, qi_dup, qi_dup2, qi_pop, qi_if_eq, qi_icmp_eq, qi_if_ne, qi_icmp_ne, qi_if_lt, qi_icmp_lt, qi_if_ge, qi_icmp_ge, qi_if_gt, qi_icmp_gt, qi_if_le, qi_icmp_le, qi_sw, qi_get, qi_put, qi_iald, qi_lald, qi_aald, qi_iast, qi_zast, qi_cast, qi_last, qi_aast, qi_alen, qi_new, qi_newa, qi_newq, qi_obj, qi_invS, qi_invV, qi_invI, qi_iret, qi_zret, qi_lret, qi_vret, qi_acopy, qi_max, qi_min, at_o, at_i, at_l, at_q, at_a, lget, lset, lclr, lnon, lnth, spl, shrt, rpush, true_and, and_true, List.set, List.length, Nat.reduceAdd, Nat.reduceLT, Nat.reduceLeDiff, Nat.reduceEqDiff, Nat.reduceSub, o0, o7, o8]
            rw [ni_not, hd, cd, cs, ni_not, pk_sub (by omega), ← nI_0, nI_eq (by omega) (by omega), nI_eq (by omega) (by omega)]
            refine ⟨fun z => absurd z (by rw [nI_0]; exact nI_nle h0 (by omega)), fun _ => ⟨hvd, fun z => g3, fun z => ⟨hvs, fun _ => g3, fun z2 => absurd ⟨by omega, z2⟩ w⟩⟩⟩)
    have F0 : FS th = F := by
      funext x
      show va_up (va_up F 9 _) 1 _ x = F x
      have o1 : orS (fun t => decide (th < t) && okT (F 8) (F 7) th t) (th + 1) = 0 := by
        apply tb_ext
        intro i
        rw [orS_bit]
        constructor
        · rintro ⟨t, t1, t2, t3⟩
          rw [Bool.and_eq_true, decide_eq_true_eq] at t2
          omega
        · intro z; rw [Nat.zero_testBit] at z; cases z
      unfold va_up
      by_cases x1 : x = 1
      · rw [if_pos x1, x1]
        funext e
        unfold tH
        rw [o1, hk, Nat.or_zero]
        by_cases w : e = k
        · rw [if_pos w, w]
        · rw [if_neg w]
      · rw [if_neg x1]
        by_cases x9 : x = 9
        · rw [if_pos x9, x9]
          funext e
          unfold tW
          rw [if_neg (fun z => by have := sub_le (sdf_sub th e); omega)]
        · rw [if_neg x9]
    have G0 : GS th = G := by
      funext x
      show va_up G 0 _ x = G x
      unfold va_up
      by_cases x0 : x = 0
      · rw [if_pos x0, x0]
        funext e
        unfold tP
        rw [if_neg (fun z => by have := sub_le (sdf_sub th e); have := z.1.2.1; omega)]
      · rw [if_neg x0]
    obtain ⟨h', g1, g2, g3⟩ := loop th (sub_rfl th) h (by rw [F0, G0]; exact hp) frm.rfl'
    refine ⟨h', MX.of (lv := [some (.ref a), some (.int (nI th)), none, none, none]) 3 rfl (by decide) (Nat.le_of_ble_eq_true rfl) (sn_L_traceFrom_0 _ _ _ ?_), g2, fun _ => by rw [hk]; exact g1, fun z => absurd q z⟩
    simp only [vc_L_traceFrom_0, qi_push, qi_pushl, qi_iload, qi_lload, qi_aload, qi_istore, qi_astore, qi_lstore, qi_iinc, qi_iadd, qi_isub, qi_imul, qi_iand, qi_ior, qi_ixor, qi_ishl, qi_ishr, qi_iushr, qi_idiv, qi_irem, qi_lor, qi_lmul, qi_ladd, qi_lsub, qi_land, qi_lshl, qi_lshr, qi_i2l, qi_l2i, qi_i2c, qi_lcmp, qi_dup, qi_dup2, qi_pop, qi_if_eq, qi_icmp_eq, qi_if_ne, qi_icmp_ne, qi_if_lt, qi_icmp_lt, qi_if_ge, qi_icmp_ge, qi_if_gt, qi_icmp_gt, qi_if_le, qi_icmp_le, qi_sw, qi_get, qi_put, qi_iald, qi_lald, qi_aald, qi_iast, qi_zast, qi_cast, qi_last, qi_aast, qi_alen, qi_new, qi_newa, qi_newq, qi_obj, qi_invS, qi_invV, qi_invI, qi_iret, qi_zret, qi_lret, qi_vret, qi_acopy, qi_max, qi_min, at_o, at_i, at_l, at_q, at_a, lget, lset, lclr, lnon, lnth, spl, shrt, rpush, true_and, and_true, List.set, List.length, Nat.reduceAdd, Nat.reduceLT, Nat.reduceLeDiff, Nat.reduceEqDiff, Nat.reduceSub, e0, e8, hvt, ct]
    refine ⟨_, _, c_B_isStation h _, ?_⟩
    simp only [vc_L_traceFrom_15, qi_push, qi_pushl, qi_iload, qi_lload, qi_aload, qi_istore, qi_astore, qi_lstore, qi_iinc, qi_iadd, qi_isub, qi_imul, qi_iand, qi_ior, qi_ixor, qi_ishl, qi_ishr, qi_iushr, qi_idiv, qi_irem, qi_lor, qi_lmul, qi_ladd, qi_lsub, qi_land, qi_lshl, qi_lshr, qi_i2l, qi_l2i, qi_i2c, qi_lcmp, qi_dup, qi_dup2, qi_pop, qi_if_eq, qi_icmp_eq, qi_if_ne, qi_icmp_ne, qi_if_lt, qi_icmp_lt, qi_if_ge, qi_icmp_ge, qi_if_gt, qi_icmp_gt, qi_if_le, qi_icmp_le, qi_sw, qi_get, qi_put, qi_iald, qi_lald, qi_aald, qi_iast, qi_zast, qi_cast, qi_last, qi_aast, qi_alen, qi_new, qi_newa, qi_newq, qi_obj, qi_invS, qi_invV, qi_invI, qi_iret, qi_zret, qi_lret, qi_vret, qi_acopy, qi_max, qi_min, at_o, at_i, at_l, at_q, at_a, lget, lset, lclr, lnon, lnth, spl, shrt, rpush, true_and, and_true, List.set, List.length, Nat.reduceAdd, Nat.reduceLT, Nat.reduceLeDiff, Nat.reduceEqDiff, Nat.reduceSub, nb_eq0, nb_ne0, decide_eq_true_eq, decide_eq_false_iff_not, Classical.not_not, hin]
    refine ⟨fun _ => ?_, fun z => absurd q z⟩
    rw [hk]
    exact g3 _
  · refine ⟨h, MX.of (lv := [some (.ref a), some (.int (nI th)), none, none, none]) 3 rfl (by decide) (Nat.le_of_ble_eq_true rfl) (sn_L_traceFrom_0 _ _ _ ?_), frm.rfl', fun z => absurd z q, fun _ => rfl⟩
    simp only [vc_L_traceFrom_0, qi_push, qi_pushl, qi_iload, qi_lload, qi_aload, qi_istore, qi_astore, qi_lstore, qi_iinc, qi_iadd, qi_isub, qi_imul, qi_iand, qi_ior, qi_ixor, qi_ishl, qi_ishr, qi_iushr, qi_idiv, qi_irem, qi_lor, qi_lmul, qi_ladd, qi_lsub, qi_land, qi_lshl, qi_lshr, qi_i2l, qi_l2i, qi_i2c, qi_lcmp, qi_dup, qi_dup2, qi_pop, qi_if_eq, qi_icmp_eq, qi_if_ne, qi_icmp_ne, qi_if_lt, qi_icmp_lt, qi_if_ge, qi_icmp_ge, qi_if_gt, qi_icmp_gt, qi_if_le, qi_icmp_le, qi_sw, qi_get, qi_put, qi_iald, qi_lald, qi_aald, qi_iast, qi_zast, qi_cast, qi_last, qi_aast, qi_alen, qi_new, qi_newa, qi_newq, qi_obj, qi_invS, qi_invV, qi_invI, qi_iret, qi_zret, qi_lret, qi_vret, qi_acopy, qi_max, qi_min, at_o, at_i, at_l, at_q, at_a, lget, lset, lclr, lnon, lnth, spl, shrt, rpush, true_and, and_true, List.set, List.length, Nat.reduceAdd, Nat.reduceLT, Nat.reduceLeDiff, Nat.reduceEqDiff, Nat.reduceSub, e0, e8, hvt, ct]
    refine ⟨_, _, c_B_isStation h _, ?_⟩
    simp only [qi_push, qi_pushl, qi_iload, qi_lload, qi_aload, qi_istore, qi_astore, qi_lstore, qi_iinc, qi_iadd, qi_isub, qi_imul, qi_iand, qi_ior, qi_ixor, qi_ishl, qi_ishr, qi_iushr, qi_idiv, qi_irem, qi_lor, qi_lmul, qi_ladd, qi_lsub, qi_land, qi_lshl, qi_lshr, qi_i2l, qi_l2i, qi_i2c, qi_lcmp, qi_dup, qi_dup2, qi_pop, qi_if_eq, qi_icmp_eq, qi_if_ne, qi_icmp_ne, qi_if_lt, qi_icmp_lt, qi_if_ge, qi_icmp_ge, qi_if_gt, qi_icmp_gt, qi_if_le, qi_icmp_le, qi_sw, qi_get, qi_put, qi_iald, qi_lald, qi_aald, qi_iast, qi_zast, qi_cast, qi_last, qi_aast, qi_alen, qi_new, qi_newa, qi_newq, qi_obj, qi_invS, qi_invV, qi_invI, qi_iret, qi_zret, qi_lret, qi_vret, qi_acopy, qi_max, qi_min, at_o, at_i, at_l, at_q, at_a, lget, lset, lclr, lnon, lnth, spl, shrt, rpush, true_and, and_true, List.set, List.length, Nat.reduceAdd, Nat.reduceLT, Nat.reduceLeDiff, Nat.reduceEqDiff, Nat.reduceSub, nb_eq0, nb_ne0, decide_eq_true_eq, decide_eq_false_iff_not, Classical.not_not, hin]
    exact ⟨fun z => absurd z q, fun _ => trivial⟩
end LN
