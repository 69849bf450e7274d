/-! LINES: the search over sets. -/
/-- the first station from 13 - j on whose fixed ones aren't all done; 13: none -/
def sduL (fi : Nat → Nat) (un : Nat) : Nat → Nat
  | 0 => 13
  | j + 1 => if fi (12 - j) &&& un = 0 then sduL fi un j else 12 - j
theorem sduL_le (fi : Nat → Nat) (un : Nat) : ∀ j, j ≤ 12 → 1 ≤ sduL fi un j ∧ sduL fi un j ≤ 13 := by
  intro j
  induction j with
  | zero => intro _; exact ⟨by show 1 ≤ 13; omega, by show 13 ≤ 13; omega⟩
  | succ j ih =>
    intro hj
    simp only [sduL]
    split
    · exact ih (by omega)
    · omega
abbrev due (fx : Nat) (fi : Nat → Nat) (d : Nat) : Nat := sduL fi (sdf fx d) 12
/-- station of a step by t, and whether it goes -/
def stn (ds nx du t : Nat) : Nat := if t &&& ds = 0 then nx else du
def gos (ds nx du t : Nat) : Bool := if t &&& ds = 0 then decide (nx < du) else decide (t &&& ds = ds)
/-- what may be stepped by: not done, not fixed elsewhere -/
abbrev opn (W fx ds d : Nat) : Nat := sdf (sdf W d) (sdf fx ds)
/-- levels, when all parts of op above s have been tried from d -/
def stL (ne l : Nat → Nat) (d op ds nx du s : Nat) : Nat → Nat := fun e => if d &&& e = d ∧ sdf e d &&& op = sdf e d ∧ s < sdf e d ∧ sdf (ne (sdf e d)) d = 0 ∧ gos ds nx du (sdf e d) = true ∧ stn ds nx du (sdf e d) < l e then stn ds nx du (sdf e d) else l e
def stp (W fx : Nat) (fi ne l : Nat → Nat) (d : Nat) : Nat → Nat := stL ne l d (opn W fx (fi (due fx fi d)) d) (fi (due fx fi d)) (l d + 1) (due fx fi d) 0
def cew (W C m : Nat) (su l : Nat → Nat) (d : Nat) : Bool := decide (l d < m ∧ su W ≤ su d + (m - l d) * C)
/-- levels, when all below D have been stepped from -/
def rL (W fx C m : Nat) (su fi ne : Nat → Nat) : Nat → Nat → Nat
  | 0 => fun e => if e = 0 then 0 else 1000
  | D + 1 => if cew W C m su (rL W fx C m su fi ne D) D then stp W fx fi ne (rL W fx C m su fi ne D) D else rL W fx C m su fi ne D
theorem stn_le {ds nx du t : Nat} (h1 : nx ≤ 1000) (h2 : du ≤ 13) : stn ds nx du t ≤ 1000 := by unfold stn; split <;> omega
theorem stL_le {ne l : Nat → Nat} {d op ds nx du s : Nat} (hl : ∀ e, l e ≤ 1000) : ∀ e, stL ne l d op ds nx du s e ≤ 1000 := by
  intro e
  unfold stL
  split
  · rename_i q
    have := hl e
    omega
  · exact hl e
theorem rL_le {W fx C m : Nat} {su fi ne : Nat → Nat} : ∀ D e, rL W fx C m su fi ne D e ≤ 1000 := by
  intro D
  induction D with
  | zero => intro e; simp only [rL]; split <;> omega
  | succ D ih =>
    intro e
    simp only [rL]
    split
    · exact stL_le ih e
    · exact ih e
section LN
variable {h : hc_H} {a N fx wh us C : Nat} {F G : Nat → Nat → Nat}
theorem c_L_canEndWithin (hp : isLn h a N fx wh (nI C) us F G) (hN : N ≤ 4096) (hW : wh < N) (hF : ∀ k s, F k s ≤ 2000000) (hC : C < 2000) {d m : Nat} (hd : d < N) (hm : m ≤ 1000) (hl : F 8 d ≤ 1000) : MA M_L_canEndWithin [.ref a, .int (nI d), .int (nI m)] h (some (.int (nI (cew wh C m (F 3) (F 8) d).toNat))) h := by
  obtain ⟨e0, e1, e2, e3, e4, e5, e6, e7, e8, -⟩ := id hp
  refine MX.of (lv := [some (.ref a), some (.int (nI d)), some (.int (nI m)), none]) 1 rfl (by decide) (Nat.le_of_ble_eq_true rfl) (sn_L_canEndWithin_0 _ _ _ ?_)
  simp only [vc_L_canEndWithin_0, vc_L_canEndWithin_42, vc_L_canEndWithin_43, qi_push, qi_pushl, qi_iload, qi_lload, qi_aload, qi_istore, qi_astore, qi_lstore, qi_iinc, qi_iadd, qi_isub, qi_imul, qi_iand, qi_ior, qi_ixor, qi_ishl, qi_ishr, qi_iushr, qi_idiv, qi_irem, qi_lor, qi_lmul, qi_ladd, qi_lsub, qi_land, qi_lshl, qi_lshr, qi_i2l, qi_l2i, qi_i2c, qi_lcmp, qi_dup, qi_dup2, qi_pop, qi_if_eq, qi_icmp_eq, qi_if_ne, qi_icmp_ne, qi_if_lt, qi_icmp_lt, qi_if_ge, qi_icmp_ge, qi_if_gt, qi_icmp_gt, qi_if_le, qi_icmp_le, qi_sw, qi_get, qi_put, qi_iald, qi_lald, qi_aald, qi_iast, qi_zast, qi_cast, qi_last, qi_aast, qi_alen, qi_new, qi_newa, qi_newq, qi_obj, qi_invS, qi_invV, qi_invI, qi_iret, qi_zret, qi_lret, qi_vret, qi_acopy, qi_max, qi_min, at_o, at_i, at_l, at_q, at_a, lget, lset, lclr, lnon, lnth, spl, shrt, rpush, true_and, and_true, List.set, List.length, Nat.reduceAdd, Nat.reduceLT, Nat.reduceLeDiff, Nat.reduceEqDiff, Nat.reduceSub, e0, e3, e8]
  have b1 := hF 3 wh
  have b2 := hF 3 d
  refine ⟨vp_in_nI hd (by omega), ?_⟩
  rw [nI_clamp (by omega), nI_clamp (by omega)]
  by_cases q : F 8 d < m
  · rw [pk_sub (by omega), pk_mul]
    have hmul : (m - F 8 d) * C ≤ 1000 * 2000 := Nat.mul_le_mul (by omega) (by omega)
    refine ⟨fun z => absurd z (nI_nle (by omega) (by omega)), fun _ => ⟨vp_in_nI hW (by omega), vp_in_nI hd (by omega), ?_⟩⟩
    rw [Int32.lt_iff_toInt_lt, pk_sub_toInt (by omega) (by omega), nI_toInt (by omega)]
    refine ⟨fun z => ⟨Or.inl rfl, ?_⟩, fun z => ⟨Or.inr rfl, ?_⟩⟩
    · unfold cew; rw [decide_eq_false (fun w => by omega)]; rfl
    · unfold cew; rw [decide_eq_true ⟨q, by omega⟩]; rfl
  · have hle : nI m - nI (F 8 d) ≤ 0 := by
      rw [Int32.le_iff_toInt_le, pk_sub_toInt (by omega) (by omega)]
      show _ ≤ (0 : Int)
      omega
    refine ⟨fun _ => ⟨Or.inl rfl, ?_⟩, fun z => absurd hle z⟩
    unfold cew; rw [decide_eq_false (fun w => q w.1)]; rfl
theorem c_L_stationDue (hp : isLn h a N fx wh (nI C) us F G) (hF : ∀ k s, F k s ≤ 2000000) {d : Nat} : MA M_L_stationDue [.ref a, .int (nI d)] h (some (.int (nI (due fx (F 2) d)))) h := by
  obtain ⟨e0, e1, e2, -⟩ := id hp
  generalize hdu : due fx (F 2) d = du
  have loop : ∀ j, j ≤ 12 → sduL (F 2) (sdf fx d) j = du → cx hc_tt M_L_stationDue h h (some (.int (nI du))) 11 [some (.ref a), some (.int (nI d)), some (.int (nI (sdf fx d))), some (.int (nI (13 - j)))] [] h := by
    intro j
    induction j with
    | zero =>
      intro _ hq
      refine sn_L_stationDue_11 _ _ _ ?_
      simp only [vc_L_stationDue_11, vc_L_stationDue_36, qi_push, qi_pushl, qi_iload, qi_lload, qi_aload, qi_istore, qi_astore, qi_lstore, qi_iinc, qi_iadd, qi_isub, qi_imul, qi_iand, qi_ior, qi_ixor, qi_ishl, qi_ishr, qi_iushr, qi_idiv, qi_irem, qi_lor, qi_lmul, qi_ladd, qi_lsub, qi_land, qi_lshl, qi_lshr, qi_i2l, qi_l2i, qi_i2c, qi_lcmp, qi_dup, qi_dup2, qi_pop, qi_if_eq, qi_icmp_eq, qi_if_ne, qi_icmp_ne, qi_if_lt, qi_icmp_lt, qi_if_ge, qi_icmp_ge, qi_if_gt, qi_icmp_gt, qi_if_le, qi_icmp_le, qi_sw, qi_get, qi_put, qi_iald, qi_lald, qi_aald, qi_iast, qi_zast, qi_cast, qi_last, qi_aast, qi_alen, qi_new, qi_newa, qi_newq, qi_obj, qi_invS, qi_invV, qi_invI, qi_iret, qi_zret, qi_lret, qi_vret, qi_acopy, qi_max, qi_min, at_o, at_i, at_l, at_q, at_a, lget, lset, lclr, lnon, lnth, spl, shrt, rpush, true_and, and_true, List.set, List.length, Nat.reduceAdd, Nat.reduceLT, Nat.reduceLeDiff, Nat.reduceEqDiff, Nat.reduceSub]
      exact ⟨fun _ => by rw [← hq]; rfl, fun z => absurd (by decide) z⟩
    | succ j ih =>
      intro hj hq
      refine sn_L_stationDue_11 _ _ _ ?_
      have b := hF 2 (12 - j)
      have b2 : F 2 (12 - j) &&& sdf fx d ≤ F 2 (12 - j) := Nat.and_le_left
      simp only [vc_L_stationDue_11, vc_L_stationDue_30, qi_push, qi_pushl, qi_iload, qi_lload, qi_aload, qi_istore, qi_astore, qi_lstore, qi_iinc, qi_iadd, qi_isub, qi_imul, qi_iand, qi_ior, qi_ixor, qi_ishl, qi_ishr, qi_iushr, qi_idiv, qi_irem, qi_lor, qi_lmul, qi_ladd, qi_lsub, qi_land, qi_lshl, qi_lshr, qi_i2l, qi_l2i, qi_i2c, qi_lcmp, qi_dup, qi_dup2, qi_pop, qi_if_eq, qi_icmp_eq, qi_if_ne, qi_icmp_ne, qi_if_lt, qi_icmp_lt, qi_if_ge, qi_icmp_ge, qi_if_gt, qi_icmp_gt, qi_if_le, qi_icmp_le, qi_sw, qi_get, qi_put, qi_iald, qi_lald, qi_aald, qi_iast, qi_zast, qi_cast, qi_last, qi_aast, qi_alen, qi_new, qi_newa, qi_newq, qi_obj, qi_invS, qi_invV, qi_invI, qi_iret, qi_zret, qi_lret, qi_vret, qi_acopy, qi_max, qi_min, at_o, at_i, at_l, at_q, at_a, lget, lset, lclr, lnon, lnth, spl, shrt, rpush, true_and, and_true, List.set, List.length, Nat.reduceAdd, Nat.reduceLT, Nat.reduceLeDiff, Nat.reduceEqDiff, Nat.reduceSub, e0, e2]
      simp only [sduL] at hq
      rw [show 13 - (j + 1) = 12 - j by omega]
      refine ⟨fun z => absurd (nI_le (a := 12 - j) (b := 12) (by omega) (by omega)) (Int32.not_le.mpr z), fun _ => ⟨vp_in_nI (by omega) (by omega), ?_⟩⟩
      rw [nI_clamp (by omega), ni_and, ← nI_0, nI_eq (by omega) (by omega), nI_add]
      refine ⟨fun z => ?_, fun z => ?_⟩
      · rw [if_pos z] at hq
        rw [show 12 - j + 1 = 13 - j by omega]
        exact ih (by omega) hq
      · rw [if_neg z] at hq; rw [← hq]
  refine MX.of (lv := [some (.ref a), some (.int (nI d)), none, none]) 2 rfl (by decide) (Nat.le_of_ble_eq_true rfl) (sn_L_stationDue_0 _ _ _ ?_)
  simp only [vc_L_stationDue_0, qi_push, qi_pushl, qi_iload, qi_lload, qi_aload, qi_istore, qi_astore, qi_lstore, qi_iinc, qi_iadd, qi_isub, qi_imul, qi_iand, qi_ior, qi_ixor, qi_ishl, qi_ishr, qi_iushr, qi_idiv, qi_irem, qi_lor, qi_lmul, qi_ladd, qi_lsub, qi_land, qi_lshl, qi_lshr, qi_i2l, qi_l2i, qi_i2c, qi_lcmp, qi_dup, qi_dup2, qi_pop, qi_if_eq, qi_icmp_eq, qi_if_ne, qi_icmp_ne, qi_if_lt, qi_icmp_lt, qi_if_ge, qi_icmp_ge, qi_if_gt, qi_icmp_gt, qi_if_le, qi_icmp_le, qi_sw, qi_get, qi_put, qi_iald, qi_lald, qi_aald, qi_iast, qi_zast, qi_cast, qi_last, qi_aast, qi_alen, qi_new, qi_newa, qi_newq, qi_obj, qi_invS, qi_invV, qi_invI, qi_iret, qi_zret, qi_lret, qi_vret, qi_acopy, qi_max, qi_min, at_o, at_i, at_l, at_q, at_a, lget, lset, lclr, lnon, lnth, spl, shrt, rpush, true_and, and_true, List.set, List.length, Nat.reduceAdd, Nat.reduceLT, Nat.reduceLeDiff, Nat.reduceEqDiff, Nat.reduceSub, e0]
  rw [ni_not]
  exact loop 12 (by omega) hdu
set_option maxRecDepth 20000 in
set_option maxHeartbeats 2000000 in
theorem c_L_stepFrom (hp : isLn h a N fx wh (nI C) us F G) (hN : N ≤ 4096) (hW : wh < N) (hW2 : ∃ n, wh = 2 ^ n - 1) (hF : ∀ k s, F k s ≤ 2000000) (hfi : ∀ k, F 2 k < 4096) {d : Nat} (hd : d ≤ wh) (hl : ∀ e, F 8 e ≤ 1000) : ∃ h', MA M_L_stepFrom [.ref a, .int (nI d)] h none h' ∧ isLn h' a N fx wh (nI C) us (va_up F 8 (stp wh fx (F 2) (F 7) (F 8) d)) G ∧ frm h h' (a + 8) 1 := by
  obtain ⟨n, hn⟩ := hW2
  obtain ⟨e0, e1, e2, e3, e4, e5, e6, e7, e8, -⟩ := id hp
  have hdu := sduL_le (F 2) (sdf fx d) 12 (by omega)
  obtain ⟨du, hdue⟩ : ∃ du, due fx (F 2) d = du := ⟨_, rfl⟩
  obtain ⟨ds, hds⟩ : ∃ ds, F 2 du = ds := ⟨_, rfl⟩
  obtain ⟨nx, hnx⟩ : ∃ nx, F 8 d + 1 = nx := ⟨_, rfl⟩
  obtain ⟨op, hop⟩ : ∃ op, opn wh fx ds d = op := ⟨_, rfl⟩
  have hdu' : 1 ≤ du ∧ du ≤ 13 := by rw [← hdue]; exact hdu
  have hld := hl d
  have hop1 : sub op wh := by rw [← hop]; exact sub_trans (sdf_sub _ _) (sdf_sub _ _)
  have hop2 : ∀ s, sub s op → d &&& s = 0 := fun s hs => and_eq0.mpr fun i hi => by
    cases hsi : s.testBit i
    · rfl
    · have := sub_iff.mp hs i hsi
      rw [← hop, sdf_bit, sdf_bit, hi] at this
      simp at this
  have hopN : op < N := Nat.lt_of_le_of_lt (sub_le hop1) hW
  have hstp : stp wh fx (F 2) (F 7) (F 8) d = stL (F 7) (F 8) d op ds nx du 0 := by
    unfold stp
    rw [show due fx (F 2) d = du from hdue, hds, hnx, hop]
  rw [hstp]
  let hx : Nat → hc_H := fun s => hc_set h (a + 8) (.inl (0, N, .inl (fun j => nI (stL (F 7) (F 8) d op ds nx du s j))))
  have lx : ∀ s, isLn (hx s) a N fx wh (nI C) us (va_up F 8 (stL (F 7) (F 8) d op ds nx du s)) G := fun s => hp.set8
  refine ⟨hx 0, ?_, lx 0, frm.rfl'.set (by omega)⟩
  have dN : ∀ s, sub s op → d ||| s < N := fun s hs => by
    have h1 : sub (d ||| s) wh := or_sub (by rw [hn]; exact sub_all.mpr (by have := Nat.two_pow_pos n; omega)) (sub_trans hs hop1)
    exact Nat.lt_of_le_of_lt (sub_le h1) hW
  have loop := subm_loop (P := fun s => ∀ o7 o8 o9, cx hc_tt M_L_stepFrom h (hx 0) none 49 [some (.ref a), some (.int (nI d)), some (.int (nI nx)), some (.int (nI du)), some (.int (nI ds)), some (.int (nI op)), some (.int (nI s)), o7, o8, o9] [] (hx s)) (o := op)
    (by intro o7 o8 o9
        refine sn_L_stepFrom_49 _ _ _ ?_
        simp only [vc_L_stepFrom_49, vc_L_stepFrom_161, qi_push, qi_pushl, qi_iload, qi_lload, qi_aload, qi_istore, qi_astore, qi_lstore, qi_iinc, qi_iadd, qi_isub, qi_imul, qi_iand, qi_ior, qi_ixor, qi_ishl, qi_ishr, qi_iushr, qi_idiv, qi_irem, qi_lor, qi_lmul, qi_ladd, qi_lsub, qi_land, qi_lshl, qi_lshr, qi_i2l, qi_l2i, qi_i2c, qi_lcmp, qi_dup, qi_dup2, qi_pop, qi_if_eq, qi_icmp_eq, qi_if_ne, qi_icmp_ne, qi_if_lt, qi_icmp_lt, qi_if_ge, qi_icmp_ge, qi_if_gt, qi_icmp_gt, qi_if_le, qi_icmp_le, qi_sw, qi_get, qi_put, qi_iald, qi_lald, qi_aald, qi_iast, qi_zast, qi_cast, qi_last, qi_aast, qi_alen, qi_new, qi_newa, qi_newq, qi_obj, qi_invS, qi_invV, qi_invI, qi_iret, qi_zret, qi_lret, qi_vret, qi_acopy, qi_max, qi_min, at_o, at_i, at_l, at_q, at_a, lget, lset, lclr, lnon, lnth, spl, shrt, rpush, true_and, and_true, List.set, List.length, Nat.reduceAdd, Nat.reduceLT, Nat.reduceLeDiff, Nat.reduceEqDiff, Nat.reduceSub]
        exact ⟨fun _ => trivial, fun z => absurd (by decide) z⟩)
    (fun s hs h0 ih o7 o8 o9 => by
        refine sn_L_stepFrom_49 _ _ _ ?_
        obtain ⟨o0, o1, o2, o3, o4, o5, o6, oo7, oo8, -⟩ := lx s
        have x7 : (hx s).1 (a + 7) = ii N (F 7) := oo7
        have x8 : (hx s).1 (a + 8) = ii N (stL (F 7) (F 8) d op ds nx du s) := oo8
        have sN : s < N := Nat.lt_of_le_of_lt (sub_le hs) hopN
        have hv : vp_in (nI s) N := vp_in_nI sN (by omega)
        have b7 := hF 7 s
        have s7 : sdf (F 7 s) d ≤ F 7 s := sub_le (sdf_sub _ _)
        have hvd : vp_in (nI (d ||| s)) N := vp_in_nI (dN s hs) (by omega)
        have cd : (nI (d ||| s)).toNatClampNeg = d ||| s := nI_clamp (by have := dN s hs; omega)
        have hds9 := hfi du
        have tds : s &&& ds ≤ ds := Nat.and_le_right
        have ed : sdf (d ||| s) d = s := sdf_or (hop2 s hs)
        -- what the new levels are
        have key : ∀ e, stL (F 7) (F 8) d op ds nx du ((s - 1) &&& op) e = if e = d ||| s ∧ sdf (F 7 s) d = 0 ∧ gos ds nx du s = true ∧ stn ds nx du s < F 8 e then stn ds nx du s else stL (F 7) (F 8) d op ds nx du s e := by
          intro e
          by_cases q : e = d ||| s
          · subst q
            unfold stL
            rw [ed]
            have c1 : sub d (d ||| s) := sub_or_l _ _
            have c2 : (s - 1) &&& op < s := subm_lt h0
            by_cases q2 : sdf (F 7 s) d = 0 ∧ gos ds nx du s = true ∧ stn ds nx du s < F 8 (d ||| s)
            · rw [if_pos ⟨c1, hs, c2, q2⟩, if_pos ⟨rfl, q2⟩]
            · rw [if_neg (fun w => q2 w.2.2.2), if_neg (fun w => q2 w.2), if_neg (fun w => absurd w.2.2.1 (Nat.lt_irrefl _))]
          · rw [if_neg (fun w => q w.1)]
            unfold stL
            by_cases q3 : sub d e ∧ sub (sdf e d) op
            · have q4 : (s - 1) &&& op < sdf e d ↔ s < sdf e d := by
                rw [subm_seen hs h0 q3.2]
                constructor
                · intro w
                  refine Nat.lt_of_le_of_ne w (fun w2 => q ?_)
                  rw [w2, or_sdf q3.1]
                · intro w; omega
              simp only [q4]
            · rw [if_neg (fun w => q3 ⟨w.1, w.2.1⟩), if_neg (fun w => q3 ⟨w.1, w.2.1⟩)]
        have at_s : stL (F 7) (F 8) d op ds nx du s (d ||| s) = F 8 (d ||| s) := by
          unfold stL
          rw [ed, if_neg (fun w => absurd w.2.2.1 (Nat.lt_irrefl _))]
        have skip : ¬ (sdf (F 7 s) d = 0 ∧ gos ds nx du s = true ∧ stn ds nx du s < F 8 (d ||| s)) → hx ((s - 1) &&& op) = hx s := fun w => hi_c (fun e => by
          rw [key e, if_neg (fun z => w ⟨z.2.1, z.2.2.1, by have := z.2.2.2; rw [z.1] at this; exact this⟩)])
        have next : ∀ h9 o7 o8 o9, h9 = hx ((s - 1) &&& op) → vc_L_stepFrom_149 none (hx 0) (cx hc_tt M_L_stepFrom h (hx 0) none) [some (.ref a), some (.int (nI d)), some (.int (nI nx)), some (.int (nI du)), some (.int (nI ds)), some (.int (nI op)), some (.int (nI s)), o7, o8, o9] [] h9 := by
          intro h9 o7 o8 o9 e9
          subst e9
          simp only [vc_L_stepFrom_149, qi_push, qi_pushl, qi_iload, qi_lload, qi_aload, qi_istore, qi_astore, qi_lstore, qi_iinc, qi_iadd, qi_isub, qi_imul, qi_iand, qi_ior, qi_ixor, qi_ishl, qi_ishr, qi_iushr, qi_idiv, qi_irem, qi_lor, qi_lmul, qi_ladd, qi_lsub, qi_land, qi_lshl, qi_lshr, qi_i2l, qi_l2i, qi_i2c, qi_lcmp, qi_dup, qi_dup2, qi_pop, qi_if_eq, qi_icmp_eq, qi_if_ne, qi_icmp_ne, qi_if_lt, qi_icmp_lt, qi_if_ge, qi_icmp_ge, qi_if_gt, qi_icmp_gt, qi_if_le, qi_icmp_le, qi_sw, qi_get, qi_put, qi_iald, qi_lald, qi_aald, qi_iast, qi_zast, qi_cast, qi_last, qi_aast, qi_alen, qi_new, qi_newa, qi_newq, qi_obj, qi_invS, qi_invV, qi_invI, qi_iret, qi_zret, qi_lret, qi_vret, qi_acopy, qi_max, qi_min, at_o, at_i, at_l, at_q, at_a, lget, lset, lclr, lnon, lnth, spl, shrt, rpush, true_and, and_true, List.set, List.length, Nat.reduceAdd, Nat.reduceLT, Nat.reduceLeDiff, Nat.reduceEqDiff, Nat.reduceSub]
          rw [pk_sub h0, ni_and]
          exact ih _ _ _
        have h8 := hl (d ||| s)
        have k117 : ∀ (b : Bool) (st o9 : _), b = gos ds nx du s → st = stn ds nx du s → sdf (F 7 s) d = 0 → vc_L_stepFrom_117 none (hx 0) (cx hc_tt M_L_stepFrom h (hx 0) none) [some (.ref a), some (.int (nI d)), some (.int (nI nx)), some (.int (nI du)), some (.int (nI ds)), some (.int (nI op)), some (.int (nI s)), some (.int (nI (s &&& ds))), some (.int (nI st)), o9] [.int (nI b.toNat)] (hx s) := by
          intro b st o9 hb hst hne
          have lst : stn ds nx du s ≤ 1001 := by unfold stn; split <;> omega
          simp only [vc_L_stepFrom_117, qi_push, qi_pushl, qi_iload, qi_lload, qi_aload, qi_istore, qi_astore, qi_lstore, qi_iinc, qi_iadd, qi_isub, qi_imul, qi_iand, qi_ior, qi_ixor, qi_ishl, qi_ishr, qi_iushr, qi_idiv, qi_irem, qi_lor, qi_lmul, qi_ladd, qi_lsub, qi_land, qi_lshl, qi_lshr, qi_i2l, qi_l2i, qi_i2c, qi_lcmp, qi_dup, qi_dup2, qi_pop, qi_if_eq, qi_icmp_eq, qi_if_ne, qi_icmp_ne, qi_if_lt, qi_icmp_lt, qi_if_ge, qi_icmp_ge, qi_if_gt, qi_icmp_gt, qi_if_le, qi_icmp_le, qi_sw, qi_get, qi_put, qi_iald, qi_lald, qi_aald, qi_iast, qi_zast, qi_cast, qi_last, qi_aast, qi_alen, qi_new, qi_newa, qi_newq, qi_obj, qi_invS, qi_invV, qi_invI, qi_iret, qi_zret, qi_lret, qi_vret, qi_acopy, qi_max, qi_min, at_o, at_i, at_l, at_q, at_a, lget, lset, lclr, lnon, lnth, spl, shrt, rpush, true_and, and_true, List.set, List.length, Nat.reduceAdd, Nat.reduceLT, Nat.reduceLeDiff, Nat.reduceEqDiff, Nat.reduceSub, o0, x8, nb_eq0, nb_ne0, ni_or, hvd, cd, at_s, upd_nI]
          rw [nI_leI (by omega) (by omega)]
          refine ⟨fun z => next _ _ _ _ (skip (fun w => by rw [← hb, z] at w; exact absurd w.2.1 (by decide))).symm, fun z => ⟨fun z2 => next _ _ _ _ (skip (fun w => by omega)).symm, fun z2 => next _ _ _ _ ?_⟩⟩
          show hc_set (hc_set _ _ _) _ _ = hc_set _ _ _
          rw [hs_hs]
          refine hi_c (fun e => ?_)
          rw [key e]
          have hb' : gos ds nx du s = true := by rw [← hb]; simpa using z
          unfold va_up
          by_cases q : e = d ||| s
          · rw [if_pos q, if_pos ⟨q, hne, hb', by rw [q]; omega⟩, hst]
          · rw [if_neg q, if_neg (fun w => q w.1)]
        simp only [vc_L_stepFrom_49, qi_push, qi_pushl, qi_iload, qi_lload, qi_aload, qi_istore, qi_astore, qi_lstore, qi_iinc, qi_iadd, qi_isub, qi_imul, qi_iand, qi_ior, qi_ixor, qi_ishl, qi_ishr, qi_iushr, qi_idiv, qi_irem, qi_lor, qi_lmul, qi_ladd, qi_lsub, qi_land, qi_lshl, qi_lshr, qi_i2l, qi_l2i, qi_i2c, qi_lcmp, qi_dup, qi_dup2, qi_pop, qi_if_eq, qi_icmp_eq, qi_if_ne, qi_icmp_ne, qi_if_lt, qi_icmp_lt, qi_if_ge, qi_icmp_ge, qi_if_gt, qi_icmp_gt, qi_if_le, qi_icmp_le, qi_sw, qi_get, qi_put, qi_iald, qi_lald, qi_aald, qi_iast, qi_zast, qi_cast, qi_last, qi_aast, qi_alen, qi_new, qi_newa, qi_newq, qi_obj, qi_invS, qi_invV, qi_invI, qi_iret, qi_zret, qi_lret, qi_vret, qi_acopy, qi_max, qi_min, at_o, at_i, at_l, at_q, at_a, lget, lset, lclr, lnon, lnth, spl, shrt, rpush, true_and, and_true, List.set, List.length, Nat.reduceAdd, Nat.reduceLT, Nat.reduceLeDiff, Nat.reduceEqDiff, Nat.reduceSub, o0, x7, hv]
        rw [nI_clamp (by omega), ni_not, ← nI_0, nI_eq (by omega) (by omega)]
        refine ⟨fun z => absurd z (by rw [nI_0]; exact nI_nle h0 (by omega)), fun _ => ⟨fun z => next _ _ _ _ (skip (fun w => z w.1)).symm, fun z => ?_⟩⟩
        rw [ni_and, nI_eq (by omega) (by omega)]
        simp only [vc_L_stepFrom_84, vc_L_stepFrom_85, vc_L_stepFrom_101, vc_L_stepFrom_105, vc_L_stepFrom_116, qi_push, qi_pushl, qi_iload, qi_lload, qi_aload, qi_istore, qi_astore, qi_lstore, qi_iinc, qi_iadd, qi_isub, qi_imul, qi_iand, qi_ior, qi_ixor, qi_ishl, qi_ishr, qi_iushr, qi_idiv, qi_irem, qi_lor, qi_lmul, qi_ladd, qi_lsub, qi_land, qi_lshl, qi_lshr, qi_i2l, qi_l2i, qi_i2c, qi_lcmp, qi_dup, qi_dup2, qi_pop, qi_if_eq, qi_icmp_eq, qi_if_ne, qi_icmp_ne, qi_if_lt, qi_icmp_lt, qi_if_ge, qi_icmp_ge, qi_if_gt, qi_icmp_gt, qi_if_le, qi_icmp_le, qi_sw, qi_get, qi_put, qi_iald, qi_lald, qi_aald, qi_iast, qi_zast, qi_cast, qi_last, qi_aast, qi_alen, qi_new, qi_newa, qi_newq, qi_obj, qi_invS, qi_invV, qi_invI, qi_iret, qi_zret, qi_lret, qi_vret, qi_acopy, qi_max, qi_min, at_o, at_i, at_l, at_q, at_a, lget, lset, lclr, lnon, lnth, spl, shrt, rpush, true_and, and_true, List.set, List.length, Nat.reduceAdd, Nat.reduceLT, Nat.reduceLeDiff, Nat.reduceEqDiff, Nat.reduceSub]
        rw [← nI_0, nI_eq (by omega) (by omega), nI_leI (by omega) (by omega), nI_eq (by omega) (by omega)]
        refine ⟨fun w => ⟨fun w2 => ⟨fun w3 => k117 false du _ ?_ ?_ z, fun w3 => k117 true du _ ?_ ?_ z⟩, fun w2 => absurd w2 w⟩, fun w => ⟨fun w2 => absurd w w2, fun _ => ⟨fun w3 => k117 false nx _ ?_ ?_ z, fun w3 => k117 true nx _ ?_ ?_ z⟩⟩⟩
        · unfold gos; rw [if_neg w, decide_eq_false w3]
        · unfold stn; rw [if_neg w]
        · unfold gos; rw [if_neg w, decide_eq_true w3]
        · unfold stn; rw [if_neg w]
        · unfold gos; rw [if_pos w, decide_eq_false (by omega)]
        · unfold stn; rw [if_pos w]
        · unfold gos; rw [if_pos w, decide_eq_true (by omega)]
        · unfold stn; rw [if_pos w])
  have l0 := loop op (sub_rfl op)
  have e9 : hx op = h := by
    show hc_set _ _ _ = h
    have : stL (F 7) (F 8) d op ds nx du op = F 8 := funext fun e => by
      unfold stL
      rw [if_neg (fun w => by have := sub_le w.2.1; omega)]
    rw [this]
    exact hs_self h e8
  rw [e9] at l0
  refine MX.of (lv := [some (.ref a), some (.int (nI d)), none, none, none, none, none, none, none, none]) 8 rfl (by decide) (Nat.le_of_ble_eq_true rfl) (sn_L_stepFrom_0 _ _ _ ?_)
  simp only [vc_L_stepFrom_0, qi_push, qi_pushl, qi_iload, qi_lload, qi_aload, qi_istore, qi_astore, qi_lstore, qi_iinc, qi_iadd, qi_isub, qi_imul, qi_iand, qi_ior, qi_ixor, qi_ishl, qi_ishr, qi_iushr, qi_idiv, qi_irem, qi_lor, qi_lmul, qi_ladd, qi_lsub, qi_land, qi_lshl, qi_lshr, qi_i2l, qi_l2i, qi_i2c, qi_lcmp, qi_dup, qi_dup2, qi_pop, qi_if_eq, qi_icmp_eq, qi_if_ne, qi_icmp_ne, qi_if_lt, qi_icmp_lt, qi_if_ge, qi_icmp_ge, qi_if_gt, qi_icmp_gt, qi_if_le, qi_icmp_le, qi_sw, qi_get, qi_put, qi_iald, qi_lald, qi_aald, qi_iast, qi_zast, qi_cast, qi_last, qi_aast, qi_alen, qi_new, qi_newa, qi_newq, qi_obj, qi_invS, qi_invV, qi_invI, qi_iret, qi_zret, qi_lret, qi_vret, qi_acopy, qi_max, qi_min, at_o, at_i, at_l, at_q, at_a, lget, lset, lclr, lnon, lnth, spl, shrt, rpush, true_and, and_true, List.set, List.length, Nat.reduceAdd, Nat.reduceLT, Nat.reduceLeDiff, Nat.reduceEqDiff, Nat.reduceSub, e0, e8]
  refine ⟨vp_in_nI (by omega) (by omega), _, _, c_L_stationDue hp hF, ?_⟩
  simp only [qi_push, qi_pushl, qi_iload, qi_lload, qi_aload, qi_istore, qi_astore, qi_lstore, qi_iinc, qi_iadd, qi_isub, qi_imul, qi_iand, qi_ior, qi_ixor, qi_ishl, qi_ishr, qi_iushr, qi_idiv, qi_irem, qi_lor, qi_lmul, qi_ladd, qi_lsub, qi_land, qi_lshl, qi_lshr, qi_i2l, qi_l2i, qi_i2c, qi_lcmp, qi_dup, qi_dup2, qi_pop, qi_if_eq, qi_icmp_eq, qi_if_ne, qi_icmp_ne, qi_if_lt, qi_icmp_lt, qi_if_ge, qi_icmp_ge, qi_if_gt, qi_icmp_gt, qi_if_le, qi_icmp_le, qi_sw, qi_get, qi_put, qi_iald, qi_lald, qi_aald, qi_iast, qi_zast, qi_cast, qi_last, qi_aast, qi_alen, qi_new, qi_newa, qi_newq, qi_obj, qi_invS, qi_invV, qi_invI, qi_iret, qi_zret, qi_lret, qi_vret, qi_acopy, qi_max, qi_min, at_o, at_i, at_l, at_q, at_a, lget, lset, lclr, lnon, lnth, spl, shrt, rpush, true_and, and_true, List.set, List.length, Nat.reduceAdd, Nat.reduceLT, Nat.reduceLeDiff, Nat.reduceEqDiff, Nat.reduceSub, e0, e2]
  refine ⟨vp_in_nI (by omega) (by omega), ?_⟩
  rw [nI_clamp (by omega), nI_clamp (by omega), ni_not, ni_not, ni_not, nI_add, show due fx (F 2) d = du from hdue, hds, hnx, show sdf (sdf wh d) (sdf fx ds) = op from hop]
  exact l0 _ _ _
end LN
