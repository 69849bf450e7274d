/-! LINES: covered sets, loads, the constructor. -/
/-- the i-th with P, from s on, f having been seen; how many, if i is below 0 -/
def pick (P : Nat → Bool) (i : Int32) : Nat → Nat → Nat → Int32
  | 0, _, f => if i < 0 then nI f else -4
  | k + 1, s, f => if P s then (if nI f = i then nI s else pick P i k (s + 1) (f + 1)) else pick P i k (s + 1) f
theorem pick_c {P Q : Nat → Bool} {i : Int32} : ∀ (k s f : Nat), (∀ t, s ≤ t → t < s + k → P t = Q t) → pick P i k s f = pick Q i k s f := by
  intro k
  induction k with
  | zero => intro s f _; rfl
  | succ k ih =>
    intro s f h
    simp only [pick]
    rw [h s (Nat.le_refl _) (by omega), ih (s + 1) (f + 1) (fun t h1 h2 => h t (by omega) (by omega)), ih (s + 1) f (fun t h1 h2 => h t (by omega) (by omega))]
section LN
variable {h : hc_H} {a N fx us C : Nat} {F G : Nat → Nat → Nat}
theorem c_L_findCovered {n : Nat} (hp : isLn h a N fx (2 ^ n - 1) (nI C) us F G) (hN : N ≤ 4096) (hn : n ≤ 12) (hW : 2 ^ n ≤ N) (hF : ∀ k s, F k s ≤ 2000000) : ∃ h' cv, MA M_L_findCovered [.ref a] h none h' ∧ isLn h' a N fx (2 ^ n - 1) (nI C) us (va_up F 10 cv) G ∧ frm h h' a 13 ∧ (∀ s, 1 ≤ s → s < 2 ^ n → isCv (F 7) n cv s) ∧ ∀ s, cv s ≤ 2000000 := by
  have hpn := Nat.two_pow_pos n
  let Z : hc_H → (Nat → Nat) → Prop := fun h' cv => isLn h' a N fx (2 ^ n - 1) (nI C) us (va_up F 10 cv) G ∧ frm h h' a 13 ∧ (∀ s, 1 ≤ s → s < 2 ^ n → isCv (F 7) n cv s) ∧ ∀ s, cv s ≤ 2000000
  have upb : ∀ (f : Nat → Nat) (k v : Nat), v ≤ 1 → upd (fun j => nI (f j)) k (nI v &&& 1) = fun j => nI (va_up f k v j) := fun f k v hv => by
    rw [show nI v &&& 1 = nI v by rcases (show v = 0 ∨ v = 1 by omega) with rfl | rfl <;> decide]
    exact upd_nI f k v
  have loop : ∀ t, t < 2 ^ n → ∀ h1 cv, isLn h1 a N fx (2 ^ n - 1) (nI C) us (va_up F 10 cv) G → frm h h1 a 13 → (∀ s, t < s → s < 2 ^ n → isCv (F 7) n cv s) → (∀ s, cv s ≤ 2000000) → ∃ h' cv', Z h' cv' ∧ ∀ o2 o3, cx hc_tt M_L_findCovered h h' none 5 [some (.ref a), some (.int (nI t)), o2, o3] [] h1 := by
    intro t
    induction t with
    | zero =>
      intro _ h1 cv i1 i2 i3 i4
      refine ⟨h1, cv, ⟨i1, i2, fun s s1 s2 => i3 s (by omega) s2, i4⟩, fun o2 o3 => sn_L_findCovered_5 _ _ _ ?_⟩
      simp only [vc_L_findCovered_5, vc_L_findCovered_73, qi_push, qi_pushl, qi_iload, qi_lload, qi_aload, qi_istore, qi_astore, qi_lstore, qi_iinc, qi_iadd, qi_isub, qi_imul, qi_iand, qi_ior, qi_ixor, qi_ishl, qi_ishr, qi_iushr, qi_idiv, qi_irem, qi_lor, qi_lmul, qi_ladd, qi_lsub, qi_land, qi_lshl, qi_lshr, qi_i2l, qi_l2i, qi_i2c, qi_lcmp, qi_dup, qi_dup2, qi_pop, qi_if_eq, qi_icmp_eq, qi_if_ne, qi_icmp_ne, qi_if_lt, qi_icmp_lt, qi_if_ge, qi_icmp_ge, qi_if_gt, qi_icmp_gt, qi_if_le, qi_icmp_le, qi_sw, qi_get, qi_put, qi_iald, qi_lald, qi_aald, qi_iast, qi_zast, qi_cast, qi_last, qi_aast, qi_alen, qi_new, qi_newa, qi_newq, qi_obj, qi_invS, qi_invV, qi_invI, qi_iret, qi_zret, qi_lret, qi_vret, qi_acopy, qi_max, qi_min, at_o, at_i, at_l, at_q, at_a, lget, lset, lclr, lnon, lnth, spl, shrt, rpush, true_and, and_true, List.set, List.length, Nat.reduceAdd, Nat.reduceLT, Nat.reduceLeDiff, Nat.reduceEqDiff, Nat.reduceSub]
      exact ⟨fun _ => trivial, fun z => absurd (by decide) z⟩
    | succ t ih =>
      intro ht h1 cv i1 i2 i3 i4
      have hv : vp_in (nI (t + 1)) N := vp_in_nI (by omega) (by omega)
      have ct : (nI (t + 1)).toNatClampNeg = t + 1 := nI_clamp (by omega)
      -- the inner loop: at bit b
      have inner := lp_up (P := fun b => ∀ h2 cv2, isLn h2 a N fx (2 ^ n - 1) (nI C) us (va_up F 10 cv2) G → frm h h2 a 13 → (∀ s, t + 1 < s → s < 2 ^ n → isCv (F 7) n cv2 s) → (∀ s, cv2 s ≤ 2000000) → ((cv2 (t + 1) = 1 ∧ ∃ c, c < b ∧ (t + 1).testBit c = false ∧ (F 7 ((t + 1) ||| 2 ^ c) = 0 ∨ cv2 ((t + 1) ||| 2 ^ c) = 1)) ∨ (cv2 (t + 1) = 0 ∧ ∀ c, c < b → (t + 1).testBit c = false → ¬ (F 7 ((t + 1) ||| 2 ^ c) = 0 ∨ cv2 ((t + 1) ||| 2 ^ c) = 1))) → ∃ h' cv', Z h' cv' ∧ ∀ o3, cx hc_tt M_L_findCovered h h' none 18 [some (.ref a), some (.int (nI (t + 1))), some (.int (nI (2 ^ b))), o3] [] h2) (n := n)
        (by intro h2 cv2 j1 j2 j3 j4 j5
            obtain ⟨h', cv', z1, z2⟩ := ih (by omega) h2 cv2 j1 j2 (fun s s1 s2 => by
              by_cases w : s = t + 1
              · rw [w]; exact j5
              · exact j3 s (by omega) s2) j4
            refine ⟨h', cv', z1, fun o3 => sn_L_findCovered_18 _ _ _ ?_⟩
            have o0 := j1.1
            have l12 : 2 ^ n ≤ 4096 := by omega
            simp only [vc_L_findCovered_18, vc_L_findCovered_67, qi_push, qi_pushl, qi_iload, qi_lload, qi_aload, qi_istore, qi_astore, qi_lstore, qi_iinc, qi_iadd, qi_isub, qi_imul, qi_iand, qi_ior, qi_ixor, qi_ishl, qi_ishr, qi_iushr, qi_idiv, qi_irem, qi_lor, qi_lmul, qi_ladd, qi_lsub, qi_land, qi_lshl, qi_lshr, qi_i2l, qi_l2i, qi_i2c, qi_lcmp, qi_dup, qi_dup2, qi_pop, qi_if_eq, qi_icmp_eq, qi_if_ne, qi_icmp_ne, qi_if_lt, qi_icmp_lt, qi_if_ge, qi_icmp_ge, qi_if_gt, qi_icmp_gt, qi_if_le, qi_icmp_le, qi_sw, qi_get, qi_put, qi_iald, qi_lald, qi_aald, qi_iast, qi_zast, qi_cast, qi_last, qi_aast, qi_alen, qi_new, qi_newa, qi_newq, qi_obj, qi_invS, qi_invV, qi_invI, qi_iret, qi_zret, qi_lret, qi_vret, qi_acopy, qi_max, qi_min, at_o, at_i, at_l, at_q, at_a, lget, lset, lclr, lnon, lnth, spl, shrt, rpush, true_and, and_true, List.set, List.length, Nat.reduceAdd, Nat.reduceLT, Nat.reduceLeDiff, Nat.reduceEqDiff, Nat.reduceSub, o0]
            rw [pk_m1]
            exact ⟨fun _ => z2 _ _, fun z => absurd (nI_lt (by omega) (by omega)) z⟩)
        (fun b hb ihb h2 cv2 j1 j2 j3 j4 j5 => by
            have pb : 2 ^ (b + 1) ≤ 2 ^ n := Nat.pow_le_pow_right (by omega) (by omega)
            have pb2 : 2 ^ (b + 1) = 2 ^ b + 2 ^ b := by rw [Nat.pow_succ]; omega
            have pb3 := Nat.two_pow_pos b
            have o0 := j1.1
            have o7 : h2.1 (a + 7) = ii N (F 7) := j1.2.2.2.2.2.2.2.1
            have o10 : h2.1 (a + 10) = some (.inl (1, N, .inl (fun j => nI (cv2 j)))) := j1.2.2.2.2.2.2.2.2.2.2.1
            have mlt : (t + 1) ||| 2 ^ b < 2 ^ n := or_lt ht (by omega)
            obtain ⟨m, hm⟩ : ∃ m, (t + 1) ||| 2 ^ b = m := ⟨_, rfl⟩
            rw [hm] at mlt
            have hvm : vp_in (nI m) N := vp_in_nI (by omega) (by omega)
            have cm : (nI m).toNatClampNeg = m := nI_clamp (by omega)
            have b7 := hF 7 m
            have c7 := j4 m
            have sh : nI (2 ^ b) <<< (nI 1 &&& 31) = nI (2 ^ (b + 1)) := by
              rw [pk_shlN (n := 2 ^ b) (nI 1 &&& 31) 1 (by decide) (by rw [Nat.pow_one]; omega), show 2 ^ b * 2 ^ 1 = 2 ^ (b + 1) by rw [Nat.pow_one, Nat.pow_succ]]
            have go : ∀ h3 cv3, isLn h3 a N fx (2 ^ n - 1) (nI C) us (va_up F 10 cv3) G → frm h h3 a 13 → (∀ s, t + 1 < s → s < 2 ^ n → isCv (F 7) n cv3 s) → (∀ s, cv3 s ≤ 2000000) → ((cv3 (t + 1) = 1 ∧ ∃ c, c < b + 1 ∧ (t + 1).testBit c = false ∧ (F 7 ((t + 1) ||| 2 ^ c) = 0 ∨ cv3 ((t + 1) ||| 2 ^ c) = 1)) ∨ (cv3 (t + 1) = 0 ∧ ∀ c, c < b + 1 → (t + 1).testBit c = false → ¬ (F 7 ((t + 1) ||| 2 ^ c) = 0 ∨ cv3 ((t + 1) ||| 2 ^ c) = 1))) → ∃ h' cv', Z h' cv' ∧ ∀ o3, vc_L_findCovered_60 none h' (cx hc_tt M_L_findCovered h h' none) [some (.ref a), some (.int (nI (t + 1))), some (.int (nI (2 ^ b))), o3] [] h3 := by
              intro h3 cv3 k1 k2 k3 k4 k5
              obtain ⟨h', cv', z1, z2⟩ := ihb h3 cv3 k1 k2 k3 k4 k5
              refine ⟨h', cv', z1, fun o3 => ?_⟩
              simp only [vc_L_findCovered_60, qi_push, qi_pushl, qi_iload, qi_lload, qi_aload, qi_istore, qi_astore, qi_lstore, qi_iinc, qi_iadd, qi_isub, qi_imul, qi_iand, qi_ior, qi_ixor, qi_ishl, qi_ishr, qi_iushr, qi_idiv, qi_irem, qi_lor, qi_lmul, qi_ladd, qi_lsub, qi_land, qi_lshl, qi_lshr, qi_i2l, qi_l2i, qi_i2c, qi_lcmp, qi_dup, qi_dup2, qi_pop, qi_if_eq, qi_icmp_eq, qi_if_ne, qi_icmp_ne, qi_if_lt, qi_icmp_lt, qi_if_ge, qi_icmp_ge, qi_if_gt, qi_icmp_gt, qi_if_le, qi_icmp_le, qi_sw, qi_get, qi_put, qi_iald, qi_lald, qi_aald, qi_iast, qi_zast, qi_cast, qi_last, qi_aast, qi_alen, qi_new, qi_newa, qi_newq, qi_obj, qi_invS, qi_invV, qi_invI, qi_iret, qi_zret, qi_lret, qi_vret, qi_acopy, qi_max, qi_min, at_o, at_i, at_l, at_q, at_a, lget, lset, lclr, lnon, lnth, spl, shrt, rpush, true_and, and_true, List.set, List.length, Nat.reduceAdd, Nat.reduceLT, Nat.reduceLeDiff, Nat.reduceEqDiff, Nat.reduceSub]
              rw [sh]
              exact z2 _
            have pre : ∀ (h' : hc_H), ((m = t + 1 → vc_L_findCovered_60 none h' (cx hc_tt M_L_findCovered h h' none) [some (.ref a), some (.int (nI (t + 1))), some (.int (nI (2 ^ b))), some (.int (nI m))] [] h2) ∧ (¬ m = t + 1 → (F 7 m = 0 ∨ cv2 m = 1 → vc_L_findCovered_53 none h' (cx hc_tt M_L_findCovered h h' none) [some (.ref a), some (.int (nI (t + 1))), some (.int (nI (2 ^ b))), some (.int (nI m))] [] h2) ∧ (¬ (F 7 m = 0 ∨ cv2 m = 1) → vc_L_findCovered_60 none h' (cx hc_tt M_L_findCovered h h' none) [some (.ref a), some (.int (nI (t + 1))), some (.int (nI (2 ^ b))), some (.int (nI m))] [] h2))) → (¬ m = t + 1 → cv2 m = 0 ∨ cv2 m = 1) → ∀ o3, cx hc_tt M_L_findCovered h h' none 18 [some (.ref a), some (.int (nI (t + 1))), some (.int (nI (2 ^ b))), o3] [] h2 := by
              intro h' ⟨p1, p2⟩ p3 o3
              refine sn_L_findCovered_18 _ _ _ ?_
              simp only [vc_L_findCovered_18, qi_push, qi_pushl, qi_iload, qi_lload, qi_aload, qi_istore, qi_astore, qi_lstore, qi_iinc, qi_iadd, qi_isub, qi_imul, qi_iand, qi_ior, qi_ixor, qi_ishl, qi_ishr, qi_iushr, qi_idiv, qi_irem, qi_lor, qi_lmul, qi_ladd, qi_lsub, qi_land, qi_lshl, qi_lshr, qi_i2l, qi_l2i, qi_i2c, qi_lcmp, qi_dup, qi_dup2, qi_pop, qi_if_eq, qi_icmp_eq, qi_if_ne, qi_icmp_ne, qi_if_lt, qi_icmp_lt, qi_if_ge, qi_icmp_ge, qi_if_gt, qi_icmp_gt, qi_if_le, qi_icmp_le, qi_sw, qi_get, qi_put, qi_iald, qi_lald, qi_aald, qi_iast, qi_zast, qi_cast, qi_last, qi_aast, qi_alen, qi_new, qi_newa, qi_newq, qi_obj, qi_invS, qi_invV, qi_invI, qi_iret, qi_zret, qi_lret, qi_vret, qi_acopy, qi_max, qi_min, at_o, at_i, at_l, at_q, at_a, lget, lset, lclr, lnon, lnth, spl, shrt, rpush, true_and, and_true, List.set, List.length, Nat.reduceAdd, Nat.reduceLT, Nat.reduceLeDiff, Nat.reduceEqDiff, Nat.reduceSub, o0, o7, o10, ni_or, hm, hvm, cm]
              rw [nI_ltI (by omega) (by omega), nI_eq (by omega) (by omega), ← nI_0, nI_eq (by omega) (by omega), nI_eq (by omega) (by omega)]
              refine ⟨fun z => by omega, fun _ => ⟨fun z => p1 z, fun z => ⟨fun z2 => (p2 z).1 (Or.inl z2), fun z2 => ⟨fun z3 => (p2 z).2 (fun z4 => by omega), fun z3 => (p2 z).1 (Or.inr ?_)⟩⟩⟩⟩
              rcases p3 z with w | w
              · exact absurd w z3
              · exact w
            by_cases w : m = t + 1
            · -- the bit is there already
              have hbit : (t + 1).testBit b = true := by rw [← w, ← hm, Nat.testBit_or, Nat.testBit_two_pow_self, Bool.or_true]
              obtain ⟨h', cv', z1, z2⟩ := go h2 cv2 j1 j2 j3 j4 (by
                rcases j5 with ⟨g1, c, g2, g3⟩ | ⟨g1, g2⟩
                · exact Or.inl ⟨g1, c, by omega, g3⟩
                · refine Or.inr ⟨g1, fun c hc hcb => ?_⟩
                  by_cases w2 : c = b
                  · rw [w2, hbit] at hcb; cases hcb
                  · exact g2 c (by omega) hcb)
              exact ⟨h', cv', z1, pre h' ⟨fun _ => z2 _, fun z => absurd w z⟩ (fun z => absurd w z)⟩
            · have hbit : (t + 1).testBit b = false := by
                cases hb9 : (t + 1).testBit b
                · rfl
                · exfalso
                  apply w
                  rw [← hm]
                  apply tb_ext
                  intro i
                  rw [Nat.testBit_or, Bool.or_eq_true]
                  constructor
                  · rintro (z | z)
                    · exact z
                    · rw [Nat.testBit_two_pow, decide_eq_true_eq] at z; rw [← z]; exact hb9
                  · exact Or.inl
              have mgt : t + 1 < m := by
                have : t + 1 ≤ m := by rw [← hm]; exact sub_le (sub_or_l _ _)
                omega
              have h01 : cv2 m = 0 ∨ cv2 m = 1 := by
                rcases j3 m mgt mlt with z | z
                · exact Or.inr z.1
                · exact Or.inl z.1
              by_cases w3 : F 7 m = 0 ∨ cv2 m = 1
              · obtain ⟨k3, ek3⟩ : ∃ z, hc_set h2 (a + 10) (.inl (1, N, .inl (fun j => nI (va_up cv2 (t + 1) 1 j)))) = z := ⟨_, rfl⟩
                have l3 : isLn k3 a N fx (2 ^ n - 1) (nI C) us (va_up F 10 (va_up cv2 (t + 1) 1)) G := by
                  have := ek3 ▸ j1.setC (f := va_up cv2 (t + 1) 1)
                  rwa [bx_uu] at this
                have ne1 : ∀ s, ¬ s = t + 1 → va_up cv2 (t + 1) 1 s = cv2 s := fun s hs => if_neg hs
                have at1 : va_up cv2 (t + 1) 1 (t + 1) = 1 := if_pos rfl
                obtain ⟨h', cv', z1, z2⟩ := go k3 (va_up cv2 (t + 1) 1) l3 (by rw [← ek3]; exact j2.set (by omega)) (fun s s1 s2 => by
                  have hgt : ∀ c, ¬ s ||| 2 ^ c = t + 1 := fun c z => by have := sub_le (sub_or_l s (2 ^ c)); omega
                  have := j3 s s1 s2
                  unfold isCv at this ⊢
                  rw [ne1 s (by omega)]
                  simp only [fun c => ne1 (s ||| 2 ^ c) (hgt c)]
                  exact this) (up1_le j4 (by omega)) (Or.inl ⟨at1, b, by omega, hbit, by rw [hm, ne1 m (by omega)]; exact w3⟩)
                refine ⟨h', cv', z1, pre h' ⟨fun z => absurd z w, fun _ => ⟨fun _ => ?_, fun z => absurd w3 z⟩⟩ (fun _ => h01)⟩
                simp only [vc_L_findCovered_53, qi_push, qi_pushl, qi_iload, qi_lload, qi_aload, qi_istore, qi_astore, qi_lstore, qi_iinc, qi_iadd, qi_isub, qi_imul, qi_iand, qi_ior, qi_ixor, qi_ishl, qi_ishr, qi_iushr, qi_idiv, qi_irem, qi_lor, qi_lmul, qi_ladd, qi_lsub, qi_land, qi_lshl, qi_lshr, qi_i2l, qi_l2i, qi_i2c, qi_lcmp, qi_dup, qi_dup2, qi_pop, qi_if_eq, qi_icmp_eq, qi_if_ne, qi_icmp_ne, qi_if_lt, qi_icmp_lt, qi_if_ge, qi_icmp_ge, qi_if_gt, qi_icmp_gt, qi_if_le, qi_icmp_le, qi_sw, qi_get, qi_put, qi_iald, qi_lald, qi_aald, qi_iast, qi_zast, qi_cast, qi_last, qi_aast, qi_alen, qi_new, qi_newa, qi_newq, qi_obj, qi_invS, qi_invV, qi_invI, qi_iret, qi_zret, qi_lret, qi_vret, qi_acopy, qi_max, qi_min, at_o, at_i, at_l, at_q, at_a, lget, lset, lclr, lnon, lnth, spl, shrt, rpush, true_and, and_true, List.set, List.length, Nat.reduceAdd, Nat.reduceLT, Nat.reduceLeDiff, Nat.reduceEqDiff, Nat.reduceSub, o0, o10, hv, ct]
                rw [upb cv2 (t + 1) 1 (by omega), ek3]
                exact z2 _
              · obtain ⟨h', cv', z1, z2⟩ := go h2 cv2 j1 j2 j3 j4 (by
                  rcases j5 with ⟨g1, c, g2, g3⟩ | ⟨g1, g2⟩
                  · exact Or.inl ⟨g1, c, by omega, g3⟩
                  · refine Or.inr ⟨g1, fun c hc hcb => ?_⟩
                    by_cases w2 : c = b
                    · rw [w2, hm]; exact w3
                    · exact g2 c (by omega) hcb)
                exact ⟨h', cv', z1, pre h' ⟨fun z => absurd z w, fun _ => ⟨fun z => absurd z w3, fun _ => z2 _⟩⟩ (fun _ => h01)⟩)
      have o0 := i1.1
      have o10 : h1.1 (a + 10) = some (.inl (1, N, .inl (fun j => nI (cv j)))) := i1.2.2.2.2.2.2.2.2.2.2.1
      obtain ⟨k2, ek2⟩ : ∃ z, hc_set h1 (a + 10) (.inl (1, N, .inl (fun j => nI (va_up cv (t + 1) 0 j)))) = z := ⟨_, rfl⟩
      have l2 : isLn k2 a N fx (2 ^ n - 1) (nI C) us (va_up F 10 (va_up cv (t + 1) 0)) G := by
        have := ek2 ▸ i1.setC (f := va_up cv (t + 1) 0)
        rwa [bx_uu] at this
      have ne1 : ∀ s, ¬ s = t + 1 → va_up cv (t + 1) 0 s = cv s := fun s hs => if_neg hs
      obtain ⟨h', cv', z1, z2⟩ := inner 0 (Nat.zero_le _) k2 (va_up cv (t + 1) 0) l2 (by rw [← ek2]; exact i2.set (by omega)) (fun s s1 s2 => by
        have hgt : ∀ c, ¬ s ||| 2 ^ c = t + 1 := fun c z => by have := sub_le (sub_or_l s (2 ^ c)); omega
        have := i3 s s1 s2
        unfold isCv at this ⊢
        rw [ne1 s (by omega)]
        simp only [fun c => ne1 (s ||| 2 ^ c) (hgt c)]
        exact this) (up1_le i4 (by omega)) (Or.inr ⟨if_pos rfl, fun c hc => by omega⟩)
      refine ⟨h', cv', z1, fun o2 o3 => sn_L_findCovered_5 _ _ _ ?_⟩
      simp only [vc_L_findCovered_5, qi_push, qi_pushl, qi_iload, qi_lload, qi_aload, qi_istore, qi_astore, qi_lstore, qi_iinc, qi_iadd, qi_isub, qi_imul, qi_iand, qi_ior, qi_ixor, qi_ishl, qi_ishr, qi_iushr, qi_idiv, qi_irem, qi_lor, qi_lmul, qi_ladd, qi_lsub, qi_land, qi_lshl, qi_lshr, qi_i2l, qi_l2i, qi_i2c, qi_lcmp, qi_dup, qi_dup2, qi_pop, qi_if_eq, qi_icmp_eq, qi_if_ne, qi_icmp_ne, qi_if_lt, qi_icmp_lt, qi_if_ge, qi_icmp_ge, qi_if_gt, qi_icmp_gt, qi_if_le, qi_icmp_le, qi_sw, qi_get, qi_put, qi_iald, qi_lald, qi_aald, qi_iast, qi_zast, qi_cast, qi_last, qi_aast, qi_alen, qi_new, qi_newa, qi_newq, qi_obj, qi_invS, qi_invV, qi_invI, qi_iret, qi_zret, qi_lret, qi_vret, qi_acopy, qi_max, qi_min, at_o, at_i, at_l, at_q, at_a, lget, lset, lclr, lnon, lnth, spl, shrt, rpush, true_and, and_true, List.set, List.length, Nat.reduceAdd, Nat.reduceLT, Nat.reduceLeDiff, Nat.reduceEqDiff, Nat.reduceSub, o0, o10, hv, ct]
      rw [upb cv (t + 1) 0 (by omega), ek2]
      exact ⟨fun z => absurd z (nI_nle (by omega) (by omega)), fun _ => z2 _⟩
  have e10 : va_up F 10 (F 10) = F := funext fun x => by unfold va_up; by_cases z : x = 10 <;> simp [z]
  obtain ⟨h', cv', ⟨z1, z2, z3, z4⟩, z5⟩ := loop (2 ^ n - 1) (by omega) h (F 10) (by rw [e10]; exact hp) frm.rfl' (fun s s1 s2 => by omega) (hF 10)
  refine ⟨h', cv', MX.of (lv := [some (.ref a), none, none, none]) 3 rfl (by decide) (Nat.le_of_ble_eq_true rfl) (sn_L_findCovered_0 _ _ _ ?_), z1, z2, z3, z4⟩
  have e0 := hp.1
  simp only [vc_L_findCovered_0, qi_push, qi_pushl, qi_iload, qi_lload, qi_aload, qi_istore, qi_astore, qi_lstore, qi_iinc, qi_iadd, qi_isub, qi_imul, qi_iand, qi_ior, qi_ixor, qi_ishl, qi_ishr, qi_iushr, qi_idiv, qi_irem, qi_lor, qi_lmul, qi_ladd, qi_lsub, qi_land, qi_lshl, qi_lshr, qi_i2l, qi_l2i, qi_i2c, qi_lcmp, qi_dup, qi_dup2, qi_pop, qi_if_eq, qi_icmp_eq, qi_if_ne, qi_icmp_ne, qi_if_lt, qi_icmp_lt, qi_if_ge, qi_icmp_ge, qi_if_gt, qi_icmp_gt, qi_if_le, qi_icmp_le, qi_sw, qi_get, qi_put, qi_iald, qi_lald, qi_aald, qi_iast, qi_zast, qi_cast, qi_last, qi_aast, qi_alen, qi_new, qi_newa, qi_newq, qi_obj, qi_invS, qi_invV, qi_invI, qi_iret, qi_zret, qi_lret, qi_vret, qi_acopy, qi_max, qi_min, at_o, at_i, at_l, at_q, at_a, lget, lset, lclr, lnon, lnth, spl, shrt, rpush, true_and, and_true, List.set, List.length, Nat.reduceAdd, Nat.reduceLT, Nat.reduceLeDiff, Nat.reduceEqDiff, Nat.reduceSub, e0]
  exact z5 _ _
end LN
