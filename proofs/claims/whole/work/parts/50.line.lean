/-! THE CLASS: its picture. -/
/-- cells lo to hi stay -/
def smr (h h' : hc_H) (lo hi : Nat) : Prop := ∀ a, lo ≤ a → a < hi → h'.1 a = h.1 a
theorem frm.s {h h' : hc_H} {b k lo hi : Nat} (f : frm h h' b k) (hd : hi ≤ b ∨ b + k ≤ lo) : smr h h' lo hi := fun a h1 h2 => f.2 a (by omega)
theorem frY.s {h h' : hc_H} {q y z0 lo hi : Nat} (f : frY h h' q y z0) (h1 : hi ≤ z0) (h2 : hi ≤ q ∨ q + 6 ≤ lo) (h3 : hi ≤ y ∨ y + 16 ≤ lo) : smr h h' lo hi := fun a a1 a2 => f a (by omega) (by omega) (by omega)
theorem frW.s {h h' : hc_H} {y z0 lo hi : Nat} (f : frW h h' y z0) (h1 : hi ≤ z0) (h3 : hi ≤ y ∨ y + 16 ≤ lo) : smr h h' lo hi := fun a a1 a2 => f a (by omega) (by omega)
theorem smr.trans {h h' h'' : hc_H} {lo hi : Nat} (f : smr h h' lo hi) (g : smr h' h'' lo hi) : smr h h'' lo hi := fun a h1 h2 => (g a h1 h2).trans (f a h1 h2)
theorem isPl.keepS {h h' : hc_H} {p n : Nat} {c : Int32} {T B A J S : Nat → Nat} (hp : isPl h p n c T B A J S) (f : smr h h' p (p + 6)) : isPl h' p n c T B A J S := by
  obtain ⟨e0, e1, e2, e3, e4, e5⟩ := hp
  refine ⟨?_, ?_, ?_, ?_, ?_, ?_⟩ <;> rw [f _ (by omega) (by omega)] <;> assumption
theorem isSc.keepS {h h' : hc_H} {a len : Nat} {L : Nat → Nat} (hp : isSc h a len L) (f : smr h h' a (a + 2)) : isSc h' a len L := by
  obtain ⟨e0, e1⟩ := hp
  exact ⟨by rw [f _ (by omega) (by omega)]; exact e0, by rw [f _ (by omega) (by omega)]; exact e1⟩
theorem isPa.keepS {h h' : hc_H} {a z : Nat} {K : Nat → Nat} {V : Nat → pv} (hp : isPa h a z K V) (f : smr h h' a (a + 38)) : isPa h' a z K V := by
  obtain ⟨e0, e1, e2, e3, e4⟩ := hp
  refine ⟨by rw [f _ (by omega) (by omega)]; exact e0, by rw [f _ (by omega) (by omega)]; exact e1, e2, e3, fun i hi => ?_⟩
  obtain ⟨m, m1, m2⟩ := e2 i hi
  exact isPl.keepS (e4 i hi) (fun x h1 h2 => f x (by omega) (by omega))
theorem isQ.keepS {h h' : hc_H} {q : Nat} (hq : isQ h q) (f : smr h h' q (q + 6)) : isQ h' q := by
  obtain ⟨n, c, T, B, A, J, S, h1⟩ := hq
  exact ⟨n, c, T, B, A, J, S, h1.keepS f⟩
/-- STUDY, with what it has found out -/
def isStd (h : hc_H) (y p q z0 sl n C : Nat) (T B A J : Nat → Nat) : Prop := ∃ so bo st lc bp bc H K, SI h y p q z0 sl n C T B A J so bo st lc bp bc H K ∧ so ≤ 1 ∧ bo ≤ 1 ∧ (so = 1 → slv n C T B A J st lc bp H) ∧ (bo = 1 → so = 1 ∧ ∃ P, bndS n C T B A J P ∧ isBL bc K (blist P n n) ∧ (blist P n n).length ≤ 66)
theorem SI.keepS {h h' : hc_H} {y p q z0 sl n C so bo lc bp bc : Nat} {st : Int32} {T B A J H K : Nat → Nat} (hl : layY p q y z0) (hS : SI h y p q z0 sl n C T B A J so bo st lc bp bc H K) (f : frm h h' 0 y) : SI h' y p q z0 sl n C T B A J so bo st lc bp bc H K := hS.keep hl f (by omega)
theorem isStd.keepS {h h' : hc_H} {y p q z0 sl n C : Nat} {T B A J : Nat → Nat} (hl : layY p q y z0) (hS : isStd h y p q z0 sl n C T B A J) (f : frm h h' 0 y) : isStd h' y p q z0 sl n C T B A J := by
  obtain ⟨so, bo, st, lc, bp, bc, H, K, h1, h2⟩ := hS
  exact ⟨so, bo, st, lc, bp, bc, H, K, h1.keepS hl f, h2⟩
/-- forgotten: of any plan -/
theorem SI.forgot {h : hc_H} {y p q z0 sl n C n' C' so bo lc bp bc : Nat} {st : Int32} {T B A J T' B' A' J' H K : Nat → Nat} (hl : layY p q y z0) (hS : SI h y p q z0 sl n C T B A J so bo st lc bp bc H K) : ∃ h', MA M_Y_forget [.ref y] h none h' ∧ isStd h' y p q z0 sl n' C' T' B' A' J' ∧ frm h h' y 1 := by
  obtain ⟨ln, N, me, hy, hm1, fx, wh, c, us, F, G, h1, h2, h3⟩ := hS
  obtain ⟨b1, b2, b3⟩ := hy.le hl
  obtain ⟨h', c1, c2, c3⟩ := c_Y_forget hy
  exact ⟨h', c1, ⟨0, 0, st, lc, bp, bc, H, K, ⟨ln, N, 0, c2, Nat.zero_le _, fx, wh, c, us, F, G, h1.keep c3 (by omega), h2, fun z => absurd z (by decide)⟩, Nat.zero_le _, Nat.zero_le _, fun z => absurd z (by decide), fun z => absurd z (by decide)⟩, c3⟩
theorem isStd.forget {h : hc_H} {y p q z0 sl n C : Nat} {T B A J : Nat → Nat} (n' C' : Nat) (T' B' A' J' : Nat → Nat) (hl : layY p q y z0) (hS : isStd h y p q z0 sl n C T B A J) : ∃ h', MA M_Y_forget [.ref y] h none h' ∧ isStd h' y p q z0 sl n' C' T' B' A' J' ∧ frm h h' y 1 := by
  obtain ⟨so, bo, st, lc, bp, bc, H, K, h1, -⟩ := hS
  exact h1.forgot hl
theorem isStd.ob {h : hc_H} {y p q z0 sl n C : Nat} {T B A J : Nat → Nat} (hS : isStd h y p q z0 sl n C T B A J) : ∃ fs, h.1 y = some (.inr (4, fs)) := by
  obtain ⟨so, bo, st, lc, bp, bc, H, K, ⟨ln, N, me, h1, -⟩, -⟩ := hS
  exact ⟨_, h1.1⟩
abbrev blO (b : Nat) : hc_C := .inr (5, [.ref (b + 1), .ref (b + 3), .ref (b + 9), .ref (b + 15), .ref (b + 53)])
/-- THE CLASS at b -/
def isB (h : hc_H) (b z0 sl len : Nat) (L : Nat → Nat) (n C : Nat) (T B A J S : Nat → Nat) (z : Nat) (V : Nat → pv) : Prop :=
  h.1 b = some (blO b) ∧ isSc h (b + 1) len L ∧ isPl h (b + 3) n (nI C) T B A J S ∧ isQ h (b + 9) ∧ (∃ K, isPa h (b + 15) z K V) ∧ isStd h (b + 53) (b + 3) (b + 9) z0 sl n C T B A J
/-- only the class's own cells differ -/
def frC (h h' : hc_H) (b z0 : Nat) : Prop := ∀ a, a < z0 → ¬ (b ≤ a ∧ a < b + 69) → h'.1 a = h.1 a
theorem frC.rfl' {h : hc_H} {b z0 : Nat} : frC h h b z0 := fun _ _ _ => rfl
theorem frC.trans {h h' h'' : hc_H} {b z0 : Nat} (f : frC h h' b z0) (g : frC h' h'' b z0) : frC h h'' b z0 := fun a h1 h2 => (g a h1 h2).trans (f a h1 h2)
theorem frm.toC {h h' : hc_H} {a k b z0 : Nat} (f : frm h h' a k) (hd : b ≤ a ∧ a + k ≤ b + 69) : frC h h' b z0 := fun x h1 h2 => f.2 x (fun z => by omega)
theorem frW.toC {h h' : hc_H} {b z0 : Nat} (f : frW h h' (b + 53) z0) : frC h h' b z0 := fun x h1 h2 => f x h1 (by omega)
theorem frY.toC {h h' : hc_H} {b z0 : Nat} (f : frY h h' (b + 9) (b + 53) z0) : frC h h' b z0 := fun x h1 h2 => f x h1 (by omega) (by omega)
theorem lay_b {b z0 : Nat} (hz : b + 69 ≤ z0) : layY (b + 3) (b + 9) (b + 53) z0 := ⟨by omega, by omega, by omega⟩
section BL
variable {h : hc_H} {b z0 sl len n C z : Nat} {L T B A J S : Nat → Nat} {V : Nat → pv}
/-- Study has worked -/
theorem isB.stud {h' : hc_H} (hz : b + 69 ≤ z0) (hb : isB h b z0 sl len L n C T B A J S z V) (f : frY h h' (b + 9) (b + 53) z0) (hq : isQ h' (b + 9)) (hs : isStd h' (b + 53) (b + 3) (b + 9) z0 sl n C T B A J) : isB h' b z0 sl len L n C T B A J S z V := by
  obtain ⟨e0, e1, e2, e3, ⟨K, e4⟩, e5⟩ := hb
  exact ⟨by rw [f _ (by omega) (by omega) (by omega)]; exact e0, e1.keepS (f.s (by omega) (by omega) (by omega)), e2.keepS (f.s (by omega) (by omega) (by omega)), hq, ⟨K, e4.keepS (f.s (by omega) (by omega) (by omega))⟩, hs⟩
theorem frm.wide {h h' : hc_H} {a k b l : Nat} (f : frm h h' a k) (h1 : b ≤ a) (h2 : a + k ≤ b + l) : frm h h' b l := f.mono h1 h2
/-- the text has changed -/
theorem isB.text {h' : hc_H} {len' : Nat} {L' : Nat → Nat} (hz : b + 69 ≤ z0) (hb : isB h b z0 sl len L n C T B A J S z V) (f : frm h h' (b + 1) 2) (hs : isSc h' (b + 1) len' L') : isB h' b z0 sl len' L' n C T B A J S z V := by
  obtain ⟨e0, e1, e2, e3, ⟨K, e4⟩, e5⟩ := hb
  exact ⟨by rw [f.2 _ (by omega)]; exact e0, hs, e2.keepS (f.s (by omega)), e3.keepS (f.s (by omega)), ⟨K, e4.keepS (f.s (by omega))⟩, e5.keepS (lay_b hz) (f.wide (by omega) (by omega))⟩
/-- the draft has changed -/
theorem isB.draft {h' : hc_H} (hz : b + 69 ≤ z0) (hb : isB h b z0 sl len L n C T B A J S z V) (f : frm h h' (b + 9) 6) (hq : isQ h' (b + 9)) : isB h' b z0 sl len L n C T B A J S z V := by
  obtain ⟨e0, e1, e2, e3, ⟨K, e4⟩, e5⟩ := hb
  exact ⟨by rw [f.2 _ (by omega)]; exact e0, e1.keepS (f.s (by omega)), e2.keepS (f.s (by omega)), hq, ⟨K, e4.keepS (f.s (by omega))⟩, e5.keepS (lay_b hz) (f.wide (by omega) (by omega))⟩
/-- what is put has changed; Study isn't asked -/
theorem isB.spots {h' : hc_H} {S' : Nat → Nat} (hz : b + 69 ≤ z0) (hb : isB h b z0 sl len L n C T B A J S z V) (f : frm h h' (b + 3) 6) (hp : isPl h' (b + 3) n (nI C) T B A J S') : isB h' b z0 sl len L n C T B A J S' z V := by
  obtain ⟨e0, e1, e2, e3, ⟨K, e4⟩, e5⟩ := hb
  exact ⟨by rw [f.2 _ (by omega)]; exact e0, e1.keepS (f.s (by omega)), hp, e3.keepS (f.s (by omega)), ⟨K, e4.keepS (f.s (by omega))⟩, e5.keepS (lay_b hz) (f.wide (by omega) (by omega))⟩
/-- the past has changed -/
theorem isB.past {h' : hc_H} {z' : Nat} {V' : Nat → pv} {K' : Nat → Nat} (hz : b + 69 ≤ z0) (hb : isB h b z0 sl len L n C T B A J S z V) (f : frm h h' (b + 15) 38) (hp : isPa h' (b + 15) z' K' V') : isB h' b z0 sl len L n C T B A J S z' V' := by
  obtain ⟨e0, e1, e2, e3, ⟨K, e4⟩, e5⟩ := hb
  exact ⟨by rw [f.2 _ (by omega)]; exact e0, e1.keepS (f.s (by omega)), e2.keepS (f.s (by omega)), e3.keepS (f.s (by omega)), ⟨K', hp⟩, e5.keepS (lay_b hz) (f.wide (by omega) (by omega))⟩
/-- the plan has changed, Study has forgotten -/
theorem isB.plan {h' h'' : hc_H} {n' C' : Nat} {T' B' A' J' S' : Nat → Nat} (hz : b + 69 ≤ z0) (hb : isB h b z0 sl len L n C T B A J S z V) (f : frm h h' (b + 3) 6) (hp : isPl h' (b + 3) n' (nI C') T' B' A' J' S') (g : frm h' h'' (b + 53) 1) (hs : isStd h'' (b + 53) (b + 3) (b + 9) z0 sl n' C' T' B' A' J') : isB h'' b z0 sl len L n' C' T' B' A' J' S' z V := by
  obtain ⟨e0, e1, e2, e3, ⟨K, e4⟩, e5⟩ := hb
  exact ⟨by rw [g.2 _ (by omega), f.2 _ (by omega)]; exact e0, e1.keepS ((f.s (by omega)).trans (g.s (by omega))), hp.keepS (g.s (by omega)), e3.keepS ((f.s (by omega)).trans (g.s (by omega))), ⟨K, e4.keepS ((f.s (by omega)).trans (g.s (by omega)))⟩, hs⟩
theorem i2c_n {v : Nat} (hv : v < 65536) : ((nI v).toUInt32 % 65536).toInt32 = nI v := by
  apply Int32.toBitVec_inj.mp
  show (BitVec.ofNat 32 v) % 65536#32 = BitVec.ofNat 32 v
  apply BitVec.eq_of_toNat_eq
  rw [BitVec.toNat_umod]
  simp
  omega
theorem c_B_wipe (hz : b + 69 ≤ z0) (hb : isB h b z0 sl len L n C T B A J S z V) : ∃ h', MA M_B_wipe [.ref b] h (some (.int (nI len))) h' ∧ isB h' b z0 sl 0 L n C T B A J S z V ∧ frC h h' b z0 := by
  obtain ⟨h', c1, c2, c3⟩ := c_S_clear hb.2.1
  refine ⟨h', MX.of (lv := [some (.ref b)]) 0 rfl (by decide) (Nat.le_of_ble_eq_true rfl) (sn_B_wipe_0 _ _ _ ?_), hb.text hz c3 c2, c3.toC (by omega)⟩
  have o0 := hb.1
  have o1 := hb.2.1.1
  simp only [vc_B_wipe_0, qi_push, qi_pushl, qi_iload, qi_lload, qi_aload, qi_istore, qi_astore, qi_lstore, qi_iinc, qi_iadd, qi_isub, qi_imul, qi_iand, qi_ior, qi_ixor, qi_ishl, qi_ishr, qi_iushr, qi_idiv, qi_irem, qi_lor, qi_lmul, qi_ladd, qi_lsub, qi_land, qi_lshl, qi_lshr, qi_i2l, qi_l2i, qi_i2c, qi_lcmp, qi_dup, qi_dup2, qi_pop, qi_if_eq, qi_icmp_eq, qi_if_ne, qi_icmp_ne, qi_if_lt, qi_icmp_lt, qi_if_ge, qi_icmp_ge, qi_if_gt, qi_icmp_gt, qi_if_le, qi_icmp_le, qi_sw, qi_get, qi_put, qi_iald, qi_lald, qi_aald, qi_iast, qi_zast, qi_cast, qi_last, qi_aast, qi_alen, qi_new, qi_newa, qi_newq, qi_obj, qi_invS, qi_invV, qi_invI, qi_iret, qi_zret, qi_lret, qi_vret, qi_acopy, qi_max, qi_min, at_o, at_i, at_l, at_q, at_a, lget, lset, lclr, lnon, lnth, spl, shrt, rpush, true_and, and_true, List.set, List.length, Nat.reduceAdd, Nat.reduceLT, Nat.reduceLeDiff, Nat.reduceEqDiff, Nat.reduceSub, o0, o1]
  refine ⟨_, _, c1, ?_⟩
  simp only [qi_push, qi_pushl, qi_iload, qi_lload, qi_aload, qi_istore, qi_astore, qi_lstore, qi_iinc, qi_iadd, qi_isub, qi_imul, qi_iand, qi_ior, qi_ixor, qi_ishl, qi_ishr, qi_iushr, qi_idiv, qi_irem, qi_lor, qi_lmul, qi_ladd, qi_lsub, qi_land, qi_lshl, qi_lshr, qi_i2l, qi_l2i, qi_i2c, qi_lcmp, qi_dup, qi_dup2, qi_pop, qi_if_eq, qi_icmp_eq, qi_if_ne, qi_icmp_ne, qi_if_lt, qi_icmp_lt, qi_if_ge, qi_icmp_ge, qi_if_gt, qi_icmp_gt, qi_if_le, qi_icmp_le, qi_sw, qi_get, qi_put, qi_iald, qi_lald, qi_aald, qi_iast, qi_zast, qi_cast, qi_last, qi_aast, qi_alen, qi_new, qi_newa, qi_newq, qi_obj, qi_invS, qi_invV, qi_invI, qi_iret, qi_zret, qi_lret, qi_vret, qi_acopy, qi_max, qi_min, at_o, at_i, at_l, at_q, at_a, lget, lset, lclr, lnon, lnth, spl, shrt, rpush, true_and, and_true, List.set, List.length, Nat.reduceAdd, Nat.reduceLT, Nat.reduceLeDiff, Nat.reduceEqDiff, Nat.reduceSub]
theorem c_B_fault (hz : b + 69 ≤ z0) (hb : isB h b z0 sl len L n C T B A J S z V) (hl : len ≤ 200) (hL : ∀ j, L j < 65536) : ∃ h', MA M_B_fault [.ref b] h (some (.int (ftI (rdC L len 200 0 pv0).1))) h' ∧ isB h' b z0 sl len L n C T B A J S z V ∧ frC h h' b z0 := by
  obtain ⟨n2, c2, T2, B2, A2, J2, S2, hq⟩ := hb.2.2.2.1
  obtain ⟨h', v', c1, c2, c3, c4, c5⟩ := c_S_readInto (v := (n2, c2, T2, B2, A2, J2, S2)) hb.2.1 hl hL hq (by omega)
  refine ⟨h', MX.of (lv := [some (.ref b)]) 0 rfl (by decide) (Nat.le_of_ble_eq_true rfl) (sn_B_fault_0 _ _ _ ?_), hb.draft hz c4 ⟨_, _, _, _, _, _, _, c2⟩, c4.toC (by omega)⟩
  have o0 := hb.1
  have o1 := hb.2.1.1
  simp only [vc_B_fault_0, qi_push, qi_pushl, qi_iload, qi_lload, qi_aload, qi_istore, qi_astore, qi_lstore, qi_iinc, qi_iadd, qi_isub, qi_imul, qi_iand, qi_ior, qi_ixor, qi_ishl, qi_ishr, qi_iushr, qi_idiv, qi_irem, qi_lor, qi_lmul, qi_ladd, qi_lsub, qi_land, qi_lshl, qi_lshr, qi_i2l, qi_l2i, qi_i2c, qi_lcmp, qi_dup, qi_dup2, qi_pop, qi_if_eq, qi_icmp_eq, qi_if_ne, qi_icmp_ne, qi_if_lt, qi_icmp_lt, qi_if_ge, qi_icmp_ge, qi_if_gt, qi_icmp_gt, qi_if_le, qi_icmp_le, qi_sw, qi_get, qi_put, qi_iald, qi_lald, qi_aald, qi_iast, qi_zast, qi_cast, qi_last, qi_aast, qi_alen, qi_new, qi_newa, qi_newq, qi_obj, qi_invS, qi_invV, qi_invI, qi_iret, qi_zret, qi_lret, qi_vret, qi_acopy, qi_max, qi_min, at_o, at_i, at_l, at_q, at_a, lget, lset, lclr, lnon, lnth, spl, shrt, rpush, true_and, and_true, List.set, List.length, Nat.reduceAdd, Nat.reduceLT, Nat.reduceLeDiff, Nat.reduceEqDiff, Nat.reduceSub, o0, o1]
  refine ⟨_, _, c1, ?_⟩
  simp only [qi_push, qi_pushl, qi_iload, qi_lload, qi_aload, qi_istore, qi_astore, qi_lstore, qi_iinc, qi_iadd, qi_isub, qi_imul, qi_iand, qi_ior, qi_ixor, qi_ishl, qi_ishr, qi_iushr, qi_idiv, qi_irem, qi_lor, qi_lmul, qi_ladd, qi_lsub, qi_land, qi_lshl, qi_lshr, qi_i2l, qi_l2i, qi_i2c, qi_lcmp, qi_dup, qi_dup2, qi_pop, qi_if_eq, qi_icmp_eq, qi_if_ne, qi_icmp_ne, qi_if_lt, qi_icmp_lt, qi_if_ge, qi_icmp_ge, qi_if_gt, qi_icmp_gt, qi_if_le, qi_icmp_le, qi_sw, qi_get, qi_put, qi_iald, qi_lald, qi_aald, qi_iast, qi_zast, qi_cast, qi_last, qi_aast, qi_alen, qi_new, qi_newa, qi_newq, qi_obj, qi_invS, qi_invV, qi_invI, qi_iret, qi_zret, qi_lret, qi_vret, qi_acopy, qi_max, qi_min, at_o, at_i, at_l, at_q, at_a, lget, lset, lclr, lnon, lnth, spl, shrt, rpush, true_and, and_true, List.set, List.length, Nat.reduceAdd, Nat.reduceLT, Nat.reduceLeDiff, Nat.reduceEqDiff, Nat.reduceSub]
end BL
