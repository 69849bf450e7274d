/-! THE LAW: the script, which was there before us. -/
def phL (q v : Nat) (f : Option Nat) (b0 L : Nat) (xs : Nat → Int32) (bs : Nat) (U : State) : Prop := phS q v f bs U ∧ va_T .int b0 L (fun j => .int (xs j)) (hc_A bs) U U.heap
theorem phL_ok {q v : Nat} {f : Option Nat} {b0 L : Nat} {xs : Nat → Int32} : hc_Ph (phL q v f b0 L xs) :=
  ⟨fun bs u U hv hh h => ⟨phS_ok.1 bs u U hv hh h.1, (va_T.moved (by rw [hv]; exact Vm.Alike.refl _) h.2).kept (fun a _ ha => hh a (Nat.not_le.mp ha))⟩, fun bs u U hw hh h => ⟨phS_ok.2 bs u U hw hh h.1, (va_T.moved hw.alike h.2).kept (fun a _ ha => hh a (Nat.not_le.mp ha))⟩⟩
section QL
variable {q v : Nat} {f : Option Nat} {b0 L : Nat} {xs : Nat → Int32} {M : hc_M} {h0 hf : hc_H} {r : Option Value} {pc : Nat} {K : hc_K}
def qi_alL (b0 L : Nat) (K : hc_K) : hc_L → List Value → hc_H → Prop
  | lv, .ref a :: st, h => a = b0 ∧ K lv (.int (nI L) :: st) h
  | _, _, _ => False
theorem qs_alL (hd : decode (mC M) pc = .ok (.arraylength, 1)) (kk : qk (phL q v f b0 L xs) M h0 hf r (pc + 1) K) : qk (phL q v f b0 L xs) M h0 hf r pc (qi_alL b0 L K) := by
  intro lv st h hi
  unfold qi_alL at hi
  split at hi
  · obtain ⟨rfl, hi⟩ := hi
    have k1 := kk _ _ _ hi
    refine ⟨k1.1, fun p l e s m args below meth c D tc bs X g1 g2 H locs ls hW hS hl => ?_⟩
    obtain ⟨hx, hb, -, -, -, -, -, -, -, -, -, hph⟩ := id X
    exact va_tlen hx hb hph.2 hS rfl hd (k1.2 p l e s m args below meth c D tc bs X g1 g2 H locs ls hW hS hl)
  · exact hi.elim
def qi_ldL (b0 L : Nat) (xs : Nat → Int32) (K : hc_K) : hc_L → List Value → hc_H → Prop
  | lv, .int i :: .ref a :: st, h => a = b0 ∧ vp_in i L ∧ K lv (.int (xs i.toNatClampNeg) :: st) h
  | _, _, _ => False
theorem qs_ldL (hd : decode (mC M) pc = .ok (.iaload, 1)) (kk : qk (phL q v f b0 L xs) M h0 hf r (pc + 1) K) : qk (phL q v f b0 L xs) M h0 hf r pc (qi_ldL b0 L xs K) := by
  intro lv st h hi
  unfold qi_ldL at hi
  split at hi
  · obtain ⟨rfl, hin, hi⟩ := hi
    have k1 := kk _ _ _ hi
    refine ⟨k1.1, fun p l e s m args below meth c D tc bs X g1 g2 H locs ls hW hS hl => ?_⟩
    obtain ⟨hx, hb, -, -, -, -, -, -, -, -, -, hph⟩ := id X
    exact va_ti hx hb hph.2 hS hin rfl hd (k1.2 p l e s m args below meth c D tc bs X g1 g2 H locs ls hW hS hl)
  · exact hi.elim
end QL
