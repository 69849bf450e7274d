/-! THE CLASS'S OWN TEXT: a String that was there before us; what its methods read of it. -/
def lF : List Nat := [99, 50, 48, 59, 116, 54, 59, 116, 57, 59, 116, 52, 59, 116, 53, 59, 116, 49, 49, 59, 116, 51, 59, 116, 56, 59, 116, 55, 59, 116, 49, 48, 59, 112, 97, 99, 59, 112, 98, 100, 59, 112, 99, 102, 59, 112, 100, 101, 59, 112, 102, 103, 59, 112, 101, 104, 59, 112, 103, 105, 59, 112, 104, 105, 59, 120, 97, 98, 59, 106, 99, 102, 59]
def txF : String := "c20;t6;t9;t4;t5;t11;t3;t8;t7;t10;pac;pbd;pcf;pde;pfg;peh;pgi;phi;xab;jcf;"
def ltF (j : Nat) : Nat := lF.getD j 0
theorem ltF_le : ∀ j, ltF j ≤ 120 := by
  intro j
  by_cases h : j < 73
  · exact (show ∀ j, j < 73 → ltF j ≤ 120 by decide +kernel) j h
  · unfold ltF
    rw [List.getD_eq_getElem?_getD, List.getElem?_eq_none (by show lF.length ≤ j; have : lF.length = 73 := by decide +kernel
                                                              omega)]
    exact Nat.zero_le _
/-- the text at q, its bytes at v, the formatter at f: all older than bs -/
def phS (q v : Nat) (f : Option Nat) (bs : Nat) (U : State) : Prop := vk_R "BalancedLine" 33 txF q U ∧ va_O "java/lang/String" q (hc_A bs) U U.heap ∧ va_OF "java/lang/String" "coder" "B" (.int 0) q (hc_A bs) U U.heap ∧ va_OF "java/lang/String" "value" "[B" (.ref v) q (hc_A bs) U U.heap ∧ va_T .byte v 73 (fun j => .int (nI (ltF j))) (hc_A bs) U U.heap ∧ va_Z "java/lang/String" "COMPACT_STRINGS" "Z" (.int 1) (hc_A bs) U U.heap ∧ va_Z "jdk/internal/util/Preconditions" "SIOOBE_FORMATTER" "Ljava/util/function/BiFunction;" (va_rf f) (hc_A bs) U U.heap
theorem phS.mv {q v : Nat} {f : Option Nat} {bs : Nat} {u U : State} (ha : u.vm.Alike U.vm) (hr : vk_R "BalancedLine" 33 txF q U) (hh : ∀ a : Nat, a < bs → U.heap[a]? = u.heap[a]?) (h : phS q v f bs u) : phS q v f bs U := by
  obtain ⟨-, h2, h3, h4, h5, h6, h7⟩ := h
  have k : ∀ a : Nat, a < u.heap.size → ¬ hc_A bs a → U.heap[a]? = u.heap[a]? := fun a _ ha => hh a (Nat.not_le.mp ha)
  exact ⟨hr, (va_O.moved ha h2).kept k, (va_OF.moved ha h3).kept k, (va_OF.moved ha h4).kept k, (va_T.moved ha h5).kept k, (va_Z.moved ha h6).kept k, (va_Z.moved ha h7).kept k⟩
theorem phS_ok {q v : Nat} {f : Option Nat} : hc_Ph (phS q v f) :=
  ⟨fun bs u U hv hh h => h.mv (by rw [hv]; exact Vm.Alike.refl _) (vk_R.same hv h.1) hh, fun bs u U hw hh h => h.mv hw.alike (vk_R.warm hw h.1) hh⟩
section QT
variable {q v : Nat} {f : Option Nat} {M : hc_M} {h0 hf : hc_H} {r : Option Value} {pc : Nat} {K : hc_K}
/-- the text itself, a static field -/
def qi_val (w : Value) (K : hc_K) (lv : hc_L) (st : List Value) (h : hc_H) : Prop := K lv (w :: st) h
theorem qs_ldS (hd : decode (mC M) pc = .ok (.ldc 33, 2)) (hM : (mN M).cls = "BalancedLine") (kk : qk (phS q v f) M h0 hf r (pc + 2) K) : qk (phS q v f) M h0 hf r pc (qi_val (.ref q) K) := by
  intro lv st h hi
  have k1 := kk _ _ _ hi
  refine ⟨k1.1, fun p l e s m args below meth c D tc bs X g1 g2 H locs ls hW hS hl => ?_⟩
  obtain ⟨hx, hb, -, -, -, hown, -, -, -, -, -, hph⟩ := id X
  rw [hM] at hown
  exact va_ldcS hx hb hown hph.1 hd (k1.2 p l e s m args below meth c D tc bs X g1 g2 H locs ls hW hS hl)
theorem qs_gstC (hd : decode (mC M) pc = .ok (.getstatic 38, 3)) (hM : (mN M).cls = "java/lang/String") (hw : Cond.fieldLink "java/lang/String" 38 "java/lang/String" "COMPACT_STRINGS" "Z" ∈ lw_g) (kk : qk (phS q v f) M h0 hf r (pc + 3) K) : qk (phS q v f) M h0 hf r pc (qi_val (.int 1) K) := by
  intro lv st h hi
  have k1 := kk _ _ _ hi
  refine ⟨k1.1, fun p l e s m args below meth c D tc bs X g1 g2 H locs ls hW hS hl => ?_⟩
  obtain ⟨hx, hb, -, -, hts, hown, -, -, -, -, -, hph⟩ := id X
  rw [hM] at hown
  exact va_gets hx hb hph.2.2.2.2.2.1 hS hown (hts _ (List.mem_cons_of_mem _ hw)) (fun _ h9 => h9) hd (k1.2 p l e s m args below meth c D tc bs X g1 g2 H locs ls hW hS hl)
theorem qs_gstF (hd : decode (mC M) pc = .ok (.getstatic 1053, 3)) (hM : (mN M).cls = "java/lang/String") (hw : Cond.fieldLink "java/lang/String" 1053 "jdk/internal/util/Preconditions" "SIOOBE_FORMATTER" "Ljava/util/function/BiFunction;" ∈ lw_g) (kk : qk (phS q v f) M h0 hf r (pc + 3) K) : qk (phS q v f) M h0 hf r pc (qi_val (va_rf f) K) := by
  intro lv st h hi
  have k1 := kk _ _ _ hi
  refine ⟨k1.1, fun p l e s m args below meth c D tc bs X g1 g2 H locs ls hW hS hl => ?_⟩
  obtain ⟨hx, hb, -, -, hts, hown, -, -, -, -, -, hph⟩ := id X
  rw [hM] at hown
  exact va_gets hx hb hph.2.2.2.2.2.2 hS hown (hts _ (List.mem_cons_of_mem _ hw)) (fun _ h9 => h9) hd (k1.2 p l e s m args below meth c D tc bs X g1 g2 H locs ls hW hS hl)
/-- a field of the text -/
def qi_gtS (q : Nat) (w : Value) (K : hc_K) : hc_L → List Value → hc_H → Prop
  | lv, .ref a :: st, h => a = q ∧ K lv (w :: st) h
  | _, _, _ => False
theorem qs_gtV (hd : decode (mC M) pc = .ok (.getfield 9, 3)) (hM : (mN M).cls = "java/lang/String") (hw : Cond.fieldLink "java/lang/String" 9 "java/lang/String" "value" "[B" ∈ lw_g) (kk : qk (phS q v f) M h0 hf r (pc + 3) K) : qk (phS q v f) M h0 hf r pc (qi_gtS q (.ref v) K) := by
  intro lv st h hi
  unfold qi_gtS at hi
  split at hi
  · obtain ⟨rfl, hi⟩ := hi
    have k1 := kk _ _ _ hi
    refine ⟨k1.1, fun p l e s m args below meth c D tc bs X g1 g2 H locs ls hW hS hl => ?_⟩
    obtain ⟨hx, hb, -, -, hts, hown, -, -, -, -, -, hph⟩ := id X
    rw [hM] at hown
    exact vk_getf hx hb hph.2.2.2.1 hS hown (hts _ (List.mem_cons_of_mem _ hw)) (fun _ h9 => h9) hd (k1.2 p l e s m args below meth c D tc bs X g1 g2 H locs ls hW hS hl)
  · exact hi.elim
theorem qs_gtC (hd : decode (mC M) pc = .ok (.getfield 15, 3)) (hM : (mN M).cls = "java/lang/String") (hw : Cond.fieldLink "java/lang/String" 15 "java/lang/String" "coder" "B" ∈ lw_g) (kk : qk (phS q v f) M h0 hf r (pc + 3) K) : qk (phS q v f) M h0 hf r pc (qi_gtS q (.int 0) K) := by
  intro lv st h hi
  unfold qi_gtS at hi
  split at hi
  · obtain ⟨rfl, hi⟩ := hi
    have k1 := kk _ _ _ hi
    refine ⟨k1.1, fun p l e s m args below meth c D tc bs X g1 g2 H locs ls hW hS hl => ?_⟩
    obtain ⟨hx, hb, -, -, hts, hown, -, -, -, -, -, hph⟩ := id X
    rw [hM] at hown
    exact vk_getf hx hb hph.2.2.1 hS hown (hts _ (List.mem_cons_of_mem _ hw)) (fun _ h9 => h9) hd (k1.2 p l e s m args below meth c D tc bs X g1 g2 H locs ls hW hS hl)
  · exact hi.elim
/-- how many bytes; a byte -/
def qi_alS (v : Nat) (K : hc_K) : hc_L → List Value → hc_H → Prop
  | lv, .ref a :: st, h => a = v ∧ K lv (.int (nI 73) :: st) h
  | _, _, _ => False
theorem qs_alS (hd : decode (mC M) pc = .ok (.arraylength, 1)) (kk : qk (phS q v f) M h0 hf r (pc + 1) K) : qk (phS q v f) M h0 hf r pc (qi_alS v K) := by
  intro lv st h hi
  unfold qi_alS at hi
  split at hi
  · obtain ⟨rfl, hi⟩ := hi
    have k1 := kk _ _ _ hi
    refine ⟨k1.1, fun p l e s m args below meth c D tc bs X g1 g2 H locs ls hW hS hl => ?_⟩
    obtain ⟨hx, hb, -, -, -, -, -, -, -, -, -, hph⟩ := id X
    exact va_tlen hx hb hph.2.2.2.2.1 hS rfl hd (k1.2 p l e s m args below meth c D tc bs X g1 g2 H locs ls hW hS hl)
  · exact hi.elim
def qi_bS (v : Nat) (K : hc_K) : hc_L → List Value → hc_H → Prop
  | lv, .int i :: .ref a :: st, h => a = v ∧ vp_in i 73 ∧ K lv (.int (nI (ltF i.toNatClampNeg)) :: st) h
  | _, _, _ => False
theorem qs_bS (hd : decode (mC M) pc = .ok (.baload, 1)) (kk : qk (phS q v f) M h0 hf r (pc + 1) K) : qk (phS q v f) M h0 hf r pc (qi_bS v K) := by
  intro lv st h hi
  unfold qi_bS at hi
  split at hi
  · obtain ⟨rfl, hin, hi⟩ := hi
    have k1 := kk _ _ _ hi
    refine ⟨k1.1, fun p l e s m args below meth c D tc bs X g1 g2 H locs ls hW hS hl => ?_⟩
    obtain ⟨hx, hb, -, -, -, -, -, -, -, -, -, hph⟩ := id X
    exact va_tb hx hb hph.2.2.2.2.1 hS hin rfl hd (k1.2 p l e s m args below meth c D tc bs X g1 g2 H locs ls hW hS hl)
  · exact hi.elim
/-- a method of the text -/
def qi_invT (q v : Nat) (f : Option Nat) (z : hc_M) (n : Nat) (K : hc_K) (lv : hc_L) (st : List Value) (h : hc_H) : Prop := spl n [] st (fun as rest => match rest with
  | .ref b :: rest => b = q ∧ shrt rest ∧ ∃ r' h', MX (phS q v f) z (.ref b :: as) h r' h' ∧ K lv (rpush r' rest) h'
  | _ => False)
theorem qs_invT {z : hc_M} {n index : Nat} (hd : decode (mC M) pc = .ok (.invokevirtual index, 3)) (hz : hc_z z n) (hl : Cond.methodLink (mN M).cls index (mN z) ∈ lw_g) (hs : Cond.instanceMethod (mN z) ∈ lw_g ∧ Cond.selects (mN z).cls (mN z) (mN z) ∈ lw_g) (hc : (mN z).cls = "java/lang/String") (hR : hc_rm M z) (kk : qk (phS q v f) M h0 hf r (pc + 3) K) : qk (phS q v f) M h0 hf r pc (qi_invT q v f z n K) := by
  intro lv st h hi
  obtain ⟨as, rest, hn, e0, hj⟩ := spl_spec _ _ _ _ hi
  clear hi
  subst e0
  rw [List.append_nil] at hj
  split at hj
  · rename_i b rest
    obtain ⟨rfl, hsh, r', h', hM, hi⟩ := hj
    refine cx.call phS_ok (fun _ _ h9 => h9) hM (kk _ _ _ hi) (fun p l e s m args below meth c D tc bs X H locs ls cells slots hW hlv hpre hroom => ?_)
    obtain ⟨hx, hb, -, hml, hts, hown, -, -, hK, -⟩ := id X
    have hrc : ∃ cell : Cell, H[b]? = some cell ∧ cell.vm.isStatics = false ∧ s.vm.findClass (mN z).cls = some cell.cls := by
      obtain ⟨-, -, -, -, hp9⟩ := hpre.2 ({ s with heap := H }) rfl (State.WarmedH.refl s)
      obtain ⟨cell, c1, c2, c3, -⟩ := hp9.2.1
      exact ⟨cell, c1, c2, by rw [hc]; exact c3⟩
    exact va_runV (As := as) (rest := rest) (C := (mN z).cls) ⟨hx, hb, hml, hown, hts⟩ (hM.2 l D tc bs) ⟨callB_of n hts (hc_good hz.1) rfl rfl rfl (hts _ (List.mem_cons_of_mem _ hz.2.1)) (hts _ (List.mem_cons_of_mem _ hl)) hz.2.2 hR, hts _ (List.mem_cons_of_mem _ hs.1), hts _ (List.mem_cons_of_mem _ hs.2)⟩ ⟨hpre.1, hrc, hpre.2⟩ rfl hn hlv.1 rfl (lv_room (shrt_sum hsh)) hd hroom
  · exact hj.elim
/-- an answer of a narrow kind -/
def qi_nret (ty : FieldType) (r : Option Value) (hf : hc_H) : hc_L → List Value → hc_H → Prop
  | _, [.int w], h => narrow ty (.int w) = .int w ∧ r = some (.int w) ∧ hf = h
  | _, _, _ => False
theorem qs_nret {Ph : Nat → State → Prop} {ty : FieldType} (hd : decode (mC M) pc = .ok (.ireturn, 1)) (hr : mR M = some ty) : qk Ph M h0 hf r pc (qi_nret ty r hf) := by
  intro lv st h hi
  unfold qi_nret at hi
  split at hi
  · obtain ⟨hv, rfl, rfl⟩ := hi
    refine ⟨⟨Nat.le_refl _, Nat.le_refl _⟩, fun p l e s m args below meth c D tc bs X g1 g2 H locs ls hW hS hl => ?_⟩
    obtain ⟨hx, hb, hrt, hml, hts, hown, hlocks, -⟩ := id X
    exact W.zret hx hb (hrt.trans hr) hv (fun t ht hWm => ⟨rfl, by rw [ht]; exact hW, hS.F ht⟩) hS.2.2 hd
  · exact hi.elim
/-- a place that isn't reached -/
def qi_no : hc_K := fun _ _ _ => False
theorem qs_no {Ph : Nat → State → Prop} : qk Ph M h0 hf r pc qi_no := fun _ _ _ h9 => h9.elim
end QT
