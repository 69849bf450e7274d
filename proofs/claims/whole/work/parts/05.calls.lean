/-! NEW CELLS, CALLS, ENDS, SWITCHES, ENTRIES. -/
section QC
variable {Ph Ph' : Nat → State → Prop} {M : hc_M} {h0 hf : hc_H} {r : Option Value} {pc : Nat} {K : hc_K}
def qi_new (ci N : Nat) (fs : List Value) (K : hc_K) (lv : hc_L) (st : List Value) (h : hc_H) : Prop := K lv (.ref h.2.1 :: st) (hc_new h (.inr (ci, fs)) N)
theorem qs_new {index ci N : Nat} {fs : List Value} {C : String} {T : u_T} (ty : Nat → FieldType) (hd : decode (mC M) pc = .ok (.new index, 3)) (hc : hc_cls[ci]? = some (C, T, N)) (hin : ∀ w ∈ u_ws C T N, w ∈ lw_g) (hty : ∀ k, k < N → parseFieldDescriptor (T k).2.2.1 = some (ty k)) (hl1 : Cond.classLink (mN M).cls index C ∈ lw_g) (hl2 : Cond.instantiable C N ∈ lw_g) (hl3 : Cond.initialized C ∈ lw_g) (hfs : ∀ j, j < N → defaultValue (ty j) = vp_V fs j) (kk : qk Ph M h0 hf r (pc + 3) K) : qk Ph M h0 hf r pc (qi_new ci N fs K) := by
  intro lv st h hi
  have k1 := kk _ _ _ hi
  have e1 : h.2.1 + 1 ≤ hf.2.1 := k1.1.1
  have e2 : h.2.2 + N ≤ hf.2.2 := k1.1.2
  refine ⟨⟨by omega, by omega⟩, fun p l e s m args below meth c D tc bs X g1 g2 H locs ls hW hS hl => ?_⟩
  obtain ⟨hx, hb, -, -, hts, hown, -, -, hK, -⟩ := id X
  have hin' : ∀ w ∈ u_ws C T N, w ∈ hc_ws M := fun w hw => List.mem_cons_of_mem _ (hin w hw)
  have hKn := hK.1 ci _ hc
  refine W.newcK hx hb hown (hts _ (List.mem_cons_of_mem _ hl1)) (hts _ (List.mem_cons_of_mem _ hl2)) (hts _ (List.mem_cons_of_mem _ hl3)) rfl hd (by show h.2.1 - h0.2.1 + 1 ≤ hf.2.1 - h0.2.1; omega) (by show h.2.2 - h0.2.2 + N ≤ hf.2.2 - h0.2.2; omega) hKn.2.1 rfl fun H1 kC hkC q1 z1 o1 => ?_
  have K1 := k1.2 p l e s m args below meth c D tc bs X (by show h0.2.1 ≤ h.2.1 + 1; omega) (by show h0.2.2 ≤ h.2.2 + N; omega) H1 locs ls (hW.push z1 o1 ⟨_, hc, (u_born ty hts hin' hKn hkC q1 hty).to hfs⟩) (hc_S.push hS z1 o1) hl
  rw [← hW.1] at K1
  have q2 : (hc_new h (.inr (ci, fs)) N).2.1 - h0.2.1 = h.2.1 - h0.2.1 + 1 := by show h.2.1 + 1 - h0.2.1 = _; omega
  have q3 : (hc_new h (.inr (ci, fs)) N).2.2 - h0.2.2 = h.2.2 - h0.2.2 + N := by show h.2.2 + N - h0.2.2 = _; omega
  rw [q2, q3] at K1
  exact K1
/-- a new array of ints, booleans, chars (kd 0, 1, 3), of longs (2) -/
def qi_newa (kd : Nat) (K : hc_K) : hc_L → List Value → hc_H → Prop
  | lv, .int n :: st, h => ¬ n < 0 ∧ n.toNatClampNeg ≤ 100000 ∧ K lv (.ref h.2.1 :: st) (hc_new h (.inl (kd, n.toNatClampNeg, if kd = 2 then .inr (.inl (fun _ => 0)) else .inl (fun _ => 0))) n.toNatClampNeg)
  | _, _, _ => False
theorem qs_newa {kd : Nat} {atype : ArrayType} (ty : FieldType) (hd : decode (mC M) pc = .ok (.newarray atype, 2)) (hty : newarray.typeOf atype = ty) (hT : ∀ tc, (hc_T tc)[kd]? = some (tc kd, ty)) (hl : Cond.arrayClass ty ∈ lw_g) (hro : ∀ (s : State) (cA : ClassId), va_RA s cA ty → s.vm.findClass ("[" ++ ty.toString) = some cA) (hce : ∀ (cA : ClassId) (n : Nat), vp_cell cA (n, if kd = 2 then .inr (.inl (fun _ => 0)) else .inl (fun _ => 0)) = arrV cA n (fun _ => defaultValue ty)) (hby : componentBytes ty ≤ 8) (kk : qk Ph M h0 hf r (pc + 2) K) : qk Ph M h0 hf r pc (qi_newa kd K) := by
  subst hty
  intro lv st h hi
  unfold qi_newa at hi
  split at hi
  · rename_i n st
    obtain ⟨hn, hN, hi⟩ := hi
    have k1 := kk _ _ _ hi
    have e1 : h.2.1 + 1 ≤ hf.2.1 := k1.1.1
    have e2 : h.2.2 + n.toNatClampNeg ≤ hf.2.2 := k1.1.2
    refine ⟨⟨by omega, by omega⟩, fun p l e s m args below meth c D tc bs X g1 g2 H locs ls hW hS hlv => ?_⟩
    obtain ⟨hx, hb, -, -, hts, hown, -, -, hK, -⟩ := id X
    refine va_newaK hx hb (hts _ (List.mem_cons_of_mem _ hl)) rfl hd rfl hn rfl (by have := Nat.mul_le_mul hN hby; omega) (by show h.2.1 - h0.2.1 + 1 ≤ hf.2.1 - h0.2.1; omega) (by show h.2.2 - h0.2.2 + n.toNatClampNeg ≤ hf.2.2 - h0.2.2; omega) rfl fun H1 cA q1 z1 o1 hAr hNm => ?_
    have hcA : cA = tc kd := Option.some.inj (hNm.symm.trans (hro s _ (hK.2 kd _ (hT tc)).2))
    subst hcA
    have K1 := k1.2 p l e s m args below meth c D tc bs X (by show h0.2.1 ≤ h.2.1 + 1; omega) (by show h0.2.2 ≤ h.2.2 + n.toNatClampNeg; omega) H1 locs ls (hW.push z1 o1 (show H1[H.size]? = some (vp_cell (tc kd) _) by rw [hce]; exact q1)) (hc_S.push hS z1 o1) hlv
    rw [← hW.1] at K1
    have q2 : ∀ x, (hc_new h x n.toNatClampNeg).2.1 - h0.2.1 = h.2.1 - h0.2.1 + 1 := fun x => by show h.2.1 + 1 - h0.2.1 = _; omega
    have q3 : ∀ x, (hc_new h x n.toNatClampNeg).2.2 - h0.2.2 = h.2.2 - h0.2.2 + n.toNatClampNeg := fun x => by show h.2.2 + n.toNatClampNeg - h0.2.2 = _; omega
    rw [q2, q3] at K1
    exact K1
  · exact hi.elim
/-- a new array of Plans -/
def qi_newq (K : hc_K) : hc_L → List Value → hc_H → Prop
  | lv, .int n :: st, h => ¬ n < 0 ∧ n.toNatClampNeg ≤ 100000 ∧ K lv (.ref h.2.1 :: st) (hc_new h (.inl (4, n.toNatClampNeg, .inr (.inr (.inr (.inr (fun _ => none)))))) n.toNatClampNeg)
  | _, _, _ => False
theorem qs_newq {index : Nat} (hd : decode (mC M) pc = .ok (.anewarray index, 3)) (hl1 : Cond.classLink (mN M).cls index "BalancedLine$Plan" ∈ lw_g) (kk : qk Ph M h0 hf r (pc + 3) K) : qk Ph M h0 hf r pc (qi_newq K) := by
  intro lv st h hi
  unfold qi_newq at hi
  split at hi
  · rename_i n st
    obtain ⟨hn, hN, hi⟩ := hi
    have k1 := kk _ _ _ hi
    have e1 : h.2.1 + 1 ≤ hf.2.1 := k1.1.1
    have e2 : h.2.2 + n.toNatClampNeg ≤ hf.2.2 := k1.1.2
    refine ⟨⟨by omega, by omega⟩, fun p l e s m args below meth c D tc bs X g1 g2 H locs ls hW hS hlv => ?_⟩
    obtain ⟨hx, hb, -, -, hts, hown, -, -, hK, hNw, -⟩ := id X
    refine W.anew hx hb hown (hts _ (List.mem_cons_of_mem _ hl1)) (va_AO.use hNw.2.2.2.2.2) rfl hd rfl hn (by omega) (by show h.2.1 - h0.2.1 + 1 ≤ hf.2.1 - h0.2.1; omega) (by show h.2.2 - h0.2.2 + n.toNatClampNeg ≤ hf.2.2 - h0.2.2; omega) fun cA kA comp f1 f2 f3 f4 => ?_
    generalize hH1 : H.push ({ cls := cA, slots := Array.replicate n.toNatClampNeg .null, vm := .none } : Cell) = H1
    have z1 : H1.size = H.size + 1 := by rw [← hH1, Array.size_push]
    have q1 : H1[H.size]? = some (arrV cA n.toNatClampNeg (fun _ => .null)) := by rw [← hH1, Array.getElem?_push_size, ← arrV_new]
    have o1 : ∀ q : Nat, q < H.size → H1[q]? = H[q]? := fun q hq => by rw [← hH1, Array.getElem?_push, if_neg (Nat.ne_of_lt hq)]
    obtain ⟨kA', comp', b1, b2, b3, b4⟩ := (hK.2 4 _ rfl).2
    have hcA : cA = tc 4 := by first | exact Option.some.inj (f4.symm.trans b4) | exact Option.some.inj (f1.symm.trans b4)
    subst hcA
    have K1 := k1.2 p l e s m args below meth c D tc bs X (by show h0.2.1 ≤ h.2.1 + 1; omega) (by show h0.2.2 ≤ h.2.2 + n.toNatClampNeg; omega) H1 locs ls (hW.push z1 o1 (show H1[H.size]? = some (vp_cell (tc 4) _) from q1)) (hc_S.push hS z1 o1) hlv
    rw [← hW.1] at K1
    have q2 : ∀ x, (hc_new h x n.toNatClampNeg).2.1 - h0.2.1 = h.2.1 - h0.2.1 + 1 := fun x => by show h.2.1 + 1 - h0.2.1 = _; omega
    have q3 : ∀ x, (hc_new h x n.toNatClampNeg).2.2 - h0.2.2 = h.2.2 - h0.2.2 + n.toNatClampNeg := fun x => by show h.2.2 + n.toNatClampNeg - h0.2.2 = _; omega
    rw [q2, q3] at K1
    exact K1
  · exact hi.elim
def shrt : List Value → Prop
  | [] => True
  | [_] => True
  | [_, _] => True
  | [_, _, _] => True
  | [_, _, _, _] => True
  | _ => False
theorem cat_le (v : Value) : v.category ≤ 2 := by cases v <;> simp [Value.category]
theorem shrt_sum {st : List Value} (h : shrt st) : (st.map fun v => v.category).sum ≤ 8 := by
  match st, h with
  | [], _ => simp
  | [a], _ => have := cat_le a; simp; omega
  | [a, b], _ => have := cat_le a; have := cat_le b; simp; omega
  | [a, b, c], _ => have := cat_le a; have := cat_le b; have := cat_le c; simp; omega
  | [a, b, c, d], _ => have := cat_le a; have := cat_le b; have := cat_le c; have := cat_le d; simp; omega
/-- Object's constructor -/
def qi_obj (K : hc_K) : hc_L → List Value → hc_H → Prop
  | lv, .ref _ :: st, h => shrt st ∧ K lv st h
  | _, _, _ => False
theorem qs_obj {index : Nat} (hd : decode (mC M) pc = .ok (.invokespecial index, 3)) (hl1 : Cond.methodLink (mN M).cls index Lib.objectInit ∈ lw_g) (hl2 : Cond.instanceMethod Lib.objectInit ∈ lw_g) (hl3 : Cond.code Lib.objectInit ⟨#[0xb1]⟩ 1 none ∈ lw_g) (hF : 1 ≤ mF M) (hO : 20 ≤ mO M) (kk : qk Ph M h0 hf r (pc + 3) K) : qk Ph M h0 hf r pc (qi_obj K) := by
  intro lv st h hi
  unfold qi_obj at hi
  split at hi
  · rename_i a st
    have k1 := kk _ _ _ hi.2
    refine ⟨k1.1, fun p l e s m args below meth c D tc bs X g1 g2 H locs ls hW hS hl => ?_⟩
    obtain ⟨hx, hb, -, hml, hts, hown, -⟩ := id X
    have hsum := shrt_sum hi.1
    refine W.objInit hx hb hown (hts _ (List.mem_cons_of_mem _ hl1)) (hts _ (List.mem_cons_of_mem _ hl2)) (hts _ (List.mem_cons_of_mem _ hl3)) rfl (by rw [hml]; exact hl.1) rfl hd hF (by have := lv_room (m := m) (pc := pc) (ls := ls) (rest := .ref a :: st) hsum; show 2 * (F0 m pc ls (.ref a :: st)).monitorRoom + _ + 12 ≤ mO M; omega) ?_
    exact k1.2 p l e s m args below meth c D tc bs X g1 g2 H locs ls hW hS hl
  · exact hi.elim
/-- calls -/
def rpush : Option Value → List Value → List Value
  | none, st => st
  | some v, st => v :: st
theorem rpush_eq (v : Option Value) (st : List Value) : rpush v st = v.toList ++ st := by cases v <;> rfl
def spl : Nat → List Value → List Value → (List Value → List Value → Prop) → Prop
  | 0, acc, st, P => P acc st
  | _ + 1, _, [], _ => False
  | n + 1, acc, v :: st, P => spl n (v :: acc) st P
theorem spl_spec : ∀ (n : Nat) (acc st : List Value) (P : List Value → List Value → Prop), spl n acc st P → ∃ as rest, as.length = n ∧ st = as.reverse ++ rest ∧ P (as ++ acc) rest := by
  intro n
  induction n with
  | zero => intro acc st P h; exact ⟨[], st, rfl, rfl, h⟩
  | succ n ih =>
    intro acc st P h
    cases st with
    | nil => exact h.elim
    | cons v st =>
      simp only [spl] at h
      obtain ⟨as, rest, h1, h2, h3⟩ := ih _ _ _ h
      exact ⟨as ++ [v], rest, by simp [h1], by simp [h2], by simpa using h3⟩
def hc_z (z : hc_M) (n : Nat) : Prop := Cond.code (mN z) (mC z) (mL z) (mR z) ∈ lw_g ∧ Cond.initialized (mN z).cls ∈ lw_g ∧ ((mN z).cls ≠ "java/lang/invoke/MethodHandle" ∧ (mN z).cls ≠ "java/lang/invoke/VarHandle" ∧ (parseMethodDescriptor (mN z).desc).map (fun d => d.parameters.length) = some n)
theorem lw_g_good : ∀ w ∈ lw_g, goodWord w = true := fun w hw => (List.mem_filter.mp hw).2
theorem hc_good {M z : hc_M} (hz : Cond.code (mN z) (mC z) (mL z) (mR z) ∈ lw_g) : GoodIn (hc_ws M) (hc_ws z) := by
  intro w hw
  have hw' : w ∈ lw_g := by
    rcases List.mem_cons.mp hw with rfl | h
    · exact hz
    · exact h
  exact ⟨List.mem_cons_of_mem _ hw', good_of_word (lw_g_good w hw')⟩
def hc_rm (M z : hc_M) : Prop := mF z + 1 ≤ mF M ∧ 8 + (mL z + 11) + mO z ≤ mO M
theorem cx.call {z : hc_M} {as rest st : List Value} {lv : hc_L} {h h' : hc_H} {r' : Option Value} (hP1 : hc_Ph Ph') (hP2 : ∀ bs U, Ph bs U → Ph' bs U) (hM : MX Ph' z as h r' h') (k1 : cx Ph M h0 hf r (pc + 3) lv (rpush r' rest) h')
    (f : ∀ (p : Program) (l : Launch) (e : Env) (s : State) (m : MethodId) (args : Array Value) (below : List Frame) (meth : Method) (c : Code) (D : va_G) (tc : Nat → ClassId) (bs : Nat), cf Ph M h0 hf p s m args meth c D tc bs → ∀ (H : Heap) (locs : List Loc) (ls : Array Slot) (cells slots : Nat), hc_W D tc bs h H → lvk ls (mL M) lv → PreS s H (va_Pc as (hc_U Ph' D tc bs h)) as → cells + (h'.2.1 - h.2.1) ≤ (hc_R M h0 hf).cells ∧ slots + (h'.2.2 - h.2.2) ≤ (hc_R M h0 hf).slots →
      va_Run p l e (hc_R M h0 hf) s m args below meth c H locs cells slots (h'.2.1 - h.2.1) (h'.2.2 - h.2.2) (F0 m pc ls st) rest (hc_Q D tc bs r' h' as.toArray) (hc_A bs)) : cx Ph M h0 hf r pc lv st h := by
  have a1 := hM.1.1
  have a2 := hM.1.2
  have a3 := k1.1.1
  have a4 := k1.1.2
  refine ⟨⟨by omega, by omega⟩, fun p l e s m args below meth c D tc bs X g1 g2 H locs ls hW hS hl => ?_⟩
  have hK : va_K D hc_cls (hc_T tc) s := X.2.2.2.2.2.2.2.2.1
  have hN : hc_N s := X.2.2.2.2.2.2.2.2.2.1
  have hbs : bs ≤ s.heap.size := X.2.2.2.2.2.2.2.2.2.2.1
  have hph : Ph bs s := X.2.2.2.2.2.2.2.2.2.2.2
  have hpre : PreS s H (va_Pc as (hc_U Ph' D tc bs h)) as := by
    refine ⟨fun a U g mk q => ?_, fun U hU hWm => ?_⟩
    · obtain ⟨q0, q1, q2, q3, q4⟩ := q
      exact ⟨q0, q1, va_K.moved (u := U) (U := U.calling g mk a) (Vm.Alike.refl U.vm) q2, hc_N.same (u := U) rfl q3, hP1.1 bs U _ rfl (fun _ _ => rfl) q4⟩
    · exact ⟨rfl, by rw [hU]; exact hW, va_K.moved hWm.alike hK, hN.warm hWm, hP1.2 bs s U hWm (fun q hq => by rw [hU]; exact hS.2.1 q (Nat.lt_of_lt_of_le hq hbs) (Nat.not_le.mpr hq)) (hP2 bs s hph)⟩
  have hr := f p l e s m args below meth c D tc bs X H locs ls (h.2.1 - h0.2.1) (h.2.2 - h0.2.2) hW hl hpre ⟨by show h.2.1 - h0.2.1 + (h'.2.1 - h.2.1) ≤ hf.2.1 - h0.2.1; omega, by show h.2.2 - h0.2.2 + (h'.2.2 - h.2.2) ≤ hf.2.2 - h0.2.2; omega⟩
  intro T hT XT
  obtain ⟨v, st₀, t, T', L, e0, X', hL, e1, e2, ⟨ov, hW', hF⟩, go⟩ := hr T hT XT
  cases ov
  have hS' : va_S (hc_A bs) s.heap T'.heap (locs ++ L) := by
    obtain ⟨f1, f2⟩ := hF
    rw [e0] at f1 f2
    refine ⟨Nat.le_trans hS.1 (by rw [e1]; exact f1), fun q b1 b2 => ?_, fun q hq => ?_⟩
    · rw [e1, f2 q (Nat.lt_of_lt_of_le b1 hS.1) b2]
      exact hS.2.1 q b1 b2
    · rcases List.mem_append.mp hq with z | z
      · exact hS.2.2 q z
      · exact hL q z
  have c1 : h.2.1 - h0.2.1 + (h'.2.1 - h.2.1) = h'.2.1 - h0.2.1 := by omega
  have c2 : h.2.2 - h0.2.2 + (h'.2.2 - h.2.2) = h'.2.2 - h0.2.2 := by omega
  rw [c1, c2] at X'
  obtain ⟨t2, b1, b2⟩ := k1.2 p l e s m args below meth c D tc bs X (by omega) (by omega) T'.heap (locs ++ L) ls (by rw [e1]; exact hW') hS' hl T' rfl X'
  rw [rpush_eq] at b1
  exact ⟨t2, go t2 b1, b2⟩
def qi_invS (Ph' : Nat → State → Prop) (z : hc_M) (n : Nat) (K : hc_K) (lv : hc_L) (st : List Value) (h : hc_H) : Prop := spl n [] st (fun as rest => shrt rest ∧ ∃ r' h', MX Ph' z as h r' h' ∧ K lv (rpush r' rest) h')
theorem qs_invS {z : hc_M} {n index : Nat} (hP1 : hc_Ph Ph') (hP2 : ∀ bs U, Ph bs U → Ph' bs U) (hd : decode (mC M) pc = .ok (.invokestatic index, 3)) (hz : hc_z z n) (hl : Cond.methodLink (mN M).cls index (mN z) ∈ lw_g) (hs : Cond.static (mN z) ∈ lw_g) (hR : hc_rm M z) (kk : qk Ph M h0 hf r (pc + 3) K) : qk Ph M h0 hf r pc (qi_invS Ph' z n K) := by
  intro lv st h hi
  obtain ⟨as, rest, hn, rfl, hsh, r', h', hM, hi⟩ := spl_spec _ _ _ _ hi
  rw [List.append_nil] at hM
  refine cx.call hP1 hP2 hM (kk _ _ _ hi) (fun p l e s m args below meth c D tc bs X H locs ls cells slots hW hlv hpre hroom => ?_)
  obtain ⟨hx, hb, -, hml, hts, hown, -⟩ := id X
  exact va_runS (As := as) (rest := rest) ⟨hx, hb, hml, hown, hts⟩ (hM.2 l D tc bs) ⟨callB_of n hts (hc_good hz.1) rfl rfl rfl (hts _ (List.mem_cons_of_mem _ hz.2.1)) (hts _ (List.mem_cons_of_mem _ hl)) hz.2.2 hR, hts _ (List.mem_cons_of_mem _ hs)⟩ hpre rfl hn hlv.1 rfl (lv_room (shrt_sum hsh)) hd hroom
theorem qs_invSN {z : hc_M} {n index : Nat} {host : String} (hP1 : hc_Ph Ph') (hP2 : ∀ bs U, Ph bs U → Ph' bs U) (hd : decode (mC M) pc = .ok (.invokestatic index, 3)) (hz : hc_z z n) (hl : ∀ U, hc_N U → va_Nw (.methodLinkNest (mN M).cls index (mN z) host) U) (hs : Cond.static (mN z) ∈ lw_g) (hR : hc_rm M z) (kk : qk Ph M h0 hf r (pc + 3) K) : qk Ph M h0 hf r pc (qi_invS Ph' z n K) := by
  intro lv st h hi
  obtain ⟨as, rest, hn, rfl, hsh, r', h', hM, hi⟩ := spl_spec _ _ _ _ hi
  rw [List.append_nil] at hM
  refine cx.call hP1 hP2 hM (kk _ _ _ hi) (fun p l e s m args below meth c D tc bs X H locs ls cells slots hW hlv hpre hroom => ?_)
  obtain ⟨hx, hb, -, hml, hts, hown, -, -, -, hN, -⟩ := id X
  exact va_runSN (As := as) (rest := rest) ⟨hx, hb, hml, hown, hts⟩ (hM.2 l D tc bs) ⟨va_cnB n hts (hc_good hz.1) rfl rfl rfl (hl s hN) (hts _ (List.mem_cons_of_mem _ hz.2.1)) hz.2.2 hR, hts _ (List.mem_cons_of_mem _ hs), trivial⟩ hpre rfl hn hlv.1 rfl (lv_room (shrt_sum hsh)) hd hroom
/-- an instance method of class number ci, with n arguments beside the object -/
def qi_invV (Ph' : Nat → State → Prop) (z : hc_M) (n ci : Nat) (K : hc_K) (lv : hc_L) (st : List Value) (h : hc_H) : Prop := spl n [] st (fun as rest => match rest with
  | .ref b :: rest => at_o (h.1 b) ci (fun _ => True) ∧ shrt rest ∧ ∃ r' h', MX Ph' z (.ref b :: as) h r' h' ∧ K lv (rpush r' rest) h'
  | _ => False)
theorem qs_invV {z : hc_M} {n index ci : Nat} (hP1 : hc_Ph Ph') (hP2 : ∀ bs U, Ph bs U → Ph' bs U) (hd : decode (mC M) pc = .ok (.invokevirtual index, 3)) (hz : hc_z z n) (hl : Cond.methodLink (mN M).cls index (mN z) ∈ lw_g) (hs : Cond.instanceMethod (mN z) ∈ lw_g ∧ Cond.selects (mN z).cls (mN z) (mN z) ∈ lw_g) (hc : ∃ q, hc_cls[ci]? = some q ∧ q.1 = (mN z).cls) (hR : hc_rm M z) (kk : qk Ph M h0 hf r (pc + 3) K) : qk Ph M h0 hf r pc (qi_invV Ph' z n ci K) := by
  intro lv st h hi
  obtain ⟨as, rest, hn, e0, hj⟩ := spl_spec _ _ _ _ hi
  clear hi
  subst e0
  rw [List.append_nil] at hj
  split at hj
  · rename_i b rest
    obtain ⟨hob, hsh, r', h', hM, hi⟩ := hj
    obtain ⟨fs, hfs, -⟩ := at_o_spec hob
    obtain ⟨q, hq, hqn⟩ := hc
    refine cx.call hP1 hP2 hM (kk _ _ _ hi) (fun p l e s m args below meth c D tc bs X H locs ls cells slots hW hlv hpre hroom => ?_)
    obtain ⟨hx, hb, -, hml, hts, hown, -, -, hK, -⟩ := id X
    exact va_runV (As := as) (rest := rest) (C := (mN z).cls) ⟨hx, hb, hml, hown, hts⟩ (hM.2 l D tc bs) ⟨callB_of n hts (hc_good hz.1) rfl rfl rfl (hts _ (List.mem_cons_of_mem _ hz.2.1)) (hts _ (List.mem_cons_of_mem _ hl)) hz.2.2 hR, hts _ (List.mem_cons_of_mem _ hs.1), hts _ (List.mem_cons_of_mem _ hs.2)⟩ ⟨hpre.1, by rw [← hqn]; exact va_recv hK (hW.get hfs) hq (q0 := 0) rfl, hpre.2⟩ rfl hn hlv.1 rfl (lv_room (shrt_sum hsh)) hd hroom
  · exact hj.elim
/-- a constructor -/
def qi_invI (Ph' : Nat → State → Prop) (z : hc_M) (n : Nat) (K : hc_K) (lv : hc_L) (st : List Value) (h : hc_H) : Prop := spl n [] st (fun as rest => match rest with
  | .ref b :: rest => shrt rest ∧ ∃ r' h', MX Ph' z (.ref b :: as) h r' h' ∧ K lv (rpush r' rest) h'
  | _ => False)
theorem qs_invI {z : hc_M} {n index : Nat} (hP1 : hc_Ph Ph') (hP2 : ∀ bs U, Ph bs U → Ph' bs U) (hd : decode (mC M) pc = .ok (.invokespecial index, 3)) (hz : hc_z z n) (hl : Cond.methodLink (mN M).cls index (mN z) ∈ lw_g) (hs : Cond.instanceMethod (mN z) ∈ lw_g) (hi1 : (mN z).name = "<init>") (hr : mR z = none) (hR : hc_rm M z) (kk : qk Ph M h0 hf r (pc + 3) K) : qk Ph M h0 hf r pc (qi_invI Ph' z n K) := by
  intro lv st h hi
  obtain ⟨as, rest, hn, e0, hj⟩ := spl_spec _ _ _ _ hi
  clear hi
  subst e0
  rw [List.append_nil] at hj
  split at hj
  · rename_i b rest
    obtain ⟨hsh, r', h', hM, hi⟩ := hj
    refine cx.call hP1 hP2 hM (kk _ _ _ hi) (fun p l e s m args below meth c D tc bs X H locs ls cells slots hW hlv hpre hroom => ?_)
    obtain ⟨hx, hb, -, hml, hts, hown, -⟩ := id X
    exact va_runI (As := as) (rest := rest) (bytes := mC z) (maxL := mL z) ⟨hx, hb, hml, hown, hts⟩ (hM.2 l D tc bs) ⟨by rw [← hr]; exact callB_of n hts (hc_good hz.1) rfl rfl rfl (hts _ (List.mem_cons_of_mem _ hz.2.1)) (hts _ (List.mem_cons_of_mem _ hl)) hz.2.2 hR, hi1, hts _ (List.mem_cons_of_mem _ hs)⟩ hpre rfl hn hlv.1 rfl (lv_room (shrt_sum hsh)) hd hroom
  · exact hj.elim
theorem qs_invIN {z : hc_M} {n index : Nat} {host : String} (hP1 : hc_Ph Ph') (hP2 : ∀ bs U, Ph bs U → Ph' bs U) (hd : decode (mC M) pc = .ok (.invokespecial index, 3)) (hz : hc_z z n) (hl : ∀ U, hc_N U → va_Nw (.methodLinkNest (mN M).cls index (mN z) host) U) (hs : Cond.instanceMethod (mN z) ∈ lw_g) (hi1 : (mN z).name = "<init>") (hr : mR z = none) (hR : hc_rm M z) (kk : qk Ph M h0 hf r (pc + 3) K) : qk Ph M h0 hf r pc (qi_invI Ph' z n K) := by
  intro lv st h hi
  obtain ⟨as, rest, hn, e0, hj⟩ := spl_spec _ _ _ _ hi
  clear hi
  subst e0
  rw [List.append_nil] at hj
  split at hj
  · rename_i b rest
    obtain ⟨hsh, r', h', hM, hi⟩ := hj
    refine cx.call hP1 hP2 hM (kk _ _ _ hi) (fun p l e s m args below meth c D tc bs X H locs ls cells slots hW hlv hpre hroom => ?_)
    obtain ⟨hx, hb, -, hml, hts, hown, -, -, -, hN, -⟩ := id X
    exact va_runIN (As := as) (rest := rest) (bytes := mC z) (maxL := mL z) ⟨hx, hb, hml, hown, hts⟩ (hM.2 l D tc bs) ⟨by rw [← hr]; exact va_cnB n hts (hc_good hz.1) rfl rfl rfl (hl s hN) (hts _ (List.mem_cons_of_mem _ hz.2.1)) hz.2.2 hR, hi1, hts _ (List.mem_cons_of_mem _ hs)⟩ hpre rfl hn hlv.1 rfl (lv_room (shrt_sum hsh)) hd hroom
  · exact hj.elim
/-- ends -/
def qi_iret (r : Option Value) (hf : hc_H) : hc_L → List Value → hc_H → Prop
  | _, [.int v], h => r = some (.int v) ∧ hf = h
  | _, _, _ => False
def qi_zret (r : Option Value) (hf : hc_H) : hc_L → List Value → hc_H → Prop
  | _, [.int v], h => (v = 0 ∨ v = 1) ∧ r = some (.int v) ∧ hf = h
  | _, _, _ => False
def qi_lret (r : Option Value) (hf : hc_H) : hc_L → List Value → hc_H → Prop
  | _, [.long v], h => r = some (.long v) ∧ hf = h
  | _, _, _ => False
def qi_vret (r : Option Value) (hf : hc_H) : hc_L → List Value → hc_H → Prop
  | _, [], h => r = none ∧ hf = h
  | _, _, _ => False
theorem qs_iret (hd : decode (mC M) pc = .ok (.ireturn, 1)) (hr : mR M = some .int) : qk Ph M h0 hf r pc (qi_iret r hf) := by
  intro lv st h hi
  unfold qi_iret at hi
  split at hi
  · obtain ⟨rfl, rfl⟩ := hi
    refine ⟨⟨Nat.le_refl _, Nat.le_refl _⟩, fun p l e s m args below meth c D tc bs X g1 g2 H locs ls hW hS hl => ?_⟩
    obtain ⟨hx, hb, hrt, hml, hts, hown, hlocks, -⟩ := id X
    exact W.iret hx hb (hrt.trans hr) (fun t ht hWm => ⟨rfl, by rw [ht]; exact hW, hS.F ht⟩) hS.2.2 hd
  · exact hi.elim
theorem qs_zret (hd : decode (mC M) pc = .ok (.ireturn, 1)) (hr : mR M = some .boolean) : qk Ph M h0 hf r pc (qi_zret r hf) := by
  intro lv st h hi
  unfold qi_zret at hi
  split at hi
  · obtain ⟨hv, rfl, rfl⟩ := hi
    refine ⟨⟨Nat.le_refl _, Nat.le_refl _⟩, fun p l e s m args below meth c D tc bs X g1 g2 H locs ls hW hS hl => ?_⟩
    obtain ⟨hx, hb, hrt, hml, hts, hown, hlocks, -⟩ := id X
    exact W.zret hx hb (hrt.trans hr) (by rcases hv with rfl | rfl <;> rfl) (fun t ht hWm => ⟨rfl, by rw [ht]; exact hW, hS.F ht⟩) hS.2.2 hd
  · exact hi.elim
theorem qs_lret (hd : decode (mC M) pc = .ok (.lreturn, 1)) (hr : mR M = some .long) : qk Ph M h0 hf r pc (qi_lret r hf) := by
  intro lv st h hi
  unfold qi_lret at hi
  split at hi
  · obtain ⟨rfl, rfl⟩ := hi
    refine ⟨⟨Nat.le_refl _, Nat.le_refl _⟩, fun p l e s m args below meth c D tc bs X g1 g2 H locs ls hW hS hl => ?_⟩
    obtain ⟨hx, hb, hrt, hml, hts, hown, hlocks, -⟩ := id X
    exact W.lret hx hb (hrt.trans hr) (fun t ht hWm => ⟨rfl, by rw [ht]; exact hW, hS.F ht⟩) hS.2.2 hd
  · exact hi.elim
theorem qs_vret (hd : decode (mC M) pc = .ok (.return_, 1)) (hr : mR M = none) : qk Ph M h0 hf r pc (qi_vret r hf) := by
  intro lv st h hi
  unfold qi_vret at hi
  split at hi
  · obtain ⟨rfl, rfl⟩ := hi
    refine ⟨⟨Nat.le_refl _, Nat.le_refl _⟩, fun p l e s m args below meth c D tc bs X g1 g2 H locs ls hW hS hl => ?_⟩
    obtain ⟨hx, hb, hrt, hml, hts, hown, hlocks, -⟩ := id X
    exact W.vret hx hb (hrt.trans hr) (fun t ht hWm => ⟨rfl, by rw [ht]; exact hW, hS.F ht⟩) hS.2.2 hd
  · exact hi.elim
/-- the entry -/
def elv : List Value → hc_L
  | [] => []
  | .long x :: t => some (.long x) :: none :: elv t
  | .double x :: t => some (.double x) :: none :: elv t
  | v :: t => some v :: elv t
theorem elv_args : ∀ (vs : List Value) (k i : Nat) (v : Value), lget (elv vs) i = some v → (k + i, v) ∈ lv_args k vs := by
  intro vs
  induction vs with
  | nil => intro k i v h; simp [elv, lget] at h
  | cons w t ih =>
    intro k i v h
    cases w <;> (match i, h with
      | 0, h => first
        | (simp only [elv, lget, Option.some.injEq] at h; subst h; simp [lv_args])
      | i + 1, h => first
        | (simp only [elv, lget] at h
           have := ih (k + 1) i v h
           simp only [lv_args, Value.category]
           refine List.mem_cons_of_mem _ ?_
           first | (rw [show k + (i + 1) = k + 1 + i by omega]; exact this) | (simp at this ⊢; rw [show k + (i + 1) = k + 1 + i by omega]; exact this))
        | (cases i with
           | zero => simp [elv, lget] at h
           | succ i =>
             simp only [elv, lget] at h
             have := ih (k + 2) i v h
             simp only [lv_args, Value.category]
             refine List.mem_cons_of_mem _ ?_
             first | (rw [show k + (i + 1 + 1) = k + 2 + i by omega]; exact this) | (simp at this ⊢; rw [show k + (i + 1 + 1) = k + 2 + i by omega]; exact this)))
theorem lget_app {lv : hc_L} {k i : Nat} {v : Value} (h : lget (lv ++ List.replicate k none) i = some v) : lget lv i = some v := by
  induction lv generalizing i with
  | nil =>
    exfalso
    induction k generalizing i with
    | zero => simp [lget] at h
    | succ k ih => cases i with
      | zero => simp [lget, List.replicate] at h
      | succ i => simp only [List.nil_append, List.replicate, lget] at h; exact ih (by simpa using h)
  | cons a t ih => cases i with
    | zero => simpa [lget] using h
    | succ i => simp only [List.cons_append, lget] at h ⊢; exact ih h
theorem MX.of {as : List Value} {h : hc_H} {lv : hc_L} (k : Nat) (hlv : lv = elv as ++ List.replicate k none) (hpl : plainName (mN M).cls = true) (hsl : (lg_sl as).length ≤ mL M) (kx : cx Ph M h hf r 0 lv [] h) : MX Ph M as h r hf := by
  refine ⟨kx.1, fun l D tc bs => ?_⟩
  refine Met.ofW (cc := mC M) (maxL := mL M) (ret := mR M) hpl rfl ?_
  intro p e s m args below meth c s₁ B hml hv
  obtain ⟨rfl, hW, hK, hN, hph⟩ := hv
  have hts := atoms_spec (ws := hc_ws M) B.pre
  have hown : s.vm.findClass (mN M).cls = some m.cls := findClass_of_methodNamed B.named
  have hnam : meth.name = (mN M).name := (name_of_methodNamed B.named B.method).1
  have hl := lv_entry as hsl
  rw [lg_entry_eq]
  have K := kx.2 p l e s m as.toArray below meth c D tc bs ⟨B.exec, B.bytes, B.returns, hml, hts, hown, B.notSynchronized, hnam, hK, hN, by rw [hW.1]; exact hW.2.1, hph⟩ (Nat.le_refl _) (Nat.le_refl _) s.heap [] _ hW va_S.rf ⟨hl.1, hl.2.1, fun i v hi => hl.2.2 (i, v) (by rw [hlv] at hi; have := elv_args as 0 i v (lget_app hi); rwa [Nat.zero_add] at this)⟩
  rw [Nat.sub_self, Nat.sub_self] at K
  exact K
end QC
