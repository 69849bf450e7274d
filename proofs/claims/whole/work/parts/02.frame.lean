/-! THE FRAME OF THE WALK: an abstract heap (address to cell, size, slots made), a method's contract over it (MA), a place in a method over it (cx). -/
abbrev hc_C : Type := (Nat × vp_A) ⊕ (Nat × List Value)
abbrev hc_H : Type := (Nat → Option hc_C) × Nat × Nat
abbrev hc_M : Type := MethodName × ByteArray × Nat × Option FieldType × Nat × Nat
abbrev hc_L : Type := List (Option Value)
abbrev hc_K : Type := hc_L → List Value → hc_H → Prop
abbrev mN (M : hc_M) : MethodName := M.1
abbrev mC (M : hc_M) : ByteArray := M.2.1
abbrev mL (M : hc_M) : Nat := M.2.2.1
abbrev mR (M : hc_M) : Option FieldType := M.2.2.2.1
abbrev mF (M : hc_M) : Nat := M.2.2.2.2.1
abbrev mO (M : hc_M) : Nat := M.2.2.2.2.2
def hc_cls : List vw_C := [(RX0, TX0, 16), (RX1, TX1, 2), (RX2, TX2, 7), (RX3, TX3, 2), (RX4, TX4, 12), (RX5, TX5, 5), (RX6, TX6, 15)]
def hc_E (tc : Nat → ClassId) (e : hc_C) : va_E := match e with
  | .inl (k, a) => .inl (tc k, a)
  | .inr o => .inr o
def hc_T (tc : Nat → ClassId) : List (ClassId × FieldType) := [(tc 0, .int), (tc 1, .boolean), (tc 2, .long), (tc 3, .char), (tc 4, .object "BalancedLine$Plan")]
def hc_set (h : hc_H) (a : Nat) (e : hc_C) : hc_H := (fun q => if q = a then some e else h.1 q, h.2)
def hc_new (h : hc_H) (e : hc_C) (n : Nat) : hc_H := (fun q => if q = h.2.1 then some e else h.1 q, h.2.1 + 1, h.2.2 + n)
def hc_W (D : va_G) (tc : Nat → ClassId) (bs : Nat) (h : hc_H) (H : Heap) : Prop := H.size = h.2.1 ∧ bs ≤ h.2.1 ∧ ∀ (a : Nat) (e : hc_C), h.1 a = some e → bs ≤ a ∧ va_at D hc_cls (a, hc_E tc e) H
abbrev hc_A (bs : Nat) : Nat → Prop := fun q => bs ≤ q
def hc_tt : Nat → State → Prop := fun _ _ => True
/-- what a method may take as given of its start, beside the world: kept while nothing old is written -/
def hc_Ph (Ph : Nat → State → Prop) : Prop := (∀ (bs : Nat) (u U : State), U.vm = u.vm → (∀ q : Nat, q < bs → U.heap[q]? = u.heap[q]?) → Ph bs u → Ph bs U) ∧ ∀ (bs : Nat) (u U : State), u.WarmedH U.vm → (∀ q : Nat, q < bs → U.heap[q]? = u.heap[q]?) → Ph bs u → Ph bs U
theorem hc_Ph_tt : hc_Ph hc_tt := ⟨fun _ _ _ _ _ _ => trivial, fun _ _ _ _ _ _ => trivial⟩
/-- words that aren't carried by the tables' list: calls among nest mates, arrays of Plan -/
def hc_N (U : State) : Prop := va_Nw (.methodLinkNest RX5 11 ⟨RX3, "<init>", "()V"⟩ RX5) U ∧ va_Nw (.methodLinkNest RX5 18 ⟨RX2, "<init>", "()V"⟩ RX5) U ∧ va_Nw (.methodLinkNest RX1 17 ⟨RX2, "<init>", "()V"⟩ RX5) U ∧ va_Nw (.methodLinkNest RX3 49 ⟨RX5, "isWithin", "(III)Z"⟩ RX5) U ∧ va_Nw (.methodLinkNest RX0 131 ⟨RX5, "isStation", "(I)Z"⟩ RX5) U ∧ va_AO "BalancedLine$Plan" U
theorem hc_N.same {u U : State} (h : U.vm = u.vm) (hN : hc_N u) : hc_N U := by
  obtain ⟨h1, h2, h3, h4, h5, h6⟩ := hN
  exact ⟨va_Nw.same rfl h.symm h1, va_Nw.same rfl h.symm h2, va_Nw.same rfl h.symm h3, va_Nw.same rfl h.symm h4, va_Nw.same rfl h.symm h5, va_AO.moved (by rw [h]; exact Vm.Alike.refl _) h6⟩
theorem hc_N.warm {u U : State} (h : u.WarmedH U.vm) (hN : hc_N u) : hc_N U := by
  obtain ⟨h1, h2, h3, h4, h5, h6⟩ := hN
  exact ⟨va_Nw.warmM h h1, va_Nw.warmM h h2, va_Nw.warmM h h3, va_Nw.warmM h h4, va_Nw.warmM h h5, va_AO.moved h.alike h6⟩
def hc_U (Ph : Nat → State → Prop) (D : va_G) (tc : Nat → ClassId) (bs : Nat) (h : hc_H) (U : State) : Prop := hc_W D tc bs h U.heap ∧ va_K D hc_cls (hc_T tc) U ∧ hc_N U ∧ Ph bs U
def hc_Q (D : va_G) (tc : Nat → ClassId) (bs : Nat) (r : Option Value) (h' : hc_H) : Array Value → State → Outcome → State → Prop := fun _ st oc t => oc = .returned r ∧ hc_W D tc bs h' t.heap ∧ va_F (hc_A bs) st t
def hc_R (M : hc_M) (h h' : hc_H) : Room := { frames := mF M, cells := h'.2.1 - h.2.1, slots := h'.2.2 - h.2.2, locals := mO M }
def hc_ws (M : hc_M) : List Cond := .code (mN M) (mC M) (mL M) (mR M) :: lw_g
/-- THE CONTRACT: called with as in the heap h, the method answers r and leaves h' -/
def MX (Ph : Nat → State → Prop) (M : hc_M) (as : List Value) (h : hc_H) (r : Option Value) (h' : hc_H) : Prop :=
  (h.2.1 ≤ h'.2.1 ∧ h.2.2 ≤ h'.2.2) ∧ ∀ (l : Launch) (D : va_G) (tc : Nat → ClassId) (bs : Nat), Met l (mN M) (hc_ws M) (hc_R M h h') (va_Pc as (hc_U Ph D tc bs h)) (hc_Q D tc bs r h') (h'.2.1 - h.2.1) (h'.2.2 - h.2.2) (hc_A bs)
abbrev MA (M : hc_M) (as : List Value) (h : hc_H) (r : Option Value) (h' : hc_H) : Prop := MX hc_tt M as h r h'
/-- local variables by their places; a long takes two, the second is none -/
def lget : hc_L → Nat → Option Value
  | [], _ => none
  | a :: _, 0 => a
  | _ :: t, n + 1 => lget t n
def lclr : Option Value → Option Value
  | some (.long _) => none
  | some (.double _) => none
  | x => x
def lset : hc_L → Nat → Value → hc_L
  | [], _, _ => []
  | _ :: t, 0, v => some v :: t
  | a :: t, 1, v => lclr a :: lset t 0 v
  | a :: t, n + 2, v => a :: lset t (n + 1) v
def lnon : hc_L → Nat → hc_L
  | [], _ => []
  | _ :: t, 0 => none :: t
  | a :: t, n + 1 => a :: lnon t n
def lvk (ls : Array Slot) (n : Nat) (lv : hc_L) : Prop := ls.size = n ∧ lv_wf ls ∧ ∀ (i : Nat) (v : Value), lget lv i = some v → ls[i]? = some (.val v)
theorem lget_lset : ∀ (lv : hc_L) (i : Nat) (v : Value) (j : Nat) (w : Value), lget (lset lv i v) j = some w → (j = i ∧ w = v) ∨ (j ≠ i ∧ lget lv j = some w ∧ ¬ (j + 1 = i ∧ w.category = 2)) := by
  intro lv
  induction lv with
  | nil => intro i v j w h; cases i <;> (try (rename_i n; cases n)) <;> simp [lset, lget] at h
  | cons a t ih =>
    intro i v j w h
    match i, j with
    | 0, 0 => simp [lset, lget] at h; exact Or.inl ⟨rfl, h.symm⟩
    | 0, j + 1 => simp [lset, lget] at h; exact Or.inr ⟨by omega, by simpa [lget] using h, by omega⟩
    | 1, 0 =>
      simp only [lset, lget] at h
      refine Or.inr ⟨by omega, ?_, ?_⟩
      · simp only [lget]
        cases a with
        | none => simp [lclr] at h
        | some b => cases b <;> simp [lclr] at h ⊢ <;> exact h
      · rintro ⟨-, hc⟩
        cases a with
        | none => simp [lclr] at h
        | some b => cases b <;> simp [lclr] at h <;> (subst h; simp [Value.category] at hc)
    | 1, j + 1 =>
      simp only [lset, lget] at h
      rcases ih 0 v j w h with ⟨h1, h2⟩ | ⟨h1, h2, h3⟩
      · exact Or.inl ⟨by omega, h2⟩
      · exact Or.inr ⟨by omega, by simpa [lget] using h2, by omega⟩
    | i + 2, 0 =>
      simp only [lset, lget] at h
      exact Or.inr ⟨by omega, by simpa [lget] using h, by omega⟩
    | i + 2, j + 1 =>
      simp only [lset, lget] at h
      rcases ih (i + 1) v j w h with ⟨h1, h2⟩ | ⟨h1, h2, h3⟩
      · exact Or.inl ⟨by omega, h2⟩
      · exact Or.inr ⟨by omega, by simpa [lget] using h2, fun q => h3 ⟨by omega, q.2⟩⟩
theorem lget_lnon : ∀ (lv : hc_L) (i j : Nat) (w : Value), lget (lnon lv i) j = some w → j ≠ i ∧ lget lv j = some w := by
  intro lv
  induction lv with
  | nil => intro i j w h; simp [lnon, lget] at h
  | cons a t ih =>
    intro i j w h
    match i, j with
    | 0, 0 => simp [lnon, lget] at h
    | 0, j + 1 => simp only [lnon, lget] at h; exact ⟨by omega, by simpa [lget] using h⟩
    | i + 1, 0 => simp only [lnon, lget] at h; exact ⟨by omega, by simpa [lget] using h⟩
    | i + 1, j + 1 =>
      simp only [lnon, lget] at h
      obtain ⟨h1, h2⟩ := ih i j w h
      exact ⟨by omega, by simpa [lget] using h2⟩
def lprs (lv : hc_L) : List (Nat × Value) := (List.range lv.length).filterMap fun i => (lget lv i).map fun v => (i, v)
theorem lget_lt : ∀ (lv : hc_L) (i : Nat) (v : Value), lget lv i = some v → i < lv.length := by
  intro lv
  induction lv with
  | nil => intro i v h; simp [lget] at h
  | cons a t ih =>
    intro i v h
    cases i with
    | zero => simp
    | succ i => simp only [lget] at h; have := ih i v h; simp; omega
theorem lprs_mem {lv : hc_L} {i : Nat} {v : Value} : (i, v) ∈ lprs lv ↔ lget lv i = some v := by
  unfold lprs
  rw [List.mem_filterMap]
  constructor
  · rintro ⟨j, -, hj⟩
    cases hg : lget lv j with
    | none => rw [hg] at hj; cases hj
    | some w => rw [hg] at hj; simp at hj; obtain ⟨rfl, rfl⟩ := hj; exact hg
  · intro h
    exact ⟨i, List.mem_range.mpr (lget_lt lv i v h), by rw [h]; rfl⟩
theorem lvk.has {ls : Array Slot} {n : Nat} {lv : hc_L} (h : lvk ls n lv) : lv_has ls n (lprs lv) := ⟨h.1, h.2.1, fun q hq => h.2.2 q.1 q.2 (lprs_mem.mp hq)⟩
theorem lvk.st1 {ls' : Array Slot} {n i : Nat} {lv : hc_L} {v : Value} (h : lv_has ls' n ((i, v) :: (lprs lv).filter (fun q => !(q.1 == i) && !(q.1 + 1 == i && q.2.category == 2)))) : lvk ls' n (lset lv i v) := by
  refine ⟨h.1, h.2.1, fun j w hj => ?_⟩
  rcases lget_lset lv i v j w hj with ⟨rfl, rfl⟩ | ⟨h1, h2, h3⟩
  · exact h.2.2 (j, w) List.mem_cons_self
  · refine h.2.2 (j, w) (List.mem_cons_of_mem _ (List.mem_filter.mpr ⟨lprs_mem.mpr h2, ?_⟩))
    simp only [Bool.and_eq_true, Bool.not_eq_true', beq_eq_false_iff_ne, Bool.and_eq_false_iff]
    refine ⟨h1, ?_⟩
    by_cases hq : j + 1 = i
    · exact Or.inr (fun z => h3 ⟨hq, z⟩)
    · exact Or.inl hq
theorem lvk.st2 {ls' : Array Slot} {n i : Nat} {lv : hc_L} {v : Value} (h : lv_has ls' n ((i, v) :: (lprs lv).filter (fun q => !(q.1 == i) && (!(q.1 == i + 1) && !(q.1 + 1 == i && q.2.category == 2))))) : lvk ls' n (lnon (lset lv i v) (i + 1)) := by
  refine ⟨h.1, h.2.1, fun j w hj => ?_⟩
  obtain ⟨h0, hj⟩ := lget_lnon _ _ _ _ hj
  rcases lget_lset lv i v j w hj with ⟨rfl, rfl⟩ | ⟨h1, h2, h3⟩
  · exact h.2.2 (j, w) List.mem_cons_self
  · refine h.2.2 (j, w) (List.mem_cons_of_mem _ (List.mem_filter.mpr ⟨lprs_mem.mpr h2, ?_⟩))
    simp only [Bool.and_eq_true, Bool.not_eq_true', beq_eq_false_iff_ne, Bool.and_eq_false_iff]
    refine ⟨h1, h0, ?_⟩
    by_cases hq : j + 1 = i
    · exact Or.inr (fun z => h3 ⟨hq, z⟩)
    · exact Or.inl hq
/-- the method's own start: the machine, the code, the words, the classes -/
def cf (Ph : Nat → State → Prop) (M : hc_M) (h0 hf : hc_H) (p : Program) (s : State) (m : MethodId) (args : Array Value) (meth : Method) (c : Code) (D : va_G) (tc : Nat → ClassId) (bs : Nat) : Prop :=
  p.tables.exec = Jvm.exec ∧ c.code = mC M ∧ meth.sig.returnType = mR M ∧ c.maxLocals = mL M ∧ (∀ w ∈ hc_ws M, w.before args s = true) ∧ s.vm.findClass (mN M).cls = some m.cls ∧ meth.locks = false ∧ meth.name = (mN M).name ∧ va_K D hc_cls (hc_T tc) s ∧ hc_N s ∧ bs ≤ s.heap.size ∧ Ph bs s
/-- A PLACE: from pc, with these locals, this stack, this heap, the method comes to its end with r, hf -/
def cx (Ph : Nat → State → Prop) (M : hc_M) (h0 hf : hc_H) (r : Option Value) (pc : Nat) (lv : hc_L) (st : List Value) (h : hc_H) : Prop :=
  (h.2.1 ≤ hf.2.1 ∧ h.2.2 ≤ hf.2.2) ∧ ∀ (p : Program) (l : Launch) (e : Env) (s : State) (m : MethodId) (args : Array Value) (below : List Frame) (meth : Method) (c : Code) (D : va_G) (tc : Nat → ClassId) (bs : Nat), cf Ph M h0 hf p s m args meth c D tc bs → h0.2.1 ≤ h.2.1 → h0.2.2 ≤ h.2.2 → ∀ (H : Heap) (locs : List Loc) (ls : Array Slot), hc_W D tc bs h H → va_S (hc_A bs) s.heap H locs → lvk ls (mL M) lv →
    W p l e (hc_R M h0 hf) s m args below meth c H locs (h.2.1 - h0.2.1) (h.2.2 - h0.2.2) (MQ below (hc_Q D tc bs r hf) args s (hf.2.1 - h0.2.1) (hf.2.2 - h0.2.2) (hc_A bs)) (F0 m pc ls st)
section CX
variable {Ph : Nat → State → Prop} {M : hc_M} {h0 hf : hc_H} {r : Option Value} {pc : Nat} {K : hc_K}
/-- an instruction that leaves the heap -/
theorem cx.step {pc' : Nat} {lv lv' : hc_L} {st st' : List Value} {h : hc_H} (k : cx Ph M h0 hf r pc' lv' st' h)
    (f : ∀ (p : Program) (l : Launch) (e : Env) (R : Room) (s : State) (m : MethodId) (args : Array Value) (below : List Frame) (meth : Method) (c : Code) (H : Heap) (locs : List Loc) (cells slots : Nat) (Q : State → Prop) (ls : Array Slot), p.tables.exec = Jvm.exec → c.code = mC M → (∀ w ∈ hc_ws M, w.before args s = true) → s.vm.findClass (mN M).cls = some m.cls → lvk ls (mL M) lv → (∀ ls' : Array Slot, lvk ls' (mL M) lv' → W p l e R s m args below meth c H locs cells slots Q (F0 m pc' ls' st')) → W p l e R s m args below meth c H locs cells slots Q (F0 m pc ls st)) : cx Ph M h0 hf r pc lv st h := by
  refine ⟨k.1, fun p l e s m args below meth c D tc bs X g1 g2 H locs ls hW hS hl => ?_⟩
  exact f _ _ _ _ _ _ _ _ _ _ _ _ _ _ _ _ X.1 X.2.1 X.2.2.2.2.1 X.2.2.2.2.2.1 hl (fun ls' hl' => k.2 p l e s m args below meth c D tc bs X g1 g2 H locs ls' hW hS hl')
/-- a branch -/
theorem cx.two {pc1 pc2 : Nat} {A B : Prop} {lv : hc_L} {st st' : List Value} {h : hc_H} (dec : A ∨ B) (k1 : A → cx Ph M h0 hf r pc1 lv st' h) (k2 : B → cx Ph M h0 hf r pc2 lv st' h)
    (f : ∀ (p : Program) (l : Launch) (e : Env) (R : Room) (s : State) (m : MethodId) (args : Array Value) (below : List Frame) (meth : Method) (c : Code) (H : Heap) (locs : List Loc) (cells slots : Nat) (Q : State → Prop) (ls : Array Slot), p.tables.exec = Jvm.exec → c.code = mC M → (A → W p l e R s m args below meth c H locs cells slots Q (F0 m pc1 ls st')) → (B → W p l e R s m args below meth c H locs cells slots Q (F0 m pc2 ls st')) → W p l e R s m args below meth c H locs cells slots Q (F0 m pc ls st)) : cx Ph M h0 hf r pc lv st h := by
  refine ⟨?_, fun p l e s m args below meth c D tc bs X g1 g2 H locs ls hW hS hl => ?_⟩
  · rcases dec with a | b
    · exact (k1 a).1
    · exact (k2 b).1
  · exact f _ _ _ _ _ _ _ _ _ _ _ _ _ _ _ _ X.1 X.2.1 (fun a => (k1 a).2 p l e s m args below meth c D tc bs X g1 g2 H locs ls hW hS hl) (fun b => (k2 b).2 p l e s m args below meth c D tc bs X g1 g2 H locs ls hW hS hl)
end CX
