/-! HEAP INSTRUCTIONS, CALLS, ENDS: as in 03. -/
section QH
variable {Ph : Nat → State → Prop} {M : hc_M} {h0 hf : hc_H} {r : Option Value} {pc : Nat} {K : hc_K}
theorem hc_W.get {D : va_G} {tc : Nat → ClassId} {bs : Nat} {h : hc_H} {H : Heap} {a : Nat} {e : hc_C} (hW : hc_W D tc bs h H) (he : h.1 a = some e) : va_P D hc_cls [(a, hc_E tc e)] H := by
  intro k q hk
  cases k with
  | zero => cases hk; exact (hW.2.2 a e he).2
  | succ k => simp at hk
theorem hc_W.put {D : va_G} {tc : Nat → ClassId} {bs : Nat} {h : hc_H} {H H1 : Heap} {a : Nat} {e : hc_C} (hW : hc_W D tc bs h H) (ha : bs ≤ a) (z : H1.size = H.size) (oq : ∀ q : Nat, q ≠ a → H1[q]? = H[q]?) (he : va_at D hc_cls (a, hc_E tc e) H1) : hc_W D tc bs (hc_set h a e) H1 := by
  refine ⟨z.trans hW.1, hW.2.1, fun q e' hq => ?_⟩
  simp only [hc_set] at hq
  by_cases hqa : q = a
  · subst hqa
    rw [if_pos rfl] at hq
    cases hq
    exact ⟨ha, he⟩
  · rw [if_neg hqa] at hq
    exact ⟨(hW.2.2 q e' hq).1, (hW.2.2 q e' hq).2.kept (oq q hqa)⟩
theorem hc_W.push {D : va_G} {tc : Nat → ClassId} {bs : Nat} {h : hc_H} {H H1 : Heap} {e : hc_C} {n : Nat} (hW : hc_W D tc bs h H) (z : H1.size = H.size + 1) (oq : ∀ q : Nat, q < H.size → H1[q]? = H[q]?) (he : va_at D hc_cls (H.size, hc_E tc e) H1) : hc_W D tc bs (hc_new h e n) H1 := by
  refine ⟨by rw [z, hW.1]; rfl, Nat.le_succ_of_le hW.2.1, fun q e' hq => ?_⟩
  simp only [hc_new] at hq
  by_cases hqa : q = h.2.1
  · subst hqa
    rw [if_pos rfl] at hq
    cases hq
    exact ⟨hW.2.1, by rw [← hW.1]; exact he⟩
  · rw [if_neg hqa] at hq
    have hat := (hW.2.2 q e' hq).2
    exact ⟨(hW.2.2 q e' hq).1, hat.kept (oq q hat.lt)⟩
theorem hc_S.push {bs : Nat} {H0 H H1 : Heap} {locs : List Loc} (hS : va_S (hc_A bs) H0 H locs) (z : H1.size = H.size + 1) (oq : ∀ q : Nat, q < H.size → H1[q]? = H[q]?) : va_S (hc_A bs) H0 H1 locs := ⟨by rw [z]; exact Nat.le_succ_of_le hS.1, fun q h1 h2 => (oq q (Nat.lt_of_lt_of_le h1 hS.1)).trans (hS.2.1 q h1 h2), hS.2.2⟩
/-- fields and arrays of a cell -/
def lnth : List Value → Nat → Option Value
  | [], _ => none
  | v :: _, 0 => some v
  | _ :: t, n + 1 => lnth t n
theorem lnth_eq : ∀ (fs : List Value) (k : Nat), lnth fs k = fs[k]? := by
  intro fs
  induction fs with
  | nil => intro k; rfl
  | cons v t ih => intro k; cases k with
    | zero => rfl
    | succ k => simp only [lnth, List.getElem?_cons_succ]; exact ih k
def at_o (o : Option hc_C) (ci : Nat) (P : List Value → Prop) : Prop := match o with
  | some (.inr (c, fs)) => c = ci ∧ P fs
  | _ => False
def at_i (o : Option hc_C) (kd : Nat) (P : Nat → (Nat → Int32) → Prop) : Prop := match o with
  | some (.inl (k, n, .inl f)) => k = kd ∧ P n f
  | _ => False
def at_l (o : Option hc_C) (P : Nat → (Nat → Int64) → Prop) : Prop := match o with
  | some (.inl (k, n, .inr (.inl f))) => k = 2 ∧ P n f
  | _ => False
def at_q (o : Option hc_C) (P : Nat → (Nat → Option Nat) → Prop) : Prop := match o with
  | some (.inl (k, n, .inr (.inr (.inr (.inr f))))) => k = 4 ∧ P n f
  | _ => False
def at_a (o : Option hc_C) (P : Nat → Prop) : Prop := match o with
  | some (.inl (k, n, _)) => k < 5 ∧ P n
  | _ => False
theorem at_o_spec {o : Option hc_C} {ci : Nat} {P : List Value → Prop} (h : at_o o ci P) : ∃ fs, o = some (.inr (ci, fs)) ∧ P fs := by
  unfold at_o at h
  split at h
  · obtain ⟨rfl, h⟩ := h; exact ⟨_, rfl, h⟩
  · exact h.elim
theorem at_i_spec {o : Option hc_C} {kd : Nat} {P : Nat → (Nat → Int32) → Prop} (h : at_i o kd P) : ∃ n f, o = some (.inl (kd, n, .inl f)) ∧ P n f := by
  unfold at_i at h
  split at h
  · obtain ⟨rfl, h⟩ := h; exact ⟨_, _, rfl, h⟩
  · exact h.elim
theorem at_l_spec {o : Option hc_C} {P : Nat → (Nat → Int64) → Prop} (h : at_l o P) : ∃ n f, o = some (.inl (2, n, .inr (.inl f))) ∧ P n f := by
  unfold at_l at h
  split at h
  · obtain ⟨rfl, h⟩ := h; exact ⟨_, _, rfl, h⟩
  · exact h.elim
theorem at_q_spec {o : Option hc_C} {P : Nat → (Nat → Option Nat) → Prop} (h : at_q o P) : ∃ n f, o = some (.inl (4, n, .inr (.inr (.inr (.inr f))))) ∧ P n f := by
  unfold at_q at h
  split at h
  · obtain ⟨rfl, h⟩ := h; exact ⟨_, _, rfl, h⟩
  · exact h.elim
theorem at_a_spec {o : Option hc_C} {P : Nat → Prop} (h : at_a o P) : ∃ k x, o = some (.inl (k, x)) ∧ k < 5 ∧ P x.1 := by
  unfold at_a at h
  split at h
  · obtain ⟨h1, h⟩ := h; exact ⟨_, _, rfl, h1, h⟩
  · exact h.elim
/-- getfield: class number ci, field k -/
def qi_get (ci k : Nat) (K : hc_K) : hc_L → List Value → hc_H → Prop
  | lv, .ref a :: st, h => at_o (h.1 a) ci (fun fs => match lnth fs k with
    | some v => K lv (v :: st) h
    | none => False)
  | _, _, _ => False
def hc_fld (own : String) (index ci k : Nat) : Prop := ∃ (C : String) (T : u_T) (N : Nat) (ty0 : Nat → FieldType), hc_cls[ci]? = some (C, T, N) ∧ k < N ∧ (∀ w ∈ u_ws C T N, w ∈ lw_g) ∧ Cond.fieldLink own index (T k).1 (T k).2.1 (T k).2.2.1 ∈ lw_g ∧ (∀ k, k < N → parseFieldDescriptor (T k).2.2.1 = some (ty0 k)) ∧ ∀ a, a < N → ∀ b, b < N → a ≠ b → (T a).2.1 ≠ (T b).2.1
theorem qs_get {index ci k : Nat} (hd : decode (mC M) pc = .ok (.getfield index, 3)) (hF : hc_fld (mN M).cls index ci k) (kk : qk Ph M h0 hf r (pc + 3) K) : qk Ph M h0 hf r pc (qi_get ci k K) := by
  intro lv st h hi
  unfold qi_get at hi
  split at hi
  · rename_i a st
    obtain ⟨fs, hfs, hi⟩ := at_o_spec hi
    split at hi
    · rename_i v hv
      obtain ⟨C, T, N, ty0, hc, hk, hin, hlink, -, -⟩ := hF
      have k1 := kk _ _ _ hi
      refine ⟨k1.1, fun p l e s m args below meth c D tc bs X g1 g2 H locs ls hW hS hl => ?_⟩
      obtain ⟨hx, hb, -, -, hts, hown, -, -, hK, -⟩ := id X
      rw [lnth_eq] at hv
      exact va_get hx hb hts (fun w hw => List.mem_cons_of_mem _ (hin w hw)) hown hK (hW.get hfs) 0 rfl hc k hk (hts _ (List.mem_cons_of_mem _ hlink)) (fun _ h9 => h9) hv hd (k1.2 p l e s m args below meth c D tc bs X g1 g2 H locs ls hW hS hl)
    · exact hi.elim
  · exact hi.elim
/-- what a field of this type may hold -/
def hc_fit (ty : FieldType) (v : Value) : Prop := narrow ty v = v ∧ fits ty v = true
theorem hc_fit_i {x : Int32} : hc_fit .int (.int x) := ⟨rfl, rfl⟩
theorem hc_fit_l {x : Int64} : hc_fit .long (.long x) := ⟨rfl, rfl⟩
/-- putfield -/
def qi_put (ci k : Nat) (ty : FieldType) (K : hc_K) : hc_L → List Value → hc_H → Prop
  | lv, v :: .ref a :: st, h => at_o (h.1 a) ci (fun fs => k < fs.length ∧ hc_fit ty v ∧ K lv st (hc_set h a (.inr (ci, fs.set k v))))
  | _, _, _ => False
theorem qs_put {index ci k : Nat} {ty : FieldType} (hd : decode (mC M) pc = .ok (.putfield index, 3)) (hF : hc_fld (mN M).cls index ci k) (hty : ∃ C T N, hc_cls[ci]? = some (C, T, N) ∧ (T k).2.2.2 = false ∧ parseFieldDescriptor (T k).2.2.1 = some ty) (kk : qk Ph M h0 hf r (pc + 3) K) : qk Ph M h0 hf r pc (qi_put ci k ty K) := by
  intro lv st h hi
  unfold qi_put at hi
  split at hi
  · rename_i v a st
    obtain ⟨fs, hfs, hkl, hfit, hi⟩ := at_o_spec hi
    obtain ⟨C, T, N, ty0, hc, hk, hin, hlink, htys, hnm⟩ := hF
    obtain ⟨C', T', N', hc', hfin, hd1⟩ := hty
    cases hc'.symm.trans hc
    have k1 := kk _ _ _ hi
    refine ⟨k1.1, fun p l e s m args below meth c D tc bs X g1 g2 H locs ls hW hS hl => ?_⟩
    obtain ⟨hx, hb, -, -, hts, hown, -, -, hK, -⟩ := id X
    have hin' : ∀ w ∈ u_ws C T N, w ∈ hc_ws M := fun w hw => List.mem_cons_of_mem _ (hin w hw)
    have hap := va_apart (own := (mN M).cls) hts hin' ty0 htys hnm hK hc
    obtain ⟨hba, r1, h1, cell, q1, q2, q3, q4⟩ := hW.2.2 a _ hfs
    have hr : r1 = (C, T, N) := Option.some.inj (h1.symm.trans hc)
    subst hr
    obtain ⟨hSl, hfc, kC, hkC, hkind⟩ := hK.1 ci _ hc
    obtain ⟨cf1, kf, fi, f, hi1, hsl⟩ := hSl k hk
    have hlay := hts _ (hin' _ (u_in_lay hk))
    unfold u_lay at hlay
    rw [if_neg (by rw [hfin]; decide)] at hlay
    have hst := (u_facts hfc hkC (u_lays hts hin' hk) hi1).1
    have h6 := u_store hfc hkC hkind hlay hi1 hd1 hfit.1 hfit.2
    refine W.putK hx hb (f := f) ⟨hown, hts _ (List.mem_cons_of_mem _ hlink), ⟨_, _, _, hi1⟩, hst⟩ (by rw [q2]; exact h6) q1 q3 (by rw [hsl]; exact k2_hasslot (q4 k hk)) rfl rfl hd fun H' e1 e2 e3 => ?_
    rw [hsl] at e1 ⊢
    exact k1.2 p l e s m args below meth c D tc bs X g1 g2 H' _ ls (hW.put hba e2 e3 ⟨_, hc, t_OB.to (V := updV (vp_V fs) k v) ⟨_, e1, q2, q3, t_set q4 hap hk v⟩ (fun j _ => vp_updV_set hkl v j)⟩) (hS.put e2 e3 hba) hl
  · exact hi.elim
theorem qs_putF {index ci k : Nat} {ty : FieldType} (hd : decode (mC M) pc = .ok (.putfield index, 3)) (hF : hc_fld (mN M).cls index ci k) (hini : (mN M).name = "<init>") (hty : ∃ C T N, hc_cls[ci]? = some (C, T, N) ∧ (T k).2.2.2 = true ∧ (T k).1 = (mN M).cls ∧ parseFieldDescriptor (T k).2.2.1 = some ty) (kk : qk Ph M h0 hf r (pc + 3) K) : qk Ph M h0 hf r pc (qi_put ci k ty K) := by
  intro lv st h hi
  unfold qi_put at hi
  split at hi
  · rename_i v a st
    obtain ⟨fs, hfs, hkl, hfit, hi⟩ := at_o_spec hi
    obtain ⟨C, T, N, ty0, hc, hk, hin, hlink, htys, hnm⟩ := hF
    obtain ⟨C', T', N', hc', hfin, hdecl, hd1⟩ := hty
    cases hc'.symm.trans hc
    have k1 := kk _ _ _ hi
    refine ⟨k1.1, fun p l e s m args below meth c D tc bs X g1 g2 H locs ls hW hS hl => ?_⟩
    obtain ⟨hx, hb, -, -, hts, hown, -, hnam, hK, -⟩ := id X
    have hin' : ∀ w ∈ u_ws C T N, w ∈ hc_ws M := fun w hw => List.mem_cons_of_mem _ (hin w hw)
    have hap := va_apart (own := (mN M).cls) hts hin' ty0 htys hnm hK hc
    obtain ⟨hba, r1, h1, cell, q1, q2, q3, q4⟩ := hW.2.2 a _ hfs
    have hr : r1 = (C, T, N) := Option.some.inj (h1.symm.trans hc)
    subst hr
    obtain ⟨hSl, hfc, kC, hkC, hkind⟩ := hK.1 ci _ hc
    obtain ⟨cf1, kf, fi, f, hi1, hsl⟩ := hSl k hk
    have hlay := hts _ (hin' _ (u_in_lay hk))
    unfold u_lay at hlay
    rw [if_pos hfin] at hlay
    have hst := (u_facts hfc hkC (u_lays hts hin' hk) hi1).1
    have hcf : m.cls = cf1 := by
      obtain ⟨_, _, c', _, _, _, -, -, hf', -, -, -, hown2, -⟩ := Cond.laysFinal_spec hlay
      have e1 : c' = cf1 := by have := hi1.symm.trans hf'; simp at this; exact this.1.symm
      rw [hdecl] at hown2
      rw [← e1]; exact Option.some.inj (hown.symm.trans hown2)
    have h6 := u_fits hfc hkC hkind (Or.inr hlay) hi1 hd1 hfit.1 hfit.2
    refine W.putFinK hx hb hown (hts _ (List.mem_cons_of_mem _ hlink)) hi1 hst hcf (hnam.trans hini) (by rw [q2]; exact h6) q1 q3 (by rw [hsl]; exact k2_hasslot (q4 k hk)) rfl rfl hd fun H' e1 e2 e3 => ?_
    rw [hsl] at e1 ⊢
    exact k1.2 p l e s m args below meth c D tc bs X g1 g2 H' _ ls (hW.put hba e2 e3 ⟨_, hc, t_OB.to (V := updV (vp_V fs) k v) ⟨_, e1, q2, q3, t_set q4 hap hk v⟩ (fun j _ => vp_updV_set hkl v j)⟩) (hS.put e2 e3 hba) hl
  · exact hi.elim
/-- array loads -/
def qi_iald (kd : Nat) (K : hc_K) : hc_L → List Value → hc_H → Prop
  | lv, .int i :: .ref a :: st, h => at_i (h.1 a) kd (fun n f => vp_in i n ∧ K lv (.int (f i.toNatClampNeg) :: st) h)
  | _, _, _ => False
theorem qs_iaload (hd : decode (mC M) pc = .ok (.iaload, 1)) (kk : qk Ph M h0 hf r (pc + 1) K) : qk Ph M h0 hf r pc (qi_iald 0 K) := by
  intro lv st h hi
  unfold qi_iald at hi
  split at hi
  · obtain ⟨n, f, hfs, hin, hi⟩ := at_i_spec hi
    have k1 := kk _ _ _ hi
    refine ⟨k1.1, fun p l e s m args below meth c D tc bs X g1 g2 H locs ls hW hS hl => ?_⟩
    obtain ⟨hx, hb, -, -, -, -, -, -, hK, -⟩ := id X
    exact va_iald hx hb hK (hW.get hfs) 0 0 rfl rfl hin hd (k1.2 p l e s m args below meth c D tc bs X g1 g2 H locs ls hW hS hl)
  · exact hi.elim
theorem qs_baload (hd : decode (mC M) pc = .ok (.baload, 1)) (kk : qk Ph M h0 hf r (pc + 1) K) : qk Ph M h0 hf r pc (qi_iald 1 K) := by
  intro lv st h hi
  unfold qi_iald at hi
  split at hi
  · obtain ⟨n, f, hfs, hin, hi⟩ := at_i_spec hi
    have k1 := kk _ _ _ hi
    refine ⟨k1.1, fun p l e s m args below meth c D tc bs X g1 g2 H locs ls hW hS hl => ?_⟩
    obtain ⟨hx, hb, -, -, -, -, -, -, hK, -⟩ := id X
    exact va_zald hx hb hK (hW.get hfs) 0 1 rfl rfl hin hd (k1.2 p l e s m args below meth c D tc bs X g1 g2 H locs ls hW hS hl)
  · exact hi.elim
theorem qs_caload (hd : decode (mC M) pc = .ok (.caload, 1)) (kk : qk Ph M h0 hf r (pc + 1) K) : qk Ph M h0 hf r pc (qi_iald 3 K) := by
  intro lv st h hi
  unfold qi_iald at hi
  split at hi
  · obtain ⟨n, f, hfs, hin, hi⟩ := at_i_spec hi
    have k1 := kk _ _ _ hi
    refine ⟨k1.1, fun p l e s m args below meth c D tc bs X g1 g2 H locs ls hW hS hl => ?_⟩
    obtain ⟨hx, hb, -, -, -, -, -, -, hK, -⟩ := id X
    exact va_cald hx hb hK (hW.get hfs) 0 3 rfl rfl hin hd (k1.2 p l e s m args below meth c D tc bs X g1 g2 H locs ls hW hS hl)
  · exact hi.elim
def qi_lald (K : hc_K) : hc_L → List Value → hc_H → Prop
  | lv, .int i :: .ref a :: st, h => at_l (h.1 a) (fun n f => vp_in i n ∧ K lv (.long (f i.toNatClampNeg) :: st) h)
  | _, _, _ => False
theorem qs_laload (hd : decode (mC M) pc = .ok (.laload, 1)) (kk : qk Ph M h0 hf r (pc + 1) K) : qk Ph M h0 hf r pc (qi_lald K) := by
  intro lv st h hi
  unfold qi_lald at hi
  split at hi
  · obtain ⟨n, f, hfs, hin, hi⟩ := at_l_spec hi
    have k1 := kk _ _ _ hi
    refine ⟨k1.1, fun p l e s m args below meth c D tc bs X g1 g2 H locs ls hW hS hl => ?_⟩
    obtain ⟨hx, hb, -, -, -, -, -, -, hK, -⟩ := id X
    exact va_lald hx hb hK (hW.get hfs) 0 2 rfl rfl hin hd (k1.2 p l e s m args below meth c D tc bs X g1 g2 H locs ls hW hS hl)
  · exact hi.elim
def qi_aald (K : hc_K) : hc_L → List Value → hc_H → Prop
  | lv, .int i :: .ref a :: st, h => at_q (h.1 a) (fun n f => vp_in i n ∧ K lv (va_rf (f i.toNatClampNeg) :: st) h)
  | _, _, _ => False
theorem qs_aaload (hd : decode (mC M) pc = .ok (.aaload, 1)) (kk : qk Ph M h0 hf r (pc + 1) K) : qk Ph M h0 hf r pc (qi_aald K) := by
  intro lv st h hi
  unfold qi_aald at hi
  split at hi
  · obtain ⟨n, f, hfs, hin, hi⟩ := at_q_spec hi
    have k1 := kk _ _ _ hi
    refine ⟨k1.1, fun p l e s m args below meth c D tc bs X g1 g2 H locs ls hW hS hl => ?_⟩
    obtain ⟨hx, hb, -, -, -, -, -, -, hK, -⟩ := id X
    exact va_aldq hx hb hK (hW.get hfs) 0 4 rfl rfl hin hd (k1.2 p l e s m args below meth c D tc bs X g1 g2 H locs ls hW hS hl)
  · exact hi.elim
/-- array stores -/
def qi_iast (K : hc_K) : hc_L → List Value → hc_H → Prop
  | lv, .int x :: .int i :: .ref a :: st, h => at_i (h.1 a) 0 (fun n f => vp_in i n ∧ K lv st (hc_set h a (.inl (0, n, .inl (upd f i.toNatClampNeg x)))))
  | _, _, _ => False
theorem qs_iastore (hd : decode (mC M) pc = .ok (.iastore, 1)) (kk : qk Ph M h0 hf r (pc + 1) K) : qk Ph M h0 hf r pc (qi_iast K) := by
  intro lv st h hi
  unfold qi_iast at hi
  split at hi
  · rename_i x i a st
    obtain ⟨n, f, hfs, hin, hi⟩ := at_i_spec hi
    have k1 := kk _ _ _ hi
    refine ⟨k1.1, fun p l e s m args below meth c D tc bs X g1 g2 H locs ls hW hS hl => ?_⟩
    obtain ⟨hx, hb, -, -, -, -, -, -, hK, -⟩ := id X
    obtain ⟨hba, hat⟩ := hW.2.2 a _ hfs
    refine W.iast hx hb (show H[a]? = some (vp_cell (tc 0) (n, .inl f)) from hat) ((hK.2 0 _ rfl).1 n (fun j => .int (f j))) (fun q => by cases q) (by show ¬ (i < 0 ∨ (arrV _ _ _).slots.size ≤ _); rw [arrV_size]; exact hin) rfl rfl hd fun H1 e1 z oq => ?_
    refine k1.2 p l e s m args below meth c D tc bs X g1 g2 H1 _ ls (hW.put hba z oq ?_) (hS.put z oq hba) hl
    show H1[a]? = some (vp_cell _ _)
    rw [e1]
    rw [vp_cell_i, vp_cell_i, arrV_store]
    congr 2
    funext q
    by_cases hq : q = i.toNatClampNeg
    · subst hq
      simp [updV, upd]
    · simp [updV, upd, hq]
  · exact hi.elim
def qi_zast (K : hc_K) : hc_L → List Value → hc_H → Prop
  | lv, .int x :: .int i :: .ref a :: st, h => at_i (h.1 a) 1 (fun n f => vp_in i n ∧ K lv st (hc_set h a (.inl (1, n, .inl (upd f i.toNatClampNeg (x &&& 1))))))
  | _, _, _ => False
theorem qs_bastore (hd : decode (mC M) pc = .ok (.bastore, 1)) (kk : qk Ph M h0 hf r (pc + 1) K) : qk Ph M h0 hf r pc (qi_zast K) := by
  intro lv st h hi
  unfold qi_zast at hi
  split at hi
  · rename_i x i a st
    obtain ⟨n, f, hfs, hin, hi⟩ := at_i_spec hi
    have k1 := kk _ _ _ hi
    refine ⟨k1.1, fun p l e s m args below meth c D tc bs X g1 g2 H locs ls hW hS hl => ?_⟩
    obtain ⟨hx, hb, -, -, -, -, -, -, hK, -⟩ := id X
    obtain ⟨hba, hat⟩ := hW.2.2 a _ hfs
    refine W.zast hx hb (show H[a]? = some (vp_cell (tc 1) (n, .inl f)) from hat) ((hK.2 1 _ rfl).1 n (fun j => .int (f j))) (fun q => by cases q) (by show ¬ (i < 0 ∨ (arrV _ _ _).slots.size ≤ _); rw [arrV_size]; exact hin) rfl rfl hd fun H1 e1 z oq => ?_
    refine k1.2 p l e s m args below meth c D tc bs X g1 g2 H1 _ ls (hW.put hba z oq ?_) (hS.put z oq hba) hl
    show H1[a]? = some (vp_cell _ _)
    rw [e1]
    rw [vp_cell_i, vp_cell_i, arrV_store]
    congr 2
    funext q
    by_cases hq : q = i.toNatClampNeg
    · subst hq
      simp [updV, upd, narrow]
    · simp [updV, upd, hq]
  · exact hi.elim
def qi_cast (K : hc_K) : hc_L → List Value → hc_H → Prop
  | lv, .int x :: .int i :: .ref a :: st, h => at_i (h.1 a) 3 (fun n f => vp_in i n ∧ K lv st (hc_set h a (.inl (3, n, .inl (upd f i.toNatClampNeg (vp_nar .char x))))))
  | _, _, _ => False
theorem qs_castore (hd : decode (mC M) pc = .ok (.castore, 1)) (kk : qk Ph M h0 hf r (pc + 1) K) : qk Ph M h0 hf r pc (qi_cast K) := by
  intro lv st h hi
  unfold qi_cast at hi
  split at hi
  · rename_i x i a st
    obtain ⟨n, f, hfs, hin, hi⟩ := at_i_spec hi
    have k1 := kk _ _ _ hi
    refine ⟨k1.1, fun p l e s m args below meth c D tc bs X g1 g2 H locs ls hW hS hl => ?_⟩
    obtain ⟨hx, hb, -, -, -, -, -, -, hK, -⟩ := id X
    obtain ⟨hba, hat⟩ := hW.2.2 a _ hfs
    refine W.cast hx hb (show H[a]? = some (vp_cell (tc 3) (n, .inl f)) from hat) ((hK.2 3 _ rfl).1 n (fun j => .int (f j))) (fun q => by cases q) (by show ¬ (i < 0 ∨ (arrV _ _ _).slots.size ≤ _); rw [arrV_size]; exact hin) rfl rfl hd fun H1 e1 z oq => ?_
    refine k1.2 p l e s m args below meth c D tc bs X g1 g2 H1 _ ls (hW.put hba z oq ?_) (hS.put z oq hba) hl
    show H1[a]? = some (vp_cell _ _)
    rw [e1]
    rw [vp_cell_i, vp_cell_i, arrV_store]
    congr 2
    funext q
    by_cases hq : q = i.toNatClampNeg
    · subst hq
      simp [updV, upd, vp_nar]
      try rfl
    · simp [updV, upd, hq]
  · exact hi.elim
def qi_last (K : hc_K) : hc_L → List Value → hc_H → Prop
  | lv, .long x :: .int i :: .ref a :: st, h => at_l (h.1 a) (fun n f => vp_in i n ∧ K lv st (hc_set h a (.inl (2, n, .inr (.inl (vp_updL f i.toNatClampNeg x))))))
  | _, _, _ => False
theorem qs_lastore (hd : decode (mC M) pc = .ok (.lastore, 1)) (kk : qk Ph M h0 hf r (pc + 1) K) : qk Ph M h0 hf r pc (qi_last K) := by
  intro lv st h hi
  unfold qi_last at hi
  split at hi
  · rename_i x i a st
    obtain ⟨n, f, hfs, hin, hi⟩ := at_l_spec hi
    have k1 := kk _ _ _ hi
    refine ⟨k1.1, fun p l e s m args below meth c D tc bs X g1 g2 H locs ls hW hS hl => ?_⟩
    obtain ⟨hx, hb, -, -, -, -, -, -, hK, -⟩ := id X
    obtain ⟨hba, hat⟩ := hW.2.2 a _ hfs
    refine W.last hx hb (show H[a]? = some (vp_cell (tc 2) (n, .inr (.inl f))) from hat) ((hK.2 2 _ rfl).1 n (fun j => .long (f j))) (fun q => by cases q) (by show ¬ (i < 0 ∨ (arrV _ _ _).slots.size ≤ _); rw [arrV_size]; exact hin) rfl rfl hd fun H1 e1 z oq => ?_
    refine k1.2 p l e s m args below meth c D tc bs X g1 g2 H1 _ ls (hW.put hba z oq ?_) (hS.put z oq hba) hl
    show H1[a]? = some (vp_cell _ _)
    rw [e1]
    rw [vp_cell_l, vp_cell_l, arrV_store]
    congr 2
    funext q
    by_cases hq : q = i.toNatClampNeg
    · subst hq
      simp [updV, vp_updL]
    · simp [updV, vp_updL, hq]
  · exact hi.elim
def qi_aast (K : hc_K) : hc_L → List Value → hc_H → Prop
  | lv, .ref v :: .int i :: .ref a :: st, h => at_o (h.1 v) 2 (fun _ => at_q (h.1 a) (fun n f => vp_in i n ∧ K lv st (hc_set h a (.inl (4, n, .inr (.inr (.inr (.inr (va_up f i.toNatClampNeg (some v))))))))))
  | _, _, _ => False
theorem qs_aastore (hd : decode (mC M) pc = .ok (.aastore, 1)) (kk : qk Ph M h0 hf r (pc + 1) K) : qk Ph M h0 hf r pc (qi_aast K) := by
  intro lv st h hi
  unfold qi_aast at hi
  split at hi
  · rename_i v i a st
    obtain ⟨fs, hv, hi⟩ := at_o_spec hi
    obtain ⟨n, f, hfs, hin, hi⟩ := at_q_spec hi
    have k1 := kk _ _ _ hi
    refine ⟨k1.1, fun p l e s m args below meth c D tc bs X g1 g2 H locs ls hW hS hl => ?_⟩
    obtain ⟨hx, hb, -, -, -, -, -, -, hK, -⟩ := id X
    obtain ⟨hba, hat⟩ := hW.2.2 a _ hfs
    have hlt : i.toNatClampNeg < n := Nat.not_le.mp fun q => hin (Or.inr q)
    have h0' : ¬ i < 0 := fun q => hin (Or.inl q)
    obtain ⟨-, r', hr', cellV, g1', g2', g3, -⟩ := hW.2.2 v _ hv
    have hr : r' = (RX2, TX2, 7) := Option.some.inj (hr'.symm.trans rfl)
    subst hr
    have hcls := (hK.1 2 _ rfl).2
    obtain ⟨kA, comp, k1', k2, k3, -⟩ := (hK.2 4 _ rfl).2
    have hcomp : comp = D.1 2 := Option.some.inj (k3.symm.trans hcls.1)
    subst hcomp
    obtain ⟨kC, hkC, -⟩ := hcls.2
    refine W.aast hx hb (show H[a]? = some (vp_cell (tc 4) (n, .inr (.inr (.inr (.inr f))))) from hat) (fun q h => by cases h) (fun h => by cases h) k1' k2 rfl hkC ⟨h0', by show _ < (arrV _ _ _).slots.size; rw [arrV_size]; exact hlt⟩ g1' (fun q h => by rw [g3] at h; cases h) (by rw [g2']; exact hkC) (by rw [g2']; exact va_assign hcls) rfl rfl hd fun H1 e1 z oq => ?_
    refine k1.2 p l e s m args below meth c D tc bs X g1 g2 H1 _ ls (hW.put hba z oq ?_) (hS.put z oq hba) hl
    show H1[a]? = some (vp_cell _ _)
    rw [e1]
    rw [vp_cell_q, vp_cell_q, arrV_store]
    congr 2
    funext q
    by_cases hq : q = i.toNatClampNeg
    · subst hq
      simp [updV, va_up, va_rf]
    · simp [updV, va_up, hq]
  · exact hi.elim
def qi_alen (K : hc_K) : hc_L → List Value → hc_H → Prop
  | lv, .ref a :: st, h => at_a (h.1 a) (fun n => K lv (.int (nI n) :: st) h)
  | _, _, _ => False
theorem qs_alen (hd : decode (mC M) pc = .ok (.arraylength, 1)) (kk : qk Ph M h0 hf r (pc + 1) K) : qk Ph M h0 hf r pc (qi_alen K) := by
  intro lv st h hi
  unfold qi_alen at hi
  split at hi
  · obtain ⟨k, x, hfs, hk, hi⟩ := at_a_spec hi
    have k1 := kk _ _ _ hi
    refine ⟨k1.1, fun p l e s m args below meth c D tc bs X g1 g2 H locs ls hW hS hl => ?_⟩
    obtain ⟨hx, hb, -, -, -, -, -, -, hK, -⟩ := id X
    have K1 := k1.2 p l e s m args below meth c D tc bs X g1 g2 H locs ls hW hS hl
    rcases (show k = 0 ∨ k = 1 ∨ k = 2 ∨ k = 3 ∨ k = 4 by omega) with rfl | rfl | rfl | rfl | rfl
    · exact va_alen hx hb hK (hW.get hfs) 0 0 rfl rfl rfl hd K1
    · exact va_alen hx hb hK (hW.get hfs) 0 1 rfl rfl rfl hd K1
    · exact va_alen hx hb hK (hW.get hfs) 0 2 rfl rfl rfl hd K1
    · exact va_alen hx hb hK (hW.get hfs) 0 3 rfl rfl rfl hd K1
    · exact va_alen hx hb hK (hW.get hfs) 0 4 rfl rfl rfl hd K1
  · exact hi.elim
end QH
