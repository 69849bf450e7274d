/-! INSTRUCTIONS: qi_X K lv st h: what must hold at X so that K holds behind it; qs_X: it is so of the machine. Written by wip/whole/gen_instr.py. -/
section QI
variable {Ph : Nat → State → Prop} {M : hc_M} {h0 hf : hc_H} {r : Option Value} {pc : Nat} {K : hc_K}
abbrev qk (Ph : Nat → State → Prop) (M : hc_M) (h0 hf : hc_H) (r : Option Value) (pc : Nat) (K : hc_K) : Prop := ∀ (lv : hc_L) (st : List Value) (h : hc_H), K lv st h → cx Ph M h0 hf r pc lv st h
def qi_push (v : Int32) (K : hc_K) (lv : hc_L) (st : List Value) (h : hc_H) : Prop := K lv (.int v :: st) h
def qi_pushl (v : Int64) (K : hc_K) (lv : hc_L) (st : List Value) (h : hc_H) : Prop := K lv (.long v :: st) h
theorem qs_iconst {n : Int} {v : Int32} (hd : decode (mC M) pc = .ok (.iconst n, 1)) (hv : Int32.ofInt n = v) (k : qk Ph M h0 hf r (pc + 1) K) : qk Ph M h0 hf r pc (qi_push v K) := fun lv st h hi => (k lv _ h hi).step (fun p l e R s m args below meth c H locs cells slots Q ls hx hb hts hown hl kk => lv_iconst hx hb hd hv (kk ls hl))
theorem qs_bipush {n : Int} {v : Int32} (hd : decode (mC M) pc = .ok (.bipush n, 2)) (hv : (Int8.ofInt n).toInt32 = v) (k : qk Ph M h0 hf r (pc + 2) K) : qk Ph M h0 hf r pc (qi_push v K) := fun lv st h hi => (k lv _ h hi).step (fun p l e R s m args below meth c H locs cells slots Q ls hx hb hts hown hl kk => lv_bipush hx hb hd hv (kk ls hl))
theorem qs_sipush {n : Int} {v : Int32} (hd : decode (mC M) pc = .ok (.sipush n, 3)) (hv : (Int16.ofInt n).toInt32 = v) (k : qk Ph M h0 hf r (pc + 3) K) : qk Ph M h0 hf r pc (qi_push v K) := fun lv st h hi => (k lv _ h hi).step (fun p l e R s m args below meth c H locs cells slots Q ls hx hb hts hown hl kk => lv_sipush hx hb hd hv (kk ls hl))
theorem qs_lconst {n : Fin 2} {v : Int64} (hd : decode (mC M) pc = .ok (.lconst n, 1)) (hv : Int64.ofNat (n : Nat) = v) (k : qk Ph M h0 hf r (pc + 1) K) : qk Ph M h0 hf r pc (qi_pushl v K) := fun lv st h hi => (k lv _ h hi).step (fun p l e R s m args below meth c H locs cells slots Q ls hx hb hts hown hl kk => lv_lconst hx hb hd hv (kk ls hl))
theorem qs_ldc {index : Nat} {v : Int32} (hd : decode (mC M) pc = .ok (.ldc index, 2)) (hw : Cond.constant (mN M).cls index v ∈ lw_g) (k : qk Ph M h0 hf r (pc + 2) K) : qk Ph M h0 hf r pc (qi_push v K) := fun lv st h hi => (k lv _ h hi).step (fun p l e R s m args below meth c H locs cells slots Q ls hx hb hts hown hl kk => lv_ldc hx hb hown (hts _ (List.mem_cons_of_mem _ hw)) hd (kk ls hl))
theorem qs_ldc2 {index : Nat} {v : Int64} (hd : decode (mC M) pc = .ok (.ldc2_w index, 3)) (hw : Cond.constantLong (mN M).cls index v ∈ lw_g) (k : qk Ph M h0 hf r (pc + 3) K) : qk Ph M h0 hf r pc (qi_pushl v K) := fun lv st h hi => (k lv _ h hi).step (fun p l e R s m args below meth c H locs cells slots Q ls hx hb hts hown hl kk => lv_ldc2 hx hb hown (hts _ (List.mem_cons_of_mem _ hw)) hd (kk ls hl))
def qi_iload (i : Nat) (K : hc_K) (lv : hc_L) (st : List Value) (h : hc_H) : Prop := match lget lv i with
  | some (.int x) => K lv (.int x :: st) h
  | _ => False
theorem qs_iload_n {n : Fin 4} {i : Nat} (hd : decode (mC M) pc = .ok (.iload_n n, 1)) (hn : (n : Nat) = i) (k : qk Ph M h0 hf r (pc + 1) K) : qk Ph M h0 hf r pc (qi_iload i K) := by
  intro lv st h hi
  unfold qi_iload at hi
  split at hi
  · rename_i x hx0
    exact (k lv _ h hi).step (fun p l e R s m args below meth c H locs cells slots Q ls hx hb hts hown hl kk => lv_iload_n hx hb hd hn (hl.2.2 _ _ hx0) (kk ls hl))
  · exact hi.elim
theorem qs_iload {i : Nat} (hd : decode (mC M) pc = .ok (.iload i, 2)) (k : qk Ph M h0 hf r (pc + 2) K) : qk Ph M h0 hf r pc (qi_iload i K) := by
  intro lv st h hi
  unfold qi_iload at hi
  split at hi
  · rename_i x hx0
    exact (k lv _ h hi).step (fun p l e R s m args below meth c H locs cells slots Q ls hx hb hts hown hl kk => lv_iload hx hb hd (hl.2.2 _ _ hx0) (kk ls hl))
  · exact hi.elim
def qi_lload (i : Nat) (K : hc_K) (lv : hc_L) (st : List Value) (h : hc_H) : Prop := match lget lv i with
  | some (.long x) => K lv (.long x :: st) h
  | _ => False
theorem qs_lload_n {n : Fin 4} {i : Nat} (hd : decode (mC M) pc = .ok (.lload_n n, 1)) (hn : (n : Nat) = i) (k : qk Ph M h0 hf r (pc + 1) K) : qk Ph M h0 hf r pc (qi_lload i K) := by
  intro lv st h hi
  unfold qi_lload at hi
  split at hi
  · rename_i x hx0
    exact (k lv _ h hi).step (fun p l e R s m args below meth c H locs cells slots Q ls hx hb hts hown hl kk => lv_lload_n hx hb hd hn (hl.2.2 _ _ hx0) (kk ls hl))
  · exact hi.elim
theorem qs_lload {i : Nat} (hd : decode (mC M) pc = .ok (.lload i, 2)) (k : qk Ph M h0 hf r (pc + 2) K) : qk Ph M h0 hf r pc (qi_lload i K) := by
  intro lv st h hi
  unfold qi_lload at hi
  split at hi
  · rename_i x hx0
    exact (k lv _ h hi).step (fun p l e R s m args below meth c H locs cells slots Q ls hx hb hts hown hl kk => lv_lload hx hb hd (hl.2.2 _ _ hx0) (kk ls hl))
  · exact hi.elim
def qi_aload (i : Nat) (K : hc_K) (lv : hc_L) (st : List Value) (h : hc_H) : Prop := match lget lv i with
  | some (.ref x) => K lv (.ref x :: st) h
  | _ => False
theorem qs_aload_n {n : Fin 4} {i : Nat} (hd : decode (mC M) pc = .ok (.aload_n n, 1)) (hn : (n : Nat) = i) (k : qk Ph M h0 hf r (pc + 1) K) : qk Ph M h0 hf r pc (qi_aload i K) := by
  intro lv st h hi
  unfold qi_aload at hi
  split at hi
  · rename_i x hx0
    exact (k lv _ h hi).step (fun p l e R s m args below meth c H locs cells slots Q ls hx hb hts hown hl kk => lv_aload_n hx hb hd hn (hl.2.2 _ _ hx0) (kk ls hl))
  · exact hi.elim
theorem qs_aload {i : Nat} (hd : decode (mC M) pc = .ok (.aload i, 2)) (k : qk Ph M h0 hf r (pc + 2) K) : qk Ph M h0 hf r pc (qi_aload i K) := by
  intro lv st h hi
  unfold qi_aload at hi
  split at hi
  · rename_i x hx0
    exact (k lv _ h hi).step (fun p l e R s m args below meth c H locs cells slots Q ls hx hb hts hown hl kk => lv_aload hx hb hd (hl.2.2 _ _ hx0) (kk ls hl))
  · exact hi.elim
def qi_istore (i : Nat) (K : hc_K) : hc_L → List Value → hc_H → Prop
  | lv, .int x :: st, h => K (lset lv i (.int x)) st h
  | _, _, _ => False
theorem qs_istore_n {n : Fin 4} {i : Nat} (hd : decode (mC M) pc = .ok (.istore_n n, 1)) (hn : (n : Nat) = i) (hm : i < mL M) (k : qk Ph M h0 hf r (pc + 1) K) : qk Ph M h0 hf r pc (qi_istore i K) := by
  intro lv st h hi
  unfold qi_istore at hi
  split at hi
  · exact (k _ _ _ hi).step (fun p l e R s m args below meth c H locs cells slots Q ls hx hb hts hown hl kk => lv_istore_n hx hb hd hn hl.has hm rfl (fun ls' hl' => kk ls' (lvk.st1 hl')))
  · exact hi.elim
theorem qs_istore {i : Nat} (hd : decode (mC M) pc = .ok (.istore i, 2)) (hm : i < mL M) (k : qk Ph M h0 hf r (pc + 2) K) : qk Ph M h0 hf r pc (qi_istore i K) := by
  intro lv st h hi
  unfold qi_istore at hi
  split at hi
  · exact (k _ _ _ hi).step (fun p l e R s m args below meth c H locs cells slots Q ls hx hb hts hown hl kk => lv_istore hx hb hd hl.has hm rfl (fun ls' hl' => kk ls' (lvk.st1 hl')))
  · exact hi.elim
def qi_astore (i : Nat) (K : hc_K) : hc_L → List Value → hc_H → Prop
  | lv, .ref x :: st, h => K (lset lv i (.ref x)) st h
  | _, _, _ => False
theorem qs_astore_n {n : Fin 4} {i : Nat} (hd : decode (mC M) pc = .ok (.astore_n n, 1)) (hn : (n : Nat) = i) (hm : i < mL M) (k : qk Ph M h0 hf r (pc + 1) K) : qk Ph M h0 hf r pc (qi_astore i K) := by
  intro lv st h hi
  unfold qi_astore at hi
  split at hi
  · exact (k _ _ _ hi).step (fun p l e R s m args below meth c H locs cells slots Q ls hx hb hts hown hl kk => lv_astore_n hx hb hd hn hl.has hm rfl (fun ls' hl' => kk ls' (lvk.st1 hl')))
  · exact hi.elim
theorem qs_astore {i : Nat} (hd : decode (mC M) pc = .ok (.astore i, 2)) (hm : i < mL M) (k : qk Ph M h0 hf r (pc + 2) K) : qk Ph M h0 hf r pc (qi_astore i K) := by
  intro lv st h hi
  unfold qi_astore at hi
  split at hi
  · exact (k _ _ _ hi).step (fun p l e R s m args below meth c H locs cells slots Q ls hx hb hts hown hl kk => lv_astore hx hb hd hl.has hm rfl (fun ls' hl' => kk ls' (lvk.st1 hl')))
  · exact hi.elim
def qi_lstore (i : Nat) (K : hc_K) : hc_L → List Value → hc_H → Prop
  | lv, .long x :: st, h => K (lnon (lset lv i (.long x)) (i + 1)) st h
  | _, _, _ => False
theorem qs_lstore_n {n : Fin 4} {i : Nat} (hd : decode (mC M) pc = .ok (.lstore_n n, 1)) (hn : (n : Nat) = i) (hm : i + 1 < mL M) (k : qk Ph M h0 hf r (pc + 1) K) : qk Ph M h0 hf r pc (qi_lstore i K) := by
  intro lv st h hi
  unfold qi_lstore at hi
  split at hi
  · exact (k _ _ _ hi).step (fun p l e R s m args below meth c H locs cells slots Q ls hx hb hts hown hl kk => lv_lstore_n hx hb hd hn hl.has hm rfl (fun ls' hl' => kk ls' (lvk.st2 hl')))
  · exact hi.elim
theorem qs_lstore {i : Nat} (hd : decode (mC M) pc = .ok (.lstore i, 2)) (hm : i + 1 < mL M) (k : qk Ph M h0 hf r (pc + 2) K) : qk Ph M h0 hf r pc (qi_lstore i K) := by
  intro lv st h hi
  unfold qi_lstore at hi
  split at hi
  · exact (k _ _ _ hi).step (fun p l e R s m args below meth c H locs cells slots Q ls hx hb hts hown hl kk => lv_lstore hx hb hd hl.has hm rfl (fun ls' hl' => kk ls' (lvk.st2 hl')))
  · exact hi.elim
def qi_iinc (i : Nat) (v : Int32) (K : hc_K) (lv : hc_L) (st : List Value) (h : hc_H) : Prop := match lget lv i with
  | some (.int x) => K (lset lv i (.int (x + v))) st h
  | _ => False
theorem qs_iinc {i : Nat} {n : Int} {v : Int32} (hd : decode (mC M) pc = .ok (.iinc i n, 3)) (hv : Int32.ofInt n = v) (hm : i < mL M) (k : qk Ph M h0 hf r (pc + 3) K) : qk Ph M h0 hf r pc (qi_iinc i v K) := by
  intro lv st h hi
  unfold qi_iinc at hi
  split at hi
  · rename_i x hx0
    refine (k _ _ _ hi).step (fun p l e R s m args below meth c H locs cells slots Q ls hx hb hts hown hl kk => ?_)
    obtain ⟨q, hq⟩ := List.getElem?_of_mem (lprs_mem.mpr hx0)
    exact lv_iinc hx hb hd hl.has hq (by rw [hv]) hm rfl (fun ls' hl' => kk ls' (lvk.st1 hl'))
  · exact hi.elim
def qi_iadd (K : hc_K) : hc_L → List Value → hc_H → Prop
  | lv, .int y :: .int x :: st, h => K lv (.int (x + y) :: st) h
  | _, _, _ => False
theorem qs_iadd (hd : decode (mC M) pc = .ok (.iadd, 1)) (k : qk Ph M h0 hf r (pc + 1) K) : qk Ph M h0 hf r pc (qi_iadd K) := by
  intro lv st h hi
  unfold qi_iadd at hi
  split at hi
  · exact (k _ _ _ hi).step (fun p l e R s m args below meth c H locs cells slots Q ls hx hb hts hown hl kk => lv_iadd hx hb hd (kk ls hl))
  · exact hi.elim
def qi_isub (K : hc_K) : hc_L → List Value → hc_H → Prop
  | lv, .int y :: .int x :: st, h => K lv (.int (x - y) :: st) h
  | _, _, _ => False
theorem qs_isub (hd : decode (mC M) pc = .ok (.isub, 1)) (k : qk Ph M h0 hf r (pc + 1) K) : qk Ph M h0 hf r pc (qi_isub K) := by
  intro lv st h hi
  unfold qi_isub at hi
  split at hi
  · exact (k _ _ _ hi).step (fun p l e R s m args below meth c H locs cells slots Q ls hx hb hts hown hl kk => lv_isub hx hb hd (kk ls hl))
  · exact hi.elim
def qi_imul (K : hc_K) : hc_L → List Value → hc_H → Prop
  | lv, .int y :: .int x :: st, h => K lv (.int (x * y) :: st) h
  | _, _, _ => False
theorem qs_imul (hd : decode (mC M) pc = .ok (.imul, 1)) (k : qk Ph M h0 hf r (pc + 1) K) : qk Ph M h0 hf r pc (qi_imul K) := by
  intro lv st h hi
  unfold qi_imul at hi
  split at hi
  · exact (k _ _ _ hi).step (fun p l e R s m args below meth c H locs cells slots Q ls hx hb hts hown hl kk => lv_imul hx hb hd (kk ls hl))
  · exact hi.elim
def qi_iand (K : hc_K) : hc_L → List Value → hc_H → Prop
  | lv, .int y :: .int x :: st, h => K lv (.int (x &&& y) :: st) h
  | _, _, _ => False
theorem qs_iand (hd : decode (mC M) pc = .ok (.iand, 1)) (k : qk Ph M h0 hf r (pc + 1) K) : qk Ph M h0 hf r pc (qi_iand K) := by
  intro lv st h hi
  unfold qi_iand at hi
  split at hi
  · exact (k _ _ _ hi).step (fun p l e R s m args below meth c H locs cells slots Q ls hx hb hts hown hl kk => lv_iand hx hb hd (kk ls hl))
  · exact hi.elim
def qi_ior (K : hc_K) : hc_L → List Value → hc_H → Prop
  | lv, .int y :: .int x :: st, h => K lv (.int (x ||| y) :: st) h
  | _, _, _ => False
theorem qs_ior (hd : decode (mC M) pc = .ok (.ior, 1)) (k : qk Ph M h0 hf r (pc + 1) K) : qk Ph M h0 hf r pc (qi_ior K) := by
  intro lv st h hi
  unfold qi_ior at hi
  split at hi
  · exact (k _ _ _ hi).step (fun p l e R s m args below meth c H locs cells slots Q ls hx hb hts hown hl kk => lv_ior hx hb hd (kk ls hl))
  · exact hi.elim
def qi_ixor (K : hc_K) : hc_L → List Value → hc_H → Prop
  | lv, .int y :: .int x :: st, h => K lv (.int (x ^^^ y) :: st) h
  | _, _, _ => False
theorem qs_ixor (hd : decode (mC M) pc = .ok (.ixor, 1)) (k : qk Ph M h0 hf r (pc + 1) K) : qk Ph M h0 hf r pc (qi_ixor K) := by
  intro lv st h hi
  unfold qi_ixor at hi
  split at hi
  · exact (k _ _ _ hi).step (fun p l e R s m args below meth c H locs cells slots Q ls hx hb hts hown hl kk => lv_ixor hx hb hd (kk ls hl))
  · exact hi.elim
def qi_ishl (K : hc_K) : hc_L → List Value → hc_H → Prop
  | lv, .int y :: .int x :: st, h => K lv (.int (x <<< (y &&& 31)) :: st) h
  | _, _, _ => False
theorem qs_ishl (hd : decode (mC M) pc = .ok (.ishl, 1)) (k : qk Ph M h0 hf r (pc + 1) K) : qk Ph M h0 hf r pc (qi_ishl K) := by
  intro lv st h hi
  unfold qi_ishl at hi
  split at hi
  · exact (k _ _ _ hi).step (fun p l e R s m args below meth c H locs cells slots Q ls hx hb hts hown hl kk => lv_ishl hx hb hd (kk ls hl))
  · exact hi.elim
def qi_ishr (K : hc_K) : hc_L → List Value → hc_H → Prop
  | lv, .int y :: .int x :: st, h => K lv (.int (x >>> (y &&& 31)) :: st) h
  | _, _, _ => False
theorem qs_ishr (hd : decode (mC M) pc = .ok (.ishr, 1)) (k : qk Ph M h0 hf r (pc + 1) K) : qk Ph M h0 hf r pc (qi_ishr K) := by
  intro lv st h hi
  unfold qi_ishr at hi
  split at hi
  · exact (k _ _ _ hi).step (fun p l e R s m args below meth c H locs cells slots Q ls hx hb hts hown hl kk => lv_ishr hx hb hd (kk ls hl))
  · exact hi.elim
def qi_iushr (K : hc_K) : hc_L → List Value → hc_H → Prop
  | lv, .int y :: .int x :: st, h => K lv (.int (x.toUInt32 >>> (y.toUInt32 &&& Int32.toUInt32 31)).toInt32 :: st) h
  | _, _, _ => False
theorem qs_iushr (hd : decode (mC M) pc = .ok (.iushr, 1)) (k : qk Ph M h0 hf r (pc + 1) K) : qk Ph M h0 hf r pc (qi_iushr K) := by
  intro lv st h hi
  unfold qi_iushr at hi
  split at hi
  · exact (k _ _ _ hi).step (fun p l e R s m args below meth c H locs cells slots Q ls hx hb hts hown hl kk => lv_iushr hx hb hd rfl (kk ls hl))
  · exact hi.elim
def qi_idiv (K : hc_K) : hc_L → List Value → hc_H → Prop
  | lv, .int y :: .int x :: st, h => ¬ y = 0 ∧ K lv (.int (x / y) :: st) h
  | _, _, _ => False
theorem qs_idiv (hd : decode (mC M) pc = .ok (.idiv, 1)) (k : qk Ph M h0 hf r (pc + 1) K) : qk Ph M h0 hf r pc (qi_idiv K) := by
  intro lv st h hi
  unfold qi_idiv at hi
  split at hi
  · exact (k _ _ _ hi.2).step (fun p l e R s m args below meth c H locs cells slots Q ls hx hb hts hown hl kk => lv_idiv hx hb hd hi.1 (kk ls hl))
  · exact hi.elim
def qi_irem (K : hc_K) : hc_L → List Value → hc_H → Prop
  | lv, .int y :: .int x :: st, h => ¬ y = 0 ∧ K lv (.int (x - x / y * y) :: st) h
  | _, _, _ => False
theorem qs_irem (hd : decode (mC M) pc = .ok (.irem, 1)) (k : qk Ph M h0 hf r (pc + 1) K) : qk Ph M h0 hf r pc (qi_irem K) := by
  intro lv st h hi
  unfold qi_irem at hi
  split at hi
  · exact (k _ _ _ hi.2).step (fun p l e R s m args below meth c H locs cells slots Q ls hx hb hts hown hl kk => lv_irem hx hb hd hi.1 (kk ls hl))
  · exact hi.elim
def qi_lor (K : hc_K) : hc_L → List Value → hc_H → Prop
  | lv, .long y :: .long x :: st, h => K lv (.long (x ||| y) :: st) h
  | _, _, _ => False
theorem qs_lor (hd : decode (mC M) pc = .ok (.lor, 1)) (k : qk Ph M h0 hf r (pc + 1) K) : qk Ph M h0 hf r pc (qi_lor K) := by
  intro lv st h hi
  unfold qi_lor at hi
  split at hi
  · exact (k _ _ _ hi).step (fun p l e R s m args below meth c H locs cells slots Q ls hx hb hts hown hl kk => lv_lor hx hb hd (kk ls hl))
  · exact hi.elim
def qi_lmul (K : hc_K) : hc_L → List Value → hc_H → Prop
  | lv, .long y :: .long x :: st, h => K lv (.long (x * y) :: st) h
  | _, _, _ => False
theorem qs_lmul (hd : decode (mC M) pc = .ok (.lmul, 1)) (k : qk Ph M h0 hf r (pc + 1) K) : qk Ph M h0 hf r pc (qi_lmul K) := by
  intro lv st h hi
  unfold qi_lmul at hi
  split at hi
  · exact (k _ _ _ hi).step (fun p l e R s m args below meth c H locs cells slots Q ls hx hb hts hown hl kk => lv_lmul hx hb hd (kk ls hl))
  · exact hi.elim
def qi_ladd (K : hc_K) : hc_L → List Value → hc_H → Prop
  | lv, .long y :: .long x :: st, h => K lv (.long (x + y) :: st) h
  | _, _, _ => False
theorem qs_ladd (hd : decode (mC M) pc = .ok (.ladd, 1)) (k : qk Ph M h0 hf r (pc + 1) K) : qk Ph M h0 hf r pc (qi_ladd K) := by
  intro lv st h hi
  unfold qi_ladd at hi
  split at hi
  · exact (k _ _ _ hi).step (fun p l e R s m args below meth c H locs cells slots Q ls hx hb hts hown hl kk => lv_ladd hx hb hd (kk ls hl))
  · exact hi.elim
def qi_lsub (K : hc_K) : hc_L → List Value → hc_H → Prop
  | lv, .long y :: .long x :: st, h => K lv (.long (x - y) :: st) h
  | _, _, _ => False
theorem qs_lsub (hd : decode (mC M) pc = .ok (.lsub, 1)) (k : qk Ph M h0 hf r (pc + 1) K) : qk Ph M h0 hf r pc (qi_lsub K) := by
  intro lv st h hi
  unfold qi_lsub at hi
  split at hi
  · exact (k _ _ _ hi).step (fun p l e R s m args below meth c H locs cells slots Q ls hx hb hts hown hl kk => lv_lsub hx hb hd (kk ls hl))
  · exact hi.elim
def qi_land (K : hc_K) : hc_L → List Value → hc_H → Prop
  | lv, .long y :: .long x :: st, h => K lv (.long (x &&& y) :: st) h
  | _, _, _ => False
theorem qs_land (hd : decode (mC M) pc = .ok (.land, 1)) (k : qk Ph M h0 hf r (pc + 1) K) : qk Ph M h0 hf r pc (qi_land K) := by
  intro lv st h hi
  unfold qi_land at hi
  split at hi
  · exact (k _ _ _ hi).step (fun p l e R s m args below meth c H locs cells slots Q ls hx hb hts hown hl kk => lv_land hx hb hd (kk ls hl))
  · exact hi.elim
def qi_lshl (K : hc_K) : hc_L → List Value → hc_H → Prop
  | lv, .int y :: .long x :: st, h => K lv (.long (x <<< (y.toInt64 &&& 63)) :: st) h
  | _, _, _ => False
theorem qs_lshl (hd : decode (mC M) pc = .ok (.lshl, 1)) (k : qk Ph M h0 hf r (pc + 1) K) : qk Ph M h0 hf r pc (qi_lshl K) := by
  intro lv st h hi
  unfold qi_lshl at hi
  split at hi
  · exact (k _ _ _ hi).step (fun p l e R s m args below meth c H locs cells slots Q ls hx hb hts hown hl kk => lv_lshl hx hb hd rfl (kk ls hl))
  · exact hi.elim
def qi_lshr (K : hc_K) : hc_L → List Value → hc_H → Prop
  | lv, .int y :: .long x :: st, h => K lv (.long (x >>> (y.toInt64 &&& 63)) :: st) h
  | _, _, _ => False
theorem qs_lshr (hd : decode (mC M) pc = .ok (.lshr, 1)) (k : qk Ph M h0 hf r (pc + 1) K) : qk Ph M h0 hf r pc (qi_lshr K) := by
  intro lv st h hi
  unfold qi_lshr at hi
  split at hi
  · exact (k _ _ _ hi).step (fun p l e R s m args below meth c H locs cells slots Q ls hx hb hts hown hl kk => lv_lshr hx hb hd rfl (kk ls hl))
  · exact hi.elim
def qi_i2l (K : hc_K) : hc_L → List Value → hc_H → Prop
  | lv, .int x :: st, h => K lv (.long x.toInt64 :: st) h
  | _, _, _ => False
theorem qs_i2l (hd : decode (mC M) pc = .ok (.i2l, 1)) (k : qk Ph M h0 hf r (pc + 1) K) : qk Ph M h0 hf r pc (qi_i2l K) := by
  intro lv st h hi
  unfold qi_i2l at hi
  split at hi
  · exact (k _ _ _ hi).step (fun p l e R s m args below meth c H locs cells slots Q ls hx hb hts hown hl kk => lv_i2l hx hb hd rfl (kk ls hl))
  · exact hi.elim
def qi_l2i (K : hc_K) : hc_L → List Value → hc_H → Prop
  | lv, .long x :: st, h => K lv (.int x.toInt32 :: st) h
  | _, _, _ => False
theorem qs_l2i (hd : decode (mC M) pc = .ok (.l2i, 1)) (k : qk Ph M h0 hf r (pc + 1) K) : qk Ph M h0 hf r pc (qi_l2i K) := by
  intro lv st h hi
  unfold qi_l2i at hi
  split at hi
  · exact (k _ _ _ hi).step (fun p l e R s m args below meth c H locs cells slots Q ls hx hb hts hown hl kk => lv_l2i hx hb hd rfl (kk ls hl))
  · exact hi.elim
def qi_i2c (K : hc_K) : hc_L → List Value → hc_H → Prop
  | lv, .int x :: st, h => K lv (.int (x.toUInt32 % 65536).toInt32 :: st) h
  | _, _, _ => False
theorem qs_i2c (hd : decode (mC M) pc = .ok (.i2c, 1)) (k : qk Ph M h0 hf r (pc + 1) K) : qk Ph M h0 hf r pc (qi_i2c K) := by
  intro lv st h hi
  unfold qi_i2c at hi
  split at hi
  · exact (k _ _ _ hi).step (fun p l e R s m args below meth c H locs cells slots Q ls hx hb hts hown hl kk => lv_i2c hx hb hd rfl (kk ls hl))
  · exact hi.elim
def qi_lcmp (K : hc_K) : hc_L → List Value → hc_H → Prop
  | lv, .long y :: .long x :: st, h => K lv (.int (lg_cmp x y) :: st) h
  | _, _, _ => False
theorem qs_lcmp (hd : decode (mC M) pc = .ok (.lcmp, 1)) (k : qk Ph M h0 hf r (pc + 1) K) : qk Ph M h0 hf r pc (qi_lcmp K) := by
  intro lv st h hi
  unfold qi_lcmp at hi
  split at hi
  · exact (k _ _ _ hi).step (fun p l e R s m args below meth c H locs cells slots Q ls hx hb hts hown hl kk => W.lcmp hx hb hd (kk ls hl))
  · exact hi.elim
def qi_dup (K : hc_K) : hc_L → List Value → hc_H → Prop
  | lv, .int x :: st, h => K lv (.int x :: .int x :: st) h
  | lv, .ref x :: st, h => K lv (.ref x :: .ref x :: st) h
  | _, _, _ => False
theorem qs_dup (hd : decode (mC M) pc = .ok (.dup, 1)) (k : qk Ph M h0 hf r (pc + 1) K) : qk Ph M h0 hf r pc (qi_dup K) := by
  intro lv st h hi
  unfold qi_dup at hi
  split at hi
  · exact (k _ _ _ hi).step (fun p l e R s m args below meth c H locs cells slots Q ls hx hb hts hown hl kk => lv_dup hx hb hd rfl (kk ls hl))
  · exact (k _ _ _ hi).step (fun p l e R s m args below meth c H locs cells slots Q ls hx hb hts hown hl kk => lv_dup hx hb hd rfl (kk ls hl))
  · exact hi.elim
def qi_dup2 (K : hc_K) : hc_L → List Value → hc_H → Prop
  | lv, .int y :: .ref x :: st, h => K lv (.int y :: .ref x :: .int y :: .ref x :: st) h
  | _, _, _ => False
theorem qs_dup2 (hd : decode (mC M) pc = .ok (.dup2, 1)) (k : qk Ph M h0 hf r (pc + 1) K) : qk Ph M h0 hf r pc (qi_dup2 K) := by
  intro lv st h hi
  unfold qi_dup2 at hi
  split at hi
  · exact (k _ _ _ hi).step (fun p l e R s m args below meth c H locs cells slots Q ls hx hb hts hown hl kk => lv_dup2_11 hx hb hd rfl rfl (kk ls hl))
  · exact hi.elim
def qi_pop (K : hc_K) : hc_L → List Value → hc_H → Prop
  | lv, .int _ :: st, h => K lv st h
  | lv, .ref _ :: st, h => K lv st h
  | _, _, _ => False
theorem qs_pop (hd : decode (mC M) pc = .ok (.pop, 1)) (k : qk Ph M h0 hf r (pc + 1) K) : qk Ph M h0 hf r pc (qi_pop K) := by
  intro lv st h hi
  unfold qi_pop at hi
  split at hi
  · exact (k _ _ _ hi).step (fun p l e R s m args below meth c H locs cells slots Q ls hx hb hts hown hl kk => lv_pop hx hb hd rfl (kk ls hl))
  · exact (k _ _ _ hi).step (fun p l e R s m args below meth c H locs cells slots Q ls hx hb hts hown hl kk => lv_pop hx hb hd rfl (kk ls hl))
  · exact hi.elim
def qi_if_eq (T K : hc_K) : hc_L → List Value → hc_H → Prop
  | lv, .int x :: st, h => (x = 0 → T lv st h) ∧ (¬ x = 0 → K lv st h)
  | _, _, _ => False
theorem qs_if_eq {T : hc_K} {off : Int} {tgt : Nat} (hd : decode (mC M) pc = .ok (.ifCond .eq off, 3)) (ht : (pc : Int) + off = (tgt : Int)) (k1 : qk Ph M h0 hf r tgt T) (k2 : qk Ph M h0 hf r (pc + 3) K) : qk Ph M h0 hf r pc (qi_if_eq T K) := by
  intro lv st h hi
  unfold qi_if_eq at hi
  split at hi
  · exact cx.two (Classical.em _) (fun z => k1 _ _ _ (hi.1 z)) (fun z => k2 _ _ _ (hi.2 z)) (fun p l e R s m args below meth c H locs cells slots Q ls hx hb k1 k2 => lv_if_eq hx hb hd ht k1 k2)
  · exact hi.elim
def qi_icmp_eq (T K : hc_K) : hc_L → List Value → hc_H → Prop
  | lv, .int y :: .int x :: st, h => (x = y → T lv st h) ∧ (¬ x = y → K lv st h)
  | _, _, _ => False
theorem qs_icmp_eq {T : hc_K} {off : Int} {tgt : Nat} (hd : decode (mC M) pc = .ok (.if_icmp .eq off, 3)) (ht : (pc : Int) + off = (tgt : Int)) (k1 : qk Ph M h0 hf r tgt T) (k2 : qk Ph M h0 hf r (pc + 3) K) : qk Ph M h0 hf r pc (qi_icmp_eq T K) := by
  intro lv st h hi
  unfold qi_icmp_eq at hi
  split at hi
  · exact cx.two (Classical.em _) (fun z => k1 _ _ _ (hi.1 z)) (fun z => k2 _ _ _ (hi.2 z)) (fun p l e R s m args below meth c H locs cells slots Q ls hx hb k1 k2 => lv_icmp_eq hx hb hd ht k1 k2)
  · exact hi.elim
def qi_if_ne (T K : hc_K) : hc_L → List Value → hc_H → Prop
  | lv, .int x :: st, h => (¬ x = 0 → T lv st h) ∧ (x = 0 → K lv st h)
  | _, _, _ => False
theorem qs_if_ne {T : hc_K} {off : Int} {tgt : Nat} (hd : decode (mC M) pc = .ok (.ifCond .ne off, 3)) (ht : (pc : Int) + off = (tgt : Int)) (k1 : qk Ph M h0 hf r tgt T) (k2 : qk Ph M h0 hf r (pc + 3) K) : qk Ph M h0 hf r pc (qi_if_ne T K) := by
  intro lv st h hi
  unfold qi_if_ne at hi
  split at hi
  · exact cx.two ((Classical.em _).symm) (fun z => k1 _ _ _ (hi.1 z)) (fun z => k2 _ _ _ (hi.2 z)) (fun p l e R s m args below meth c H locs cells slots Q ls hx hb k1 k2 => lv_if_ne hx hb hd ht k1 k2)
  · exact hi.elim
def qi_icmp_ne (T K : hc_K) : hc_L → List Value → hc_H → Prop
  | lv, .int y :: .int x :: st, h => (¬ x = y → T lv st h) ∧ (x = y → K lv st h)
  | _, _, _ => False
theorem qs_icmp_ne {T : hc_K} {off : Int} {tgt : Nat} (hd : decode (mC M) pc = .ok (.if_icmp .ne off, 3)) (ht : (pc : Int) + off = (tgt : Int)) (k1 : qk Ph M h0 hf r tgt T) (k2 : qk Ph M h0 hf r (pc + 3) K) : qk Ph M h0 hf r pc (qi_icmp_ne T K) := by
  intro lv st h hi
  unfold qi_icmp_ne at hi
  split at hi
  · exact cx.two ((Classical.em _).symm) (fun z => k1 _ _ _ (hi.1 z)) (fun z => k2 _ _ _ (hi.2 z)) (fun p l e R s m args below meth c H locs cells slots Q ls hx hb k1 k2 => lv_icmp_ne hx hb hd ht k1 k2)
  · exact hi.elim
def qi_if_lt (T K : hc_K) : hc_L → List Value → hc_H → Prop
  | lv, .int x :: st, h => (x < 0 → T lv st h) ∧ (¬ x < 0 → K lv st h)
  | _, _, _ => False
theorem qs_if_lt {T : hc_K} {off : Int} {tgt : Nat} (hd : decode (mC M) pc = .ok (.ifCond .lt off, 3)) (ht : (pc : Int) + off = (tgt : Int)) (k1 : qk Ph M h0 hf r tgt T) (k2 : qk Ph M h0 hf r (pc + 3) K) : qk Ph M h0 hf r pc (qi_if_lt T K) := by
  intro lv st h hi
  unfold qi_if_lt at hi
  split at hi
  · exact cx.two (Classical.em _) (fun z => k1 _ _ _ (hi.1 z)) (fun z => k2 _ _ _ (hi.2 z)) (fun p l e R s m args below meth c H locs cells slots Q ls hx hb k1 k2 => lv_if_lt hx hb hd ht k1 k2)
  · exact hi.elim
def qi_icmp_lt (T K : hc_K) : hc_L → List Value → hc_H → Prop
  | lv, .int y :: .int x :: st, h => (x < y → T lv st h) ∧ (¬ x < y → K lv st h)
  | _, _, _ => False
theorem qs_icmp_lt {T : hc_K} {off : Int} {tgt : Nat} (hd : decode (mC M) pc = .ok (.if_icmp .lt off, 3)) (ht : (pc : Int) + off = (tgt : Int)) (k1 : qk Ph M h0 hf r tgt T) (k2 : qk Ph M h0 hf r (pc + 3) K) : qk Ph M h0 hf r pc (qi_icmp_lt T K) := by
  intro lv st h hi
  unfold qi_icmp_lt at hi
  split at hi
  · exact cx.two (Classical.em _) (fun z => k1 _ _ _ (hi.1 z)) (fun z => k2 _ _ _ (hi.2 z)) (fun p l e R s m args below meth c H locs cells slots Q ls hx hb k1 k2 => lv_icmp_lt hx hb hd ht k1 k2)
  · exact hi.elim
def qi_if_ge (T K : hc_K) : hc_L → List Value → hc_H → Prop
  | lv, .int x :: st, h => (0 ≤ x → T lv st h) ∧ (¬ 0 ≤ x → K lv st h)
  | _, _, _ => False
theorem qs_if_ge {T : hc_K} {off : Int} {tgt : Nat} (hd : decode (mC M) pc = .ok (.ifCond .ge off, 3)) (ht : (pc : Int) + off = (tgt : Int)) (k1 : qk Ph M h0 hf r tgt T) (k2 : qk Ph M h0 hf r (pc + 3) K) : qk Ph M h0 hf r pc (qi_if_ge T K) := by
  intro lv st h hi
  unfold qi_if_ge at hi
  split at hi
  · exact cx.two (Classical.em _) (fun z => k1 _ _ _ (hi.1 z)) (fun z => k2 _ _ _ (hi.2 z)) (fun p l e R s m args below meth c H locs cells slots Q ls hx hb k1 k2 => lv_if_ge hx hb hd ht k1 k2)
  · exact hi.elim
def qi_icmp_ge (T K : hc_K) : hc_L → List Value → hc_H → Prop
  | lv, .int y :: .int x :: st, h => (y ≤ x → T lv st h) ∧ (¬ y ≤ x → K lv st h)
  | _, _, _ => False
theorem qs_icmp_ge {T : hc_K} {off : Int} {tgt : Nat} (hd : decode (mC M) pc = .ok (.if_icmp .ge off, 3)) (ht : (pc : Int) + off = (tgt : Int)) (k1 : qk Ph M h0 hf r tgt T) (k2 : qk Ph M h0 hf r (pc + 3) K) : qk Ph M h0 hf r pc (qi_icmp_ge T K) := by
  intro lv st h hi
  unfold qi_icmp_ge at hi
  split at hi
  · exact cx.two (Classical.em _) (fun z => k1 _ _ _ (hi.1 z)) (fun z => k2 _ _ _ (hi.2 z)) (fun p l e R s m args below meth c H locs cells slots Q ls hx hb k1 k2 => lv_icmp_ge hx hb hd ht k1 k2)
  · exact hi.elim
def qi_if_gt (T K : hc_K) : hc_L → List Value → hc_H → Prop
  | lv, .int x :: st, h => (0 < x → T lv st h) ∧ (¬ 0 < x → K lv st h)
  | _, _, _ => False
theorem qs_if_gt {T : hc_K} {off : Int} {tgt : Nat} (hd : decode (mC M) pc = .ok (.ifCond .gt off, 3)) (ht : (pc : Int) + off = (tgt : Int)) (k1 : qk Ph M h0 hf r tgt T) (k2 : qk Ph M h0 hf r (pc + 3) K) : qk Ph M h0 hf r pc (qi_if_gt T K) := by
  intro lv st h hi
  unfold qi_if_gt at hi
  split at hi
  · exact cx.two (Classical.em _) (fun z => k1 _ _ _ (hi.1 z)) (fun z => k2 _ _ _ (hi.2 z)) (fun p l e R s m args below meth c H locs cells slots Q ls hx hb k1 k2 => lv_if_gt hx hb hd ht k1 k2)
  · exact hi.elim
def qi_icmp_gt (T K : hc_K) : hc_L → List Value → hc_H → Prop
  | lv, .int y :: .int x :: st, h => (y < x → T lv st h) ∧ (¬ y < x → K lv st h)
  | _, _, _ => False
theorem qs_icmp_gt {T : hc_K} {off : Int} {tgt : Nat} (hd : decode (mC M) pc = .ok (.if_icmp .gt off, 3)) (ht : (pc : Int) + off = (tgt : Int)) (k1 : qk Ph M h0 hf r tgt T) (k2 : qk Ph M h0 hf r (pc + 3) K) : qk Ph M h0 hf r pc (qi_icmp_gt T K) := by
  intro lv st h hi
  unfold qi_icmp_gt at hi
  split at hi
  · exact cx.two (Classical.em _) (fun z => k1 _ _ _ (hi.1 z)) (fun z => k2 _ _ _ (hi.2 z)) (fun p l e R s m args below meth c H locs cells slots Q ls hx hb k1 k2 => lv_icmp_gt hx hb hd ht k1 k2)
  · exact hi.elim
def qi_if_le (T K : hc_K) : hc_L → List Value → hc_H → Prop
  | lv, .int x :: st, h => (x ≤ 0 → T lv st h) ∧ (¬ x ≤ 0 → K lv st h)
  | _, _, _ => False
theorem qs_if_le {T : hc_K} {off : Int} {tgt : Nat} (hd : decode (mC M) pc = .ok (.ifCond .le off, 3)) (ht : (pc : Int) + off = (tgt : Int)) (k1 : qk Ph M h0 hf r tgt T) (k2 : qk Ph M h0 hf r (pc + 3) K) : qk Ph M h0 hf r pc (qi_if_le T K) := by
  intro lv st h hi
  unfold qi_if_le at hi
  split at hi
  · exact cx.two (Classical.em _) (fun z => k1 _ _ _ (hi.1 z)) (fun z => k2 _ _ _ (hi.2 z)) (fun p l e R s m args below meth c H locs cells slots Q ls hx hb k1 k2 => lv_if_le hx hb hd ht k1 k2)
  · exact hi.elim
def qi_icmp_le (T K : hc_K) : hc_L → List Value → hc_H → Prop
  | lv, .int y :: .int x :: st, h => (x ≤ y → T lv st h) ∧ (¬ x ≤ y → K lv st h)
  | _, _, _ => False
theorem qs_icmp_le {T : hc_K} {off : Int} {tgt : Nat} (hd : decode (mC M) pc = .ok (.if_icmp .le off, 3)) (ht : (pc : Int) + off = (tgt : Int)) (k1 : qk Ph M h0 hf r tgt T) (k2 : qk Ph M h0 hf r (pc + 3) K) : qk Ph M h0 hf r pc (qi_icmp_le T K) := by
  intro lv st h hi
  unfold qi_icmp_le at hi
  split at hi
  · exact cx.two (Classical.em _) (fun z => k1 _ _ _ (hi.1 z)) (fun z => k2 _ _ _ (hi.2 z)) (fun p l e R s m args below meth c H locs cells slots Q ls hx hb k1 k2 => lv_icmp_le hx hb hd ht k1 k2)
  · exact hi.elim
theorem qs_goto {off : Int} {tgt : Nat} (hd : decode (mC M) pc = .ok (.goto off, 3)) (ht : (pc : Int) + off = (tgt : Int)) (k : qk Ph M h0 hf r tgt K) : qk Ph M h0 hf r pc K := fun lv st h hi => (k lv st h hi).step (fun p l e R s m args below meth c H locs cells slots Q ls hx hb hts hown hl kk => lv_goto hx hb hd ht (kk ls hl))
/-- a switch: the continuations in order, of the values from lo on; else Kd -/
def qi_sw (Kd : hc_K) : List (Int32 × hc_K) → hc_L → List Value → hc_H → Prop
  | [], lv, .int _ :: st, h => Kd lv st h
  | (v, K) :: ks, lv, .int x :: st, h => (x = v → K lv st h) ∧ (¬ x = v → qi_sw Kd ks lv (.int x :: st) h)
  | _, _, _, _ => False
end QI
