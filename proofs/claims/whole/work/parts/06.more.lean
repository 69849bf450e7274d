/-! SWITCHES, arraycopy. -/
section QW
variable {Ph : Nat → State → Prop} {M : hc_M} {h0 hf : hc_H} {r : Option Value} {pc : Nat} {K : hc_K}
def swok (Ph : Nat → State → Prop) (M : hc_M) (h0 hf : hc_H) (r : Option Value) (pc : Nat) : Int → List Int → List (Int32 × hc_K) → Prop
  | _, [], [] => True
  | lo, off :: os, (v, K) :: ks => v.toInt = lo ∧ (∃ tgt : Nat, (pc : Int) + off = (tgt : Int) ∧ qk Ph M h0 hf r tgt K) ∧ swok Ph M h0 hf r pc (lo + 1) os ks
  | _, _, _ => False
theorem swok_nth : ∀ (os : List Int) (ks : List (Int32 × hc_K)) (lo : Int) (i : Nat) (v : Int32) (K : hc_K), swok Ph M h0 hf r pc lo os ks → ks[i]? = some (v, K) → v.toInt = lo + i ∧ ∃ (off : Int) (tgt : Nat), os[i]? = some off ∧ (pc : Int) + off = (tgt : Int) ∧ qk Ph M h0 hf r tgt K := by
  intro os
  induction os with
  | nil => intro ks lo i v K h hk; cases ks with
    | nil => simp at hk
    | cons a t => exact h.elim
  | cons off os ih =>
    intro ks lo i v K h hk
    cases ks with
    | nil => exact h.elim
    | cons a t =>
      obtain ⟨v0, K0⟩ := a
      obtain ⟨h1, ⟨tgt, h2, h3⟩, h4⟩ := h
      cases i with
      | zero => cases hk; exact ⟨by rw [h1]; simp, off, tgt, rfl, h2, h3⟩
      | succ i =>
        have hk' : t[i]? = some (v, K) := by simpa using hk
        obtain ⟨q1, off', tgt', q2, q3, q4⟩ := ih t (lo + 1) i v K h4 hk'
        exact ⟨by rw [q1]; push_cast; omega, off', tgt', by simpa using q2, q3, q4⟩
theorem swok_len : ∀ (os : List Int) (ks : List (Int32 × hc_K)) (lo : Int), swok Ph M h0 hf r pc lo os ks → os.length = ks.length := by
  intro os
  induction os with
  | nil => intro ks lo h; cases ks with
    | nil => rfl
    | cons a t => exact h.elim
  | cons off os ih => intro ks lo h; cases ks with
    | nil => exact h.elim
    | cons a t => obtain ⟨v0, K0⟩ := a; simp [ih t _ h.2.2]
theorem qi_sw_spec : ∀ (ks : List (Int32 × hc_K)) (Kd : hc_K) (lv : hc_L) (st : List Value) (h : hc_H), qi_sw Kd ks lv st h → ∃ (x : Int32) (st' : List Value), st = .int x :: st' ∧ ((∃ (i : Nat) (K : hc_K), ks[i]? = some (x, K) ∧ K lv st' h) ∨ ((∀ (i : Nat) (v : Int32) (K : hc_K), ks[i]? = some (v, K) → x ≠ v) ∧ Kd lv st' h)) := by
  intro ks
  induction ks with
  | nil =>
    intro Kd lv st h hi
    match st, hi with
    | .int x :: st, hi => exact ⟨x, st, rfl, Or.inr ⟨fun i v K h => by simp at h, by simpa [qi_sw] using hi⟩⟩
  | cons a t ih =>
    intro Kd lv st h hi
    obtain ⟨v, K⟩ := a
    match st, hi with
    | .int x :: st, hi =>
      simp only [qi_sw] at hi
      by_cases hx : x = v
      · exact ⟨x, st, rfl, Or.inl ⟨0, K, by rw [hx]; rfl, hi.1 hx⟩⟩
      · obtain ⟨x', st', e, h1⟩ := ih Kd lv _ h (hi.2 hx)
        cases e
        refine ⟨x, st, rfl, ?_⟩
        rcases h1 with ⟨i, K', h2, h3⟩ | ⟨h2, h3⟩
        · exact Or.inl ⟨i + 1, K', by simpa using h2, h3⟩
        · refine Or.inr ⟨fun i v' K' hk => ?_, h3⟩
          cases i with
          | zero => cases hk; exact hx
          | succ i => exact h2 i v' K' (by simpa using hk)
theorem qs_table {dflt lo hi : Int} {offs : Array Int} {os : List Int} {len tgt : Nat} {ks : List (Int32 × hc_K)} {Kd : hc_K} (hd : decode (mC M) pc = .ok (.tableswitch dflt lo hi offs, len)) (hos : offs.toList = os) (hhi : hi + 1 = lo + (os.length : Int)) (hs : swok Ph M h0 hf r pc lo os ks) (ht : (pc : Int) + dflt = (tgt : Int)) (kd : qk Ph M h0 hf r tgt Kd) : qk Ph M h0 hf r pc (qi_sw Kd ks) := by
  intro lv st h hi0
  obtain ⟨x, st', rfl, h1⟩ := qi_sw_spec ks Kd lv st h hi0
  have hlen := swok_len os ks lo hs
  rcases h1 with ⟨i, K, h2, h3⟩ | ⟨h2, h3⟩
  · obtain ⟨q1, off, tg, q2, q3, q4⟩ := swok_nth os ks lo i x K hs h2
    have hil : i < os.length := (List.getElem?_eq_some_iff.mp q2).1
    refine (q4 lv st' h h3).step (fun p l e R s m args below meth c H locs cells slots Q ls hx hb hts hown hl kk => lv_tableIn (off := off) hx hb hd (by rw [q1]; omega) (by rw [q1]; omega) ?_ q3 (kk ls hl))
    rw [q1, show (lo + (i : Int) - lo).toNat = i by omega, ← Array.getElem?_toList, hos]
    exact q2
  · refine (kd lv st' h h3).step (fun p l e R s m args below meth c H locs cells slots Q ls hx hb hts hown hl kk => lv_tableOut hx hb hd ?_ ht (kk ls hl))
    by_cases g1 : x.toInt < lo
    · exact Or.inl g1
    · refine Or.inr ?_
      refine Int.not_le.mp (fun g2 => ?_)
      have hi' : (x.toInt - lo).toNat < ks.length := by omega
      obtain ⟨vK, hg⟩ : ∃ vK, ks[(x.toInt - lo).toNat]? = some vK := ⟨_, List.getElem?_eq_getElem hi'⟩
      obtain ⟨v, K⟩ := vK
      obtain ⟨q1, -⟩ := swok_nth os ks lo _ v K hs hg
      exact h2 _ v K hg (Int32.toInt_inj.mp (by rw [q1]; omega))
def luok (Ph : Nat → State → Prop) (M : hc_M) (h0 hf : hc_H) (r : Option Value) (pc : Nat) : List (Int × Int) → List (Int32 × hc_K) → Prop
  | [], [] => True
  | (a, off) :: os, (v, K) :: ks => v.toInt = a ∧ (∃ tgt : Nat, (pc : Int) + off = (tgt : Int) ∧ qk Ph M h0 hf r tgt K) ∧ luok Ph M h0 hf r pc os ks
  | _, _ => False
theorem luok_in : ∀ (os : List (Int × Int)) (ks : List (Int32 × hc_K)) (d : Int) (x : Int32) (tgt : Nat) (Kd : hc_K) (lv : hc_L) (st : List Value) (h : hc_H), luok Ph M h0 hf r pc os ks → (pc : Int) + d = (tgt : Int) → qk Ph M h0 hf r tgt Kd → qi_sw Kd ks lv (.int x :: st) h → ∃ (off : Int) (tg : Nat), Op.lookupswitch.offset os d x.toInt = off ∧ (pc : Int) + off = (tg : Int) ∧ cx Ph M h0 hf r tg lv st h := by
  intro os
  induction os with
  | nil =>
    intro ks d x tgt Kd lv st h hs hd kd hi
    cases ks with
    | nil => exact ⟨d, tgt, by first | rfl | simp [Op.lookupswitch.offset], hd, kd _ _ _ (by simpa [qi_sw] using hi)⟩
    | cons a t => exact hs.elim
  | cons a os ih =>
    intro ks d x tgt Kd lv st h hs hd kd hi
    obtain ⟨a, off⟩ := a
    cases ks with
    | nil => exact hs.elim
    | cons b t =>
      obtain ⟨v, K⟩ := b
      obtain ⟨h1, ⟨tg, h2, h3⟩, h4⟩ := hs
      simp only [qi_sw] at hi
      by_cases hx : x = v
      · refine ⟨off, tg, ?_, h2, h3 _ _ _ (hi.1 hx)⟩
        rw [Op.lookupswitch.offset_cons, if_pos (by rw [hx]; exact h1.symm)]
      · obtain ⟨off', tg', q1, q2, q3⟩ := ih t d x tgt Kd lv st h h4 hd kd (hi.2 hx)
        exact ⟨off', tg', by rw [lv_osw hx h1]; exact q1, q2, q3⟩
theorem qs_lookup {dflt : Int} {ps : Array (Int × Int)} {os : List (Int × Int)} {len tgt : Nat} {ks : List (Int32 × hc_K)} {Kd : hc_K} (hd : decode (mC M) pc = .ok (.lookupswitch dflt ps, len)) (hos : ps.toList = os) (hp : (ps.toList.zip (ps.toList.drop 1)).all (fun (a, next) => a.1 < next.1) = true) (hs : luok Ph M h0 hf r pc os ks) (ht : (pc : Int) + dflt = (tgt : Int)) (kd : qk Ph M h0 hf r tgt Kd) : qk Ph M h0 hf r pc (qi_sw Kd ks) := by
  intro lv st h hi
  obtain ⟨x, st', rfl, -⟩ := qi_sw_spec ks Kd lv st h hi
  obtain ⟨off, tg, q1, q2, q3⟩ := luok_in os ks dflt x tgt Kd lv st' h hs ht kd hi
  exact q3.step (fun p l e R s m args below meth c H locs cells slots Q ls hx hb hts hown hl kk => lv_lookup (off := off) hx hb hd hp (by rw [hos]; exact q1) q2 (kk ls hl))
/-- System.arraycopy over ints -/
def qi_acopy (K : hc_K) : hc_L → List Value → hc_H → Prop
  | lv, .int n :: .int dp :: .ref a :: .int sp :: .ref a0 :: st, h => shrt st ∧ at_i (h.1 a0) 0 (fun n0 f => at_i (h.1 a) 0 (fun n1 g => (¬ sp < 0 ∧ ¬ dp < 0 ∧ ¬ n < 0 ∧ sp.toNatClampNeg + n.toNatClampNeg ≤ n0 ∧ dp.toNatClampNeg + n.toNatClampNeg ≤ n1) ∧ K lv st (hc_set h a (.inl (0, n1, .inl (va_cpy f g sp.toNatClampNeg dp.toNatClampNeg n.toNatClampNeg))))))
  | _, _, _ => False
theorem qs_acopy {index : Nat} (hd : decode (mC M) pc = .ok (.invokestatic index, 3)) (hl1 : Cond.methodLink (mN M).cls index arraycopyName ∈ lw_g) (hl2 : Cond.native arraycopyName ∈ lw_g) (hl3 : Cond.static arraycopyName ∈ lw_g) (hl4 : Cond.initialized "java/lang/System" ∈ lw_g) (hF : 1 ≤ mF M) (hO : 26 ≤ mO M) (kk : qk Ph M h0 hf r (pc + 3) K) : qk Ph M h0 hf r pc (qi_acopy K) := by
  intro lv st h hi
  unfold qi_acopy at hi
  split at hi
  · rename_i n dp a sp a0 rest
    obtain ⟨hsh, hi⟩ := hi
    obtain ⟨n0, f, hf0, hi⟩ := at_i_spec hi
    obtain ⟨n1, g, hg0, ⟨h1, h2, h3, h4, h5⟩, hi⟩ := at_i_spec hi
    have k1 := kk _ _ _ hi
    refine ⟨k1.1, fun p l e s m args below meth c D tc bs X g1 g2 H locs ls hW hS hl => ?_⟩
    obtain ⟨hx, hb, -, hml, hts, hown, -, -, hK, -⟩ := id X
    have nn : ∀ z : Int32, ¬ z < 0 → z.toInt = (z.toNatClampNeg : Int) := by
      intro z hz
      have hz0 : (0 : Int) ≤ z.toInt := by
        have := Int32.not_lt.mp hz
        simpa using Int32.le_iff_toInt_le.mp this
      show z.toInt = ((z.toInt.toNat : Nat) : Int)
      omega
    intro T hT XT
    have hc0 : H[a0]? = some (vp_cell (tc 0) (n0, .inl f)) := (hW.2.2 a0 _ hf0).2
    obtain ⟨hba, hc1⟩ : bs ≤ a ∧ H[a]? = some (vp_cell (tc 0) (n1, .inl g)) := hW.2.2 a _ hg0
    obtain ⟨-, k0, hk0, cm0, hkk0⟩ := (hK.2 0 _ rfl).1 n0 (fun j => .int (f j))
    obtain ⟨-, k1', hk1, cm1, hkk1⟩ := (hK.2 0 _ rfl).1 n1 (fun j => .int (g j))
    have hsum := shrt_sum hsh
    have hnat : nativeFrameWords "java/lang/System" "arraycopy" 5 = 7 := by decide +kernel
    obtain ⟨vm', X', step⟩ := XT.arraycopy hx hown (hts _ (List.mem_cons_of_mem _ hl1)) (hts _ (List.mem_cons_of_mem _ hl2)) (hts _ (List.mem_cons_of_mem _ hl3)) (hts _ (List.mem_cons_of_mem _ hl4)) (src := a0) (dst := a) (cs := vp_cell (tc 0) (n0, .inl f)) (cd := vp_cell (tc 0) (n1, .inl g)) (srcPos := sp) (destPos := dp) (n := n) (by rw [hT]; exact hc0) (by rw [hT]; exact hc1)
      (fun _ h => by cases h) (fun _ h => by cases h) (fun h => by cases h) (fun h => by cases h) hk0 hk1 hkk0 hkk1 (by simp [refKind]) h1 h2 h3
      (by rw [nn sp h1, nn n h3]; show ¬ _ > ((arrV (tc 0) n0 (fun j => .int (f j))).slots.size : Int); rw [arrV_size]; omega)
      (by rw [nn dp h2, nn n h3]; show ¬ _ > ((arrV (tc 0) n1 (fun j => .int (g j))).slots.size : Int); rw [arrV_size]; omega)
      (fun vm₁ _ i hi => by
        have e : (vp_cell (tc 0) (n0, .inl f)).slots.getD (sp.toNatClampNeg + i) .null = .int (f (sp.toNatClampNeg + i)) := by
          show (arrV (tc 0) n0 (fun j => .int (f j))).slots.getD _ _ = _
          rw [Array.getD_eq_getD_getElem?, arrV_read _ _ (by omega)]
          rfl
        refine ⟨?_, ?_⟩
        · rw [e]
          rfl
        · rw [e]
          exact trivial)
      (g := F0 m pc ls (.int n :: .int dp :: .ref a :: .int sp :: .ref a0 :: rest)) rfl (by rw [hml]; exact hl.1) (rest := rest) rfl (by rw [hb]; exact hd) hF (by show 2 * 0 + _ + (nativeFrameWords "java/lang/System" "arraycopy" 5 + 11) ≤ mO M; omega)
    have e1 : copied (vp_cell (tc 0) (n0, .inl f)) (vp_cell (tc 0) (n1, .inl g)) sp dp n = vp_cell (tc 0) (n1, .inl (va_cpy f g sp.toNatClampNeg dp.toNatClampNeg n.toNatClampNeg)) := va_copied (fun z => .int z) (tc 0) (tc 0) f g h4
    rw [e1] at X' step
    have hla : a < H.size := (Array.getElem?_eq_some_iff.mp hc1).1
    have hheap : ((T.setVm vm').setCell a (vp_cell (tc 0) (n1, .inl (va_cpy f g sp.toNatClampNeg dp.toNatClampNeg n.toNatClampNeg)))).heap = H.setIfInBounds a (vp_cell (tc 0) (n1, .inl (va_cpy f g sp.toNatClampNeg dp.toNatClampNeg n.toNatClampNeg))) := by rw [← hT]; rfl
    have oq : ∀ q : Nat, q ≠ a → (H.setIfInBounds a (vp_cell (tc 0) (n1, .inl (va_cpy f g sp.toNatClampNeg dp.toNatClampNeg n.toNatClampNeg))))[q]? = H[q]? := fun q hq => by simp [Array.getElem?_setIfInBounds, Ne.symm hq]
    obtain ⟨t, b1, b2⟩ := k1.2 p l e s m args below meth c D tc bs X g1 g2 _ _ ls (hW.put hba (by simp) oq (show (H.setIfInBounds a _)[a]? = some _ by simp [Array.getElem?_setIfInBounds, hla])) ⟨by simp; exact hS.1, fun q g1 g2 => by
        rw [oq q (fun e => g2 (by rw [e]; exact hba))]
        exact hS.2.1 q g1 g2, fun q hq => by
        rcases List.mem_append.mp hq with h | h
        · exact hS.2.2 q h
        · obtain ⟨z, -, hz⟩ := List.mem_map.mp h
          rw [← hz]
          exact hba⟩ hl _ hheap X'
    exact ⟨t, step t b1, b2⟩
  · exact hi.elim
end QW
