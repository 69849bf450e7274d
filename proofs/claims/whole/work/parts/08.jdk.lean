theorem wk_max : Cond.code Lib.Math.max.name Lib.Math.max.code 2 (some .int) ∈ lw_g := lw_in 310 (by decide +kernel) (by decide +kernel)
theorem wk_max_s : Cond.static Lib.Math.max.name ∈ lw_g := lw_in 309 (by decide +kernel) (by decide +kernel)
def qi_max (K : hc_K) : hc_L → List Value → hc_H → Prop
  | lv, .int y :: .int x :: st, h => shrt st ∧ K lv (.int (if x < y then y else x) :: st) h
  | _, _, _ => False
theorem qs_max {Ph : Nat → State → Prop} {M : hc_M} {h0 hf : hc_H} {r : Option Value} {pc : Nat} {K : hc_K} {index : Nat} (hd : decode (mC M) pc = .ok (.invokestatic index, 3)) (hl1 : Cond.methodLink (mN M).cls index Lib.Math.max.name ∈ lw_g) (hF : 1 ≤ mF M) (hO : 21 ≤ mO M) (kk : qk Ph M h0 hf r (pc + 3) K) : qk Ph M h0 hf r pc (qi_max K) := by
  intro lv st h hi
  unfold qi_max at hi
  split at hi
  · have k1 := kk _ _ _ hi.2
    have a1 := k1.1.1
    have a2 := k1.1.2
    refine ⟨k1.1, fun p l e s m args below meth c D tc bs X g1 g2 H locs ls hW hS hl => ?_⟩
    obtain ⟨hx, hb, -, hml, hts, hown, -⟩ := id X
    have hsum := shrt_sum hi.1
    exact va_mmax hx hb (by rw [hml]; exact hl.1.symm) hown (hts _ (List.mem_cons_of_mem _ hl1)) (hts _ (List.mem_cons_of_mem _ wk_max_s)) (hts _ (List.mem_cons_of_mem _ wk_65)) (hts _ (List.mem_cons_of_mem _ wk_max)) hF (by show _ + 13 ≤ mO M; omega) (by show h.2.1 - h0.2.1 ≤ hf.2.1 - h0.2.1; omega) (by show h.2.2 - h0.2.2 ≤ hf.2.2 - h0.2.2; omega) hd (k1.2 p l e s m args below meth c D tc bs X g1 g2 H locs ls hW hS hl)
  · exact hi.elim
theorem wk_min : Cond.code Lib.Math.min.name Lib.Math.min.code 2 (some .int) ∈ lw_g := lw_in 307 (by decide +kernel) (by decide +kernel)
theorem wk_min_s : Cond.static Lib.Math.min.name ∈ lw_g := lw_in 306 (by decide +kernel) (by decide +kernel)
def qi_min (K : hc_K) : hc_L → List Value → hc_H → Prop
  | lv, .int y :: .int x :: st, h => shrt st ∧ K lv (.int (if y < x then y else x) :: st) h
  | _, _, _ => False
theorem qs_min {Ph : Nat → State → Prop} {M : hc_M} {h0 hf : hc_H} {r : Option Value} {pc : Nat} {K : hc_K} {index : Nat} (hd : decode (mC M) pc = .ok (.invokestatic index, 3)) (hl1 : Cond.methodLink (mN M).cls index Lib.Math.min.name ∈ lw_g) (hF : 1 ≤ mF M) (hO : 21 ≤ mO M) (kk : qk Ph M h0 hf r (pc + 3) K) : qk Ph M h0 hf r pc (qi_min K) := by
  intro lv st h hi
  unfold qi_min at hi
  split at hi
  · have k1 := kk _ _ _ hi.2
    have a1 := k1.1.1
    have a2 := k1.1.2
    refine ⟨k1.1, fun p l e s m args below meth c D tc bs X g1 g2 H locs ls hW hS hl => ?_⟩
    obtain ⟨hx, hb, -, hml, hts, hown, -⟩ := id X
    have hsum := shrt_sum hi.1
    exact va_mmin hx hb (by rw [hml]; exact hl.1.symm) hown (hts _ (List.mem_cons_of_mem _ hl1)) (hts _ (List.mem_cons_of_mem _ wk_min_s)) (hts _ (List.mem_cons_of_mem _ wk_65)) (hts _ (List.mem_cons_of_mem _ wk_min)) hF (by show _ + 13 ≤ mO M; omega) (by show h.2.1 - h0.2.1 ≤ hf.2.1 - h0.2.1; omega) (by show h.2.2 - h0.2.2 ≤ hf.2.2 - h0.2.2; omega) hd (k1.2 p l e s m args below meth c D tc bs X g1 g2 H locs ls hW hS hl)
  · exact hi.elim
/-! java/lang/Integer.bitCount(I)I -/
abbrev M_J_bitCount : hc_M := (⟨"java/lang/Integer", "bitCount", "(I)I"⟩, prog_9_method_49_code, 1, (some .int), 0, 0)
theorem d_J_bitCount_0 : decode (mC M_J_bitCount) 0 = .ok (.iload_n 0, 1) := by decide +kernel
theorem d_J_bitCount_1 : decode (mC M_J_bitCount) 1 = .ok (.iload_n 0, 1) := by decide +kernel
theorem d_J_bitCount_2 : decode (mC M_J_bitCount) 2 = .ok (.iconst 1, 1) := by decide +kernel
theorem d_J_bitCount_3 : decode (mC M_J_bitCount) 3 = .ok (.iushr, 1) := by decide +kernel
theorem d_J_bitCount_4 : decode (mC M_J_bitCount) 4 = .ok (.ldc_w 265, 3) := by decide +kernel
theorem d_J_bitCount_7 : decode (mC M_J_bitCount) 7 = .ok (.iand, 1) := by decide +kernel
theorem d_J_bitCount_8 : decode (mC M_J_bitCount) 8 = .ok (.isub, 1) := by decide +kernel
theorem d_J_bitCount_9 : decode (mC M_J_bitCount) 9 = .ok (.istore_n 0, 1) := by decide +kernel
theorem d_J_bitCount_10 : decode (mC M_J_bitCount) 10 = .ok (.iload_n 0, 1) := by decide +kernel
theorem d_J_bitCount_11 : decode (mC M_J_bitCount) 11 = .ok (.ldc_w 266, 3) := by decide +kernel
theorem d_J_bitCount_14 : decode (mC M_J_bitCount) 14 = .ok (.iand, 1) := by decide +kernel
theorem d_J_bitCount_15 : decode (mC M_J_bitCount) 15 = .ok (.iload_n 0, 1) := by decide +kernel
theorem d_J_bitCount_16 : decode (mC M_J_bitCount) 16 = .ok (.iconst 2, 1) := by decide +kernel
theorem d_J_bitCount_17 : decode (mC M_J_bitCount) 17 = .ok (.iushr, 1) := by decide +kernel
theorem d_J_bitCount_18 : decode (mC M_J_bitCount) 18 = .ok (.ldc_w 266, 3) := by decide +kernel
theorem d_J_bitCount_21 : decode (mC M_J_bitCount) 21 = .ok (.iand, 1) := by decide +kernel
theorem d_J_bitCount_22 : decode (mC M_J_bitCount) 22 = .ok (.iadd, 1) := by decide +kernel
theorem d_J_bitCount_23 : decode (mC M_J_bitCount) 23 = .ok (.istore_n 0, 1) := by decide +kernel
theorem d_J_bitCount_24 : decode (mC M_J_bitCount) 24 = .ok (.iload_n 0, 1) := by decide +kernel
theorem d_J_bitCount_25 : decode (mC M_J_bitCount) 25 = .ok (.iload_n 0, 1) := by decide +kernel
theorem d_J_bitCount_26 : decode (mC M_J_bitCount) 26 = .ok (.iconst 4, 1) := by decide +kernel
theorem d_J_bitCount_27 : decode (mC M_J_bitCount) 27 = .ok (.iushr, 1) := by decide +kernel
theorem d_J_bitCount_28 : decode (mC M_J_bitCount) 28 = .ok (.iadd, 1) := by decide +kernel
theorem d_J_bitCount_29 : decode (mC M_J_bitCount) 29 = .ok (.ldc_w 267, 3) := by decide +kernel
theorem d_J_bitCount_32 : decode (mC M_J_bitCount) 32 = .ok (.iand, 1) := by decide +kernel
theorem d_J_bitCount_33 : decode (mC M_J_bitCount) 33 = .ok (.istore_n 0, 1) := by decide +kernel
theorem d_J_bitCount_34 : decode (mC M_J_bitCount) 34 = .ok (.iload_n 0, 1) := by decide +kernel
theorem d_J_bitCount_35 : decode (mC M_J_bitCount) 35 = .ok (.iload_n 0, 1) := by decide +kernel
theorem d_J_bitCount_36 : decode (mC M_J_bitCount) 36 = .ok (.bipush 8, 2) := by decide +kernel
theorem d_J_bitCount_38 : decode (mC M_J_bitCount) 38 = .ok (.iushr, 1) := by decide +kernel
theorem d_J_bitCount_39 : decode (mC M_J_bitCount) 39 = .ok (.iadd, 1) := by decide +kernel
theorem d_J_bitCount_40 : decode (mC M_J_bitCount) 40 = .ok (.istore_n 0, 1) := by decide +kernel
theorem d_J_bitCount_41 : decode (mC M_J_bitCount) 41 = .ok (.iload_n 0, 1) := by decide +kernel
theorem d_J_bitCount_42 : decode (mC M_J_bitCount) 42 = .ok (.iload_n 0, 1) := by decide +kernel
theorem d_J_bitCount_43 : decode (mC M_J_bitCount) 43 = .ok (.bipush 16, 2) := by decide +kernel
theorem d_J_bitCount_45 : decode (mC M_J_bitCount) 45 = .ok (.iushr, 1) := by decide +kernel
theorem d_J_bitCount_46 : decode (mC M_J_bitCount) 46 = .ok (.iadd, 1) := by decide +kernel
theorem d_J_bitCount_47 : decode (mC M_J_bitCount) 47 = .ok (.istore_n 0, 1) := by decide +kernel
theorem d_J_bitCount_48 : decode (mC M_J_bitCount) 48 = .ok (.iload_n 0, 1) := by decide +kernel
theorem d_J_bitCount_49 : decode (mC M_J_bitCount) 49 = .ok (.bipush 63, 2) := by decide +kernel
theorem d_J_bitCount_51 : decode (mC M_J_bitCount) 51 = .ok (.iand, 1) := by decide +kernel
theorem d_J_bitCount_52 : decode (mC M_J_bitCount) 52 = .ok (.ireturn, 1) := by decide +kernel
def vc_J_bitCount_0 (r : Option Value) (hf : hc_H) (J : Nat → hc_K) (lv : hc_L) (st : List Value) (h : hc_H) : Prop := (qi_iload 0 (qi_iload 0 (qi_push (nI 1) (qi_iushr (qi_push (nI 1431655765) (qi_iand (qi_isub (qi_istore 0 (qi_iload 0 (qi_push (nI 858993459) (qi_iand (qi_iload 0 (qi_push (nI 2) (qi_iushr (qi_push (nI 858993459) (qi_iand (qi_iadd (qi_istore 0 (qi_iload 0 (qi_iload 0 (qi_push (nI 4) (qi_iushr (qi_iadd (qi_push (nI 252645135) (qi_iand (qi_istore 0 (qi_iload 0 (qi_iload 0 (qi_push (nI 8) (qi_iushr (qi_iadd (qi_istore 0 (qi_iload 0 (qi_iload 0 (qi_push (nI 16) (qi_iushr (qi_iadd (qi_istore 0 (qi_iload 0 (qi_push (nI 63) (qi_iand (qi_iret r hf)))))))))))))))))))))))))))))))))))))))))) lv st h
theorem sn_J_bitCount_0 {Ph : Nat → State → Prop} {h0 hf : hc_H} {r : Option Value} : qk Ph M_J_bitCount h0 hf r 0 (vc_J_bitCount_0 r hf (cx Ph M_J_bitCount h0 hf r)) := (qs_iload_n d_J_bitCount_0 rfl (qs_iload_n d_J_bitCount_1 rfl (qs_iconst d_J_bitCount_2 (by decide) (qs_iushr d_J_bitCount_3 (qs_ldcw d_J_bitCount_4 (by first | exact wk_505 | exact (show _ ∈ lw_g from wk_505)) (qs_iand d_J_bitCount_7 (qs_isub d_J_bitCount_8 (qs_istore_n d_J_bitCount_9 rfl (by decide) (qs_iload_n d_J_bitCount_10 rfl (qs_ldcw d_J_bitCount_11 (by first | exact wk_506 | exact (show _ ∈ lw_g from wk_506)) (qs_iand d_J_bitCount_14 (qs_iload_n d_J_bitCount_15 rfl (qs_iconst d_J_bitCount_16 (by decide) (qs_iushr d_J_bitCount_17 (qs_ldcw d_J_bitCount_18 (by first | exact wk_506 | exact (show _ ∈ lw_g from wk_506)) (qs_iand d_J_bitCount_21 (qs_iadd d_J_bitCount_22 (qs_istore_n d_J_bitCount_23 rfl (by decide) (qs_iload_n d_J_bitCount_24 rfl (qs_iload_n d_J_bitCount_25 rfl (qs_iconst d_J_bitCount_26 (by decide) (qs_iushr d_J_bitCount_27 (qs_iadd d_J_bitCount_28 (qs_ldcw d_J_bitCount_29 (by first | exact wk_507 | exact (show _ ∈ lw_g from wk_507)) (qs_iand d_J_bitCount_32 (qs_istore_n d_J_bitCount_33 rfl (by decide) (qs_iload_n d_J_bitCount_34 rfl (qs_iload_n d_J_bitCount_35 rfl (qs_bipush d_J_bitCount_36 (by decide) (qs_iushr d_J_bitCount_38 (qs_iadd d_J_bitCount_39 (qs_istore_n d_J_bitCount_40 rfl (by decide) (qs_iload_n d_J_bitCount_41 rfl (qs_iload_n d_J_bitCount_42 rfl (qs_bipush d_J_bitCount_43 (by decide) (qs_iushr d_J_bitCount_45 (qs_iadd d_J_bitCount_46 (qs_istore_n d_J_bitCount_47 rfl (by decide) (qs_iload_n d_J_bitCount_48 rfl (qs_bipush d_J_bitCount_49 (by decide) (qs_iand d_J_bitCount_51 (qs_iret d_J_bitCount_52 rfl))))))))))))))))))))))))))))))))))))))))))
/-! java/util/Arrays.fill([II)V -/
abbrev M_J_fill : hc_M := (⟨"java/util/Arrays", "fill", "([II)V"⟩, prog_15_method_103_code, 4, none, 0, 0)
theorem d_J_fill_0 : decode (mC M_J_fill) 0 = .ok (.iconst 0, 1) := by decide +kernel
theorem d_J_fill_1 : decode (mC M_J_fill) 1 = .ok (.istore_n 2, 1) := by decide +kernel
theorem d_J_fill_2 : decode (mC M_J_fill) 2 = .ok (.aload_n 0, 1) := by decide +kernel
theorem d_J_fill_3 : decode (mC M_J_fill) 3 = .ok (.arraylength, 1) := by decide +kernel
theorem d_J_fill_4 : decode (mC M_J_fill) 4 = .ok (.istore_n 3, 1) := by decide +kernel
theorem d_J_fill_5 : decode (mC M_J_fill) 5 = .ok (.iload_n 2, 1) := by decide +kernel
theorem d_J_fill_6 : decode (mC M_J_fill) 6 = .ok (.iload_n 3, 1) := by decide +kernel
theorem d_J_fill_7 : decode (mC M_J_fill) 7 = .ok (.if_icmp .ge 13, 3) := by decide +kernel
theorem d_J_fill_10 : decode (mC M_J_fill) 10 = .ok (.aload_n 0, 1) := by decide +kernel
theorem d_J_fill_11 : decode (mC M_J_fill) 11 = .ok (.iload_n 2, 1) := by decide +kernel
theorem d_J_fill_12 : decode (mC M_J_fill) 12 = .ok (.iload_n 1, 1) := by decide +kernel
theorem d_J_fill_13 : decode (mC M_J_fill) 13 = .ok (.iastore, 1) := by decide +kernel
theorem d_J_fill_14 : decode (mC M_J_fill) 14 = .ok (.iinc 2 1, 3) := by decide +kernel
theorem d_J_fill_17 : decode (mC M_J_fill) 17 = .ok (.goto (-12), 3) := by decide +kernel
theorem d_J_fill_20 : decode (mC M_J_fill) 20 = .ok (.return_, 1) := by decide +kernel
def vc_J_fill_20 (r : Option Value) (hf : hc_H) (J : Nat → hc_K) (lv : hc_L) (st : List Value) (h : hc_H) : Prop := (qi_vret r hf) lv st h
theorem sn_J_fill_20 {Ph : Nat → State → Prop} {h0 hf : hc_H} {r : Option Value} : qk Ph M_J_fill h0 hf r 20 (vc_J_fill_20 r hf (cx Ph M_J_fill h0 hf r)) := (qs_vret d_J_fill_20 rfl)
def vc_J_fill_5 (r : Option Value) (hf : hc_H) (J : Nat → hc_K) (lv : hc_L) (st : List Value) (h : hc_H) : Prop := (qi_iload 2 (qi_iload 3 (qi_icmp_ge (vc_J_fill_20 r hf J) (qi_aload 0 (qi_iload 2 (qi_iload 1 (qi_iast (qi_iinc 2 (nI 1) (J 5))))))))) lv st h
theorem sn_J_fill_5 {Ph : Nat → State → Prop} {h0 hf : hc_H} {r : Option Value} : qk Ph M_J_fill h0 hf r 5 (vc_J_fill_5 r hf (cx Ph M_J_fill h0 hf r)) := (qs_iload_n d_J_fill_5 rfl (qs_iload_n d_J_fill_6 rfl (qs_icmp_ge (tgt := 20) d_J_fill_7 (by decide) sn_J_fill_20 (qs_aload_n d_J_fill_10 rfl (qs_iload_n d_J_fill_11 rfl (qs_iload_n d_J_fill_12 rfl (qs_iastore d_J_fill_13 (qs_iinc d_J_fill_14 (by decide) (by decide) (qs_goto (tgt := 5) d_J_fill_17 (by decide) (fun _ _ _ h9 => h9))))))))))
def vc_J_fill_0 (r : Option Value) (hf : hc_H) (J : Nat → hc_K) (lv : hc_L) (st : List Value) (h : hc_H) : Prop := (qi_push (nI 0) (qi_istore 2 (qi_aload 0 (qi_alen (qi_istore 3 (J 5)))))) lv st h
theorem sn_J_fill_0 {Ph : Nat → State → Prop} {h0 hf : hc_H} {r : Option Value} : qk Ph M_J_fill h0 hf r 0 (vc_J_fill_0 r hf (cx Ph M_J_fill h0 hf r)) := (qs_iconst d_J_fill_0 (by decide) (qs_istore_n d_J_fill_1 rfl (by decide) (qs_aload_n d_J_fill_2 rfl (qs_alen d_J_fill_3 (qs_istore_n d_J_fill_4 rfl (by decide) (fun _ _ _ h9 => h9))))))
