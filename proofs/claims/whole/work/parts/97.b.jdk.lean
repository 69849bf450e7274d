/-! THE STRING METHODS AND THE CONSTRUCTOR: written by wip/whole/gen_str.py. -/
theorem wk_58 : Cond.initialized "java/lang/String" ∈ lw_g := lw_in 58 (by decide +kernel) (by decide +kernel)
theorem wk_59 : Cond.initialized "java/lang/StringLatin1" ∈ lw_g := lw_in 59 (by decide +kernel) (by decide +kernel)
theorem wk_60 : Cond.initialized "jdk/internal/util/Preconditions" ∈ lw_g := lw_in 60 (by decide +kernel) (by decide +kernel)
theorem wk_74 : Cond.methodLink "BalancedLine" 3 ⟨"java/lang/Object", "<init>", "()V"⟩ ∈ lw_g := lw_in 74 (by decide +kernel) (by decide +kernel)
theorem wk_77 : Cond.classLink "BalancedLine" 9 "BalancedLine$Script" ∈ lw_g := lw_in 77 (by decide +kernel) (by decide +kernel)
theorem wk_78 : Cond.instantiable "BalancedLine$Script" 2 ∈ lw_g := lw_in 78 (by decide +kernel) (by decide +kernel)
theorem wk_80 : Cond.instanceMethod ⟨"BalancedLine$Script", "<init>", "()V"⟩ ∈ lw_g := lw_in 80 (by decide +kernel) (by decide +kernel)
theorem wk_81 : Cond.code ⟨"BalancedLine$Script", "<init>", "()V"⟩ prog_5_method_1_code 1 none ∈ lw_g := lw_in 81 (by decide +kernel) (by decide +kernel)
theorem wk_92 : Cond.classLink "BalancedLine" 16 "BalancedLine$Plan" ∈ lw_g := lw_in 92 (by decide +kernel) (by decide +kernel)
theorem wk_138 : Cond.classLink "BalancedLine" 26 "BalancedLine$Past" ∈ lw_g := lw_in 138 (by decide +kernel) (by decide +kernel)
theorem wk_139 : Cond.instantiable "BalancedLine$Past" 2 ∈ lw_g := lw_in 139 (by decide +kernel) (by decide +kernel)
theorem wk_140 : Cond.methodLink "BalancedLine" 28 ⟨"BalancedLine$Past", "<init>", "()V"⟩ ∈ lw_g := lw_in 140 (by decide +kernel) (by decide +kernel)
theorem wk_141 : Cond.instanceMethod ⟨"BalancedLine$Past", "<init>", "()V"⟩ ∈ lw_g := lw_in 141 (by decide +kernel) (by decide +kernel)
theorem wk_142 : Cond.code ⟨"BalancedLine$Past", "<init>", "()V"⟩ prog_3_method_1_code 2 none ∈ lw_g := lw_in 142 (by decide +kernel) (by decide +kernel)
theorem wk_156 : Cond.methodLink "BalancedLine" 35 ⟨"java/lang/String", "length", "()I"⟩ ∈ lw_g := lw_in 156 (by decide +kernel) (by decide +kernel)
theorem wk_157 : Cond.instanceMethod ⟨"java/lang/String", "length", "()I"⟩ ∈ lw_g := lw_in 157 (by decide +kernel) (by decide +kernel)
theorem wk_158 : Cond.selects "java/lang/String" ⟨"java/lang/String", "length", "()I"⟩ ⟨"java/lang/String", "length", "()I"⟩ ∈ lw_g := lw_in 158 (by decide +kernel) (by decide +kernel)
theorem wk_159 : Cond.code ⟨"java/lang/String", "length", "()I"⟩ prog_11_method_54_code 1 (some .int) ∈ lw_g := lw_in 159 (by decide +kernel) (by decide +kernel)
theorem wk_160 : Cond.methodLink "java/lang/String" 335 ⟨"java/lang/String", "coder", "()B"⟩ ∈ lw_g := lw_in 160 (by decide +kernel) (by decide +kernel)
theorem wk_161 : Cond.instanceMethod ⟨"java/lang/String", "coder", "()B"⟩ ∈ lw_g := lw_in 161 (by decide +kernel) (by decide +kernel)
theorem wk_162 : Cond.selects "java/lang/String" ⟨"java/lang/String", "coder", "()B"⟩ ⟨"java/lang/String", "coder", "()B"⟩ ∈ lw_g := lw_in 162 (by decide +kernel) (by decide +kernel)
theorem wk_163 : Cond.code ⟨"java/lang/String", "coder", "()B"⟩ prog_11_method_152_code 1 (some .byte) ∈ lw_g := lw_in 163 (by decide +kernel) (by decide +kernel)
theorem wk_164 : Cond.fieldLink "java/lang/String" 38 "java/lang/String" "COMPACT_STRINGS" "Z" ∈ lw_g := lw_in 164 (by decide +kernel) (by decide +kernel)
theorem wk_166 : Cond.methodLink "BalancedLine" 41 ⟨"java/lang/String", "charAt", "(I)C"⟩ ∈ lw_g := lw_in 166 (by decide +kernel) (by decide +kernel)
theorem wk_167 : Cond.instanceMethod ⟨"java/lang/String", "charAt", "(I)C"⟩ ∈ lw_g := lw_in 167 (by decide +kernel) (by decide +kernel)
theorem wk_168 : Cond.selects "java/lang/String" ⟨"java/lang/String", "charAt", "(I)C"⟩ ⟨"java/lang/String", "charAt", "(I)C"⟩ ∈ lw_g := lw_in 168 (by decide +kernel) (by decide +kernel)
theorem wk_169 : Cond.code ⟨"java/lang/String", "charAt", "(I)C"⟩ prog_11_method_56_code 2 (some .char) ∈ lw_g := lw_in 169 (by decide +kernel) (by decide +kernel)
theorem wk_170 : Cond.methodLink "java/lang/String" 492 ⟨"java/lang/String", "isLatin1", "()Z"⟩ ∈ lw_g := lw_in 170 (by decide +kernel) (by decide +kernel)
theorem wk_171 : Cond.instanceMethod ⟨"java/lang/String", "isLatin1", "()Z"⟩ ∈ lw_g := lw_in 171 (by decide +kernel) (by decide +kernel)
theorem wk_172 : Cond.selects "java/lang/String" ⟨"java/lang/String", "isLatin1", "()Z"⟩ ⟨"java/lang/String", "isLatin1", "()Z"⟩ ∈ lw_g := lw_in 172 (by decide +kernel) (by decide +kernel)
theorem wk_173 : Cond.code ⟨"java/lang/String", "isLatin1", "()Z"⟩ prog_11_method_154_code 1 (some .boolean) ∈ lw_g := lw_in 173 (by decide +kernel) (by decide +kernel)
theorem wk_174 : Cond.methodLink "java/lang/String" 495 ⟨"java/lang/StringLatin1", "charAt", "([BI)C"⟩ ∈ lw_g := lw_in 174 (by decide +kernel) (by decide +kernel)
theorem wk_175 : Cond.static ⟨"java/lang/StringLatin1", "charAt", "([BI)C"⟩ ∈ lw_g := lw_in 175 (by decide +kernel) (by decide +kernel)
theorem wk_176 : Cond.code ⟨"java/lang/StringLatin1", "charAt", "([BI)C"⟩ prog_12_method_2_code 2 (some .char) ∈ lw_g := lw_in 176 (by decide +kernel) (by decide +kernel)
theorem wk_177 : Cond.methodLink "java/lang/StringLatin1" 9 ⟨"java/lang/String", "checkIndex", "(II)V"⟩ ∈ lw_g := lw_in 177 (by decide +kernel) (by decide +kernel)
theorem wk_178 : Cond.static ⟨"java/lang/String", "checkIndex", "(II)V"⟩ ∈ lw_g := lw_in 178 (by decide +kernel) (by decide +kernel)
theorem wk_179 : Cond.code ⟨"java/lang/String", "checkIndex", "(II)V"⟩ prog_11_method_155_code 2 none ∈ lw_g := lw_in 179 (by decide +kernel) (by decide +kernel)
theorem wk_180 : Cond.fieldLink "java/lang/String" 1053 "jdk/internal/util/Preconditions" "SIOOBE_FORMATTER" "Ljava/util/function/BiFunction;" ∈ lw_g := lw_in 180 (by decide +kernel) (by decide +kernel)
theorem wk_182 : Cond.methodLink "java/lang/String" 1059 ⟨"jdk/internal/util/Preconditions", "checkIndex", "(IILjava/util/function/BiFunction;)I"⟩ ∈ lw_g := lw_in 182 (by decide +kernel) (by decide +kernel)
theorem wk_183 : Cond.static ⟨"jdk/internal/util/Preconditions", "checkIndex", "(IILjava/util/function/BiFunction;)I"⟩ ∈ lw_g := lw_in 183 (by decide +kernel) (by decide +kernel)
theorem wk_184 : Cond.code ⟨"jdk/internal/util/Preconditions", "checkIndex", "(IILjava/util/function/BiFunction;)I"⟩ prog_16_method_11_code 3 (some .int) ∈ lw_g := lw_in 184 (by decide +kernel) (by decide +kernel)
theorem wk_293 : Cond.classLink "BalancedLine" 56 "BalancedLine$Study" ∈ lw_g := lw_in 293 (by decide +kernel) (by decide +kernel)
theorem wk_294 : Cond.instantiable "BalancedLine$Study" 12 ∈ lw_g := lw_in 294 (by decide +kernel) (by decide +kernel)
theorem wk_295 : Cond.methodLink "BalancedLine" 58 ⟨"BalancedLine$Study", "<init>", "(LBalancedLine$Plan;LBalancedLine$Plan;)V"⟩ ∈ lw_g := lw_in 295 (by decide +kernel) (by decide +kernel)
theorem wk_296 : Cond.instanceMethod ⟨"BalancedLine$Study", "<init>", "(LBalancedLine$Plan;LBalancedLine$Plan;)V"⟩ ∈ lw_g := lw_in 296 (by decide +kernel) (by decide +kernel)
theorem wk_297 : Cond.code ⟨"BalancedLine$Study", "<init>", "(LBalancedLine$Plan;LBalancedLine$Plan;)V"⟩ prog_6_method_1_code 3 none ∈ lw_g := lw_in 297 (by decide +kernel) (by decide +kernel)
theorem wk_1155 : Cond.fieldLink "java/lang/String" 9 "java/lang/String" "value" "[B" ∈ lw_g := lw_in 1155 (by decide +kernel) (by decide +kernel)
theorem wk_1156 : Cond.fieldLink "java/lang/String" 15 "java/lang/String" "coder" "B" ∈ lw_g := lw_in 1156 (by decide +kernel) (by decide +kernel)
/-! jdk/internal/util/Preconditions.checkIndex(IILjava/util/function/BiFunction;)I -/
abbrev M_JP_checkIndex : hc_M := (⟨"jdk/internal/util/Preconditions", "checkIndex", "(IILjava/util/function/BiFunction;)I"⟩, prog_16_method_11_code, 3, (some .int), 0, 0)
theorem d_JP_checkIndex_0 : decode (mC M_JP_checkIndex) 0 = .ok (.iload_n 0, 1) := by decide +kernel
theorem d_JP_checkIndex_1 : decode (mC M_JP_checkIndex) 1 = .ok (.ifCond .lt 8, 3) := by decide +kernel
theorem d_JP_checkIndex_4 : decode (mC M_JP_checkIndex) 4 = .ok (.iload_n 0, 1) := by decide +kernel
theorem d_JP_checkIndex_5 : decode (mC M_JP_checkIndex) 5 = .ok (.iload_n 1, 1) := by decide +kernel
theorem d_JP_checkIndex_6 : decode (mC M_JP_checkIndex) 6 = .ok (.if_icmp .lt 10, 3) := by decide +kernel
theorem d_JP_checkIndex_16 : decode (mC M_JP_checkIndex) 16 = .ok (.iload_n 0, 1) := by decide +kernel
theorem d_JP_checkIndex_17 : decode (mC M_JP_checkIndex) 17 = .ok (.ireturn, 1) := by decide +kernel
def vc_JP_checkIndex_16 (q v : Nat) (f : Option Nat) (r : Option Value) (hf : hc_H) (J : Nat → hc_K) (lv : hc_L) (st : List Value) (h : hc_H) : Prop := (qi_iload 0 (qi_iret r hf)) lv st h
theorem sn_JP_checkIndex_16 {q v : Nat} {f : Option Nat} {h0 hf : hc_H} {r : Option Value} : qk (phS q v f) M_JP_checkIndex h0 hf r 16 (vc_JP_checkIndex_16 q v f r hf (cx (phS q v f) M_JP_checkIndex h0 hf r)) := (qs_iload_n d_JP_checkIndex_16 rfl (qs_iret d_JP_checkIndex_17 rfl))
def vc_JP_checkIndex_0 (q v : Nat) (f : Option Nat) (r : Option Value) (hf : hc_H) (J : Nat → hc_K) (lv : hc_L) (st : List Value) (h : hc_H) : Prop := (qi_iload 0 (qi_if_lt qi_no (qi_iload 0 (qi_iload 1 (qi_icmp_lt (vc_JP_checkIndex_16 q v f r hf J) qi_no))))) lv st h
theorem sn_JP_checkIndex_0 {q v : Nat} {f : Option Nat} {h0 hf : hc_H} {r : Option Value} : qk (phS q v f) M_JP_checkIndex h0 hf r 0 (vc_JP_checkIndex_0 q v f r hf (cx (phS q v f) M_JP_checkIndex h0 hf r)) := (qs_iload_n d_JP_checkIndex_0 rfl (qs_if_lt (tgt := 9) d_JP_checkIndex_1 (by decide) qs_no (qs_iload_n d_JP_checkIndex_4 rfl (qs_iload_n d_JP_checkIndex_5 rfl (qs_icmp_lt (tgt := 16) d_JP_checkIndex_6 (by decide) sn_JP_checkIndex_16 qs_no)))))
/-! java/lang/String.coder()B -/
abbrev M_JS_coder : hc_M := (⟨"java/lang/String", "coder", "()B"⟩, prog_11_method_152_code, 1, (some .byte), 0, 0)
theorem d_JS_coder_0 : decode (mC M_JS_coder) 0 = .ok (.getstatic 38, 3) := by decide +kernel
theorem d_JS_coder_3 : decode (mC M_JS_coder) 3 = .ok (.ifCond .eq 10, 3) := by decide +kernel
theorem d_JS_coder_6 : decode (mC M_JS_coder) 6 = .ok (.aload_n 0, 1) := by decide +kernel
theorem d_JS_coder_7 : decode (mC M_JS_coder) 7 = .ok (.getfield 15, 3) := by decide +kernel
theorem d_JS_coder_10 : decode (mC M_JS_coder) 10 = .ok (.goto 4, 3) := by decide +kernel
theorem d_JS_coder_13 : decode (mC M_JS_coder) 13 = .ok (.iconst 1, 1) := by decide +kernel
theorem d_JS_coder_14 : decode (mC M_JS_coder) 14 = .ok (.ireturn, 1) := by decide +kernel
def vc_JS_coder_14 (q v : Nat) (f : Option Nat) (r : Option Value) (hf : hc_H) (J : Nat → hc_K) (lv : hc_L) (st : List Value) (h : hc_H) : Prop := (qi_nret .byte r hf) lv st h
theorem sn_JS_coder_14 {q v : Nat} {f : Option Nat} {h0 hf : hc_H} {r : Option Value} : qk (phS q v f) M_JS_coder h0 hf r 14 (vc_JS_coder_14 q v f r hf (cx (phS q v f) M_JS_coder h0 hf r)) := (qs_nret d_JS_coder_14 rfl)
def vc_JS_coder_13 (q v : Nat) (f : Option Nat) (r : Option Value) (hf : hc_H) (J : Nat → hc_K) (lv : hc_L) (st : List Value) (h : hc_H) : Prop := (qi_push (nI 1) (vc_JS_coder_14 q v f r hf J)) lv st h
theorem sn_JS_coder_13 {q v : Nat} {f : Option Nat} {h0 hf : hc_H} {r : Option Value} : qk (phS q v f) M_JS_coder h0 hf r 13 (vc_JS_coder_13 q v f r hf (cx (phS q v f) M_JS_coder h0 hf r)) := (qs_iconst d_JS_coder_13 (by decide) sn_JS_coder_14)
def vc_JS_coder_0 (q v : Nat) (f : Option Nat) (r : Option Value) (hf : hc_H) (J : Nat → hc_K) (lv : hc_L) (st : List Value) (h : hc_H) : Prop := (qi_val (.int 1) (qi_if_eq (vc_JS_coder_13 q v f r hf J) (qi_aload 0 (qi_gtS q (.int 0) (vc_JS_coder_14 q v f r hf J))))) lv st h
theorem sn_JS_coder_0 {q v : Nat} {f : Option Nat} {h0 hf : hc_H} {r : Option Value} : qk (phS q v f) M_JS_coder h0 hf r 0 (vc_JS_coder_0 q v f r hf (cx (phS q v f) M_JS_coder h0 hf r)) := (qs_gstC d_JS_coder_0 rfl wk_164 (qs_if_eq (tgt := 13) d_JS_coder_3 (by decide) sn_JS_coder_13 (qs_aload_n d_JS_coder_6 rfl (qs_gtC d_JS_coder_7 rfl wk_1156 (qs_goto (tgt := 14) d_JS_coder_10 (by decide) sn_JS_coder_14)))))
/-! java/lang/String.isLatin1()Z -/
abbrev M_JS_isLatin1 : hc_M := (⟨"java/lang/String", "isLatin1", "()Z"⟩, prog_11_method_154_code, 1, (some .boolean), 0, 0)
theorem d_JS_isLatin1_0 : decode (mC M_JS_isLatin1) 0 = .ok (.getstatic 38, 3) := by decide +kernel
theorem d_JS_isLatin1_3 : decode (mC M_JS_isLatin1) 3 = .ok (.ifCond .eq 14, 3) := by decide +kernel
theorem d_JS_isLatin1_6 : decode (mC M_JS_isLatin1) 6 = .ok (.aload_n 0, 1) := by decide +kernel
theorem d_JS_isLatin1_7 : decode (mC M_JS_isLatin1) 7 = .ok (.getfield 15, 3) := by decide +kernel
theorem d_JS_isLatin1_10 : decode (mC M_JS_isLatin1) 10 = .ok (.ifCond .ne 7, 3) := by decide +kernel
theorem d_JS_isLatin1_13 : decode (mC M_JS_isLatin1) 13 = .ok (.iconst 1, 1) := by decide +kernel
theorem d_JS_isLatin1_14 : decode (mC M_JS_isLatin1) 14 = .ok (.goto 4, 3) := by decide +kernel
theorem d_JS_isLatin1_17 : decode (mC M_JS_isLatin1) 17 = .ok (.iconst 0, 1) := by decide +kernel
theorem d_JS_isLatin1_18 : decode (mC M_JS_isLatin1) 18 = .ok (.ireturn, 1) := by decide +kernel
def vc_JS_isLatin1_18 (q v : Nat) (f : Option Nat) (r : Option Value) (hf : hc_H) (J : Nat → hc_K) (lv : hc_L) (st : List Value) (h : hc_H) : Prop := (qi_zret r hf) lv st h
theorem sn_JS_isLatin1_18 {q v : Nat} {f : Option Nat} {h0 hf : hc_H} {r : Option Value} : qk (phS q v f) M_JS_isLatin1 h0 hf r 18 (vc_JS_isLatin1_18 q v f r hf (cx (phS q v f) M_JS_isLatin1 h0 hf r)) := (qs_zret d_JS_isLatin1_18 rfl)
def vc_JS_isLatin1_17 (q v : Nat) (f : Option Nat) (r : Option Value) (hf : hc_H) (J : Nat → hc_K) (lv : hc_L) (st : List Value) (h : hc_H) : Prop := (qi_push (nI 0) (vc_JS_isLatin1_18 q v f r hf J)) lv st h
theorem sn_JS_isLatin1_17 {q v : Nat} {f : Option Nat} {h0 hf : hc_H} {r : Option Value} : qk (phS q v f) M_JS_isLatin1 h0 hf r 17 (vc_JS_isLatin1_17 q v f r hf (cx (phS q v f) M_JS_isLatin1 h0 hf r)) := (qs_iconst d_JS_isLatin1_17 (by decide) sn_JS_isLatin1_18)
def vc_JS_isLatin1_0 (q v : Nat) (f : Option Nat) (r : Option Value) (hf : hc_H) (J : Nat → hc_K) (lv : hc_L) (st : List Value) (h : hc_H) : Prop := (qi_val (.int 1) (qi_if_eq (vc_JS_isLatin1_17 q v f r hf J) (qi_aload 0 (qi_gtS q (.int 0) (qi_if_ne (vc_JS_isLatin1_17 q v f r hf J) (qi_push (nI 1) (vc_JS_isLatin1_18 q v f r hf J))))))) lv st h
theorem sn_JS_isLatin1_0 {q v : Nat} {f : Option Nat} {h0 hf : hc_H} {r : Option Value} : qk (phS q v f) M_JS_isLatin1 h0 hf r 0 (vc_JS_isLatin1_0 q v f r hf (cx (phS q v f) M_JS_isLatin1 h0 hf r)) := (qs_gstC d_JS_isLatin1_0 rfl wk_164 (qs_if_eq (tgt := 17) d_JS_isLatin1_3 (by decide) sn_JS_isLatin1_17 (qs_aload_n d_JS_isLatin1_6 rfl (qs_gtC d_JS_isLatin1_7 rfl wk_1156 (qs_if_ne (tgt := 17) d_JS_isLatin1_10 (by decide) sn_JS_isLatin1_17 (qs_iconst d_JS_isLatin1_13 (by decide) (qs_goto (tgt := 18) d_JS_isLatin1_14 (by decide) sn_JS_isLatin1_18)))))))
theorem zz_JP_checkIndex : hc_z M_JP_checkIndex 3 := ⟨wk_184, wk_60, by decide +kernel⟩
/-! java/lang/String.checkIndex(II)V -/
abbrev M_JS_checkIndex : hc_M := (⟨"java/lang/String", "checkIndex", "(II)V"⟩, prog_11_method_155_code, 2, none, 1, 22)
theorem d_JS_checkIndex_0 : decode (mC M_JS_checkIndex) 0 = .ok (.iload_n 0, 1) := by decide +kernel
theorem d_JS_checkIndex_1 : decode (mC M_JS_checkIndex) 1 = .ok (.iload_n 1, 1) := by decide +kernel
theorem d_JS_checkIndex_2 : decode (mC M_JS_checkIndex) 2 = .ok (.getstatic 1053, 3) := by decide +kernel
theorem d_JS_checkIndex_5 : decode (mC M_JS_checkIndex) 5 = .ok (.invokestatic 1059, 3) := by decide +kernel
theorem d_JS_checkIndex_8 : decode (mC M_JS_checkIndex) 8 = .ok (.pop, 1) := by decide +kernel
theorem d_JS_checkIndex_9 : decode (mC M_JS_checkIndex) 9 = .ok (.return_, 1) := by decide +kernel
def vc_JS_checkIndex_0 (q v : Nat) (f : Option Nat) (r : Option Value) (hf : hc_H) (J : Nat → hc_K) (lv : hc_L) (st : List Value) (h : hc_H) : Prop := (qi_iload 0 (qi_iload 1 (qi_val (va_rf f) (qi_invS (phS q v f) M_JP_checkIndex 3 (qi_pop (qi_vret r hf)))))) lv st h
theorem sn_JS_checkIndex_0 {q v : Nat} {f : Option Nat} {h0 hf : hc_H} {r : Option Value} : qk (phS q v f) M_JS_checkIndex h0 hf r 0 (vc_JS_checkIndex_0 q v f r hf (cx (phS q v f) M_JS_checkIndex h0 hf r)) := (qs_iload_n d_JS_checkIndex_0 rfl (qs_iload_n d_JS_checkIndex_1 rfl (qs_gstF d_JS_checkIndex_2 rfl wk_180 (qs_invS phS_ok (fun _ _ h9 => h9) d_JS_checkIndex_5 zz_JP_checkIndex wk_182 wk_183 ⟨by decide, by decide⟩ (qs_pop d_JS_checkIndex_8 (qs_vret d_JS_checkIndex_9 rfl))))))
theorem zz_JS_checkIndex : hc_z M_JS_checkIndex 2 := ⟨wk_179, wk_58, by decide +kernel⟩
/-! java/lang/StringLatin1.charAt([BI)C -/
abbrev M_JL_charAt : hc_M := (⟨"java/lang/StringLatin1", "charAt", "([BI)C"⟩, prog_12_method_2_code, 2, (some .char), 2, 43)
theorem d_JL_charAt_0 : decode (mC M_JL_charAt) 0 = .ok (.iload_n 1, 1) := by decide +kernel
theorem d_JL_charAt_1 : decode (mC M_JL_charAt) 1 = .ok (.aload_n 0, 1) := by decide +kernel
theorem d_JL_charAt_2 : decode (mC M_JL_charAt) 2 = .ok (.arraylength, 1) := by decide +kernel
theorem d_JL_charAt_3 : decode (mC M_JL_charAt) 3 = .ok (.invokestatic 9, 3) := by decide +kernel
theorem d_JL_charAt_6 : decode (mC M_JL_charAt) 6 = .ok (.aload_n 0, 1) := by decide +kernel
theorem d_JL_charAt_7 : decode (mC M_JL_charAt) 7 = .ok (.iload_n 1, 1) := by decide +kernel
theorem d_JL_charAt_8 : decode (mC M_JL_charAt) 8 = .ok (.baload, 1) := by decide +kernel
theorem d_JL_charAt_9 : decode (mC M_JL_charAt) 9 = .ok (.sipush 255, 3) := by decide +kernel
theorem d_JL_charAt_12 : decode (mC M_JL_charAt) 12 = .ok (.iand, 1) := by decide +kernel
theorem d_JL_charAt_13 : decode (mC M_JL_charAt) 13 = .ok (.i2c, 1) := by decide +kernel
theorem d_JL_charAt_14 : decode (mC M_JL_charAt) 14 = .ok (.ireturn, 1) := by decide +kernel
def vc_JL_charAt_0 (q v : Nat) (f : Option Nat) (r : Option Value) (hf : hc_H) (J : Nat → hc_K) (lv : hc_L) (st : List Value) (h : hc_H) : Prop := (qi_iload 1 (qi_aload 0 (qi_alS v (qi_invS (phS q v f) M_JS_checkIndex 2 (qi_aload 0 (qi_iload 1 (qi_bS v (qi_push (nI 255) (qi_iand (qi_i2c (qi_nret .char r hf))))))))))) lv st h
theorem sn_JL_charAt_0 {q v : Nat} {f : Option Nat} {h0 hf : hc_H} {r : Option Value} : qk (phS q v f) M_JL_charAt h0 hf r 0 (vc_JL_charAt_0 q v f r hf (cx (phS q v f) M_JL_charAt h0 hf r)) := (qs_iload_n d_JL_charAt_0 rfl (qs_aload_n d_JL_charAt_1 rfl (qs_alS d_JL_charAt_2 (qs_invS phS_ok (fun _ _ h9 => h9) d_JL_charAt_3 zz_JS_checkIndex wk_177 wk_178 ⟨by decide, by decide⟩ (qs_aload_n d_JL_charAt_6 rfl (qs_iload_n d_JL_charAt_7 rfl (qs_bS d_JL_charAt_8 (qs_sipush d_JL_charAt_9 (by decide) (qs_iand d_JL_charAt_12 (qs_i2c d_JL_charAt_13 (qs_nret d_JL_charAt_14 rfl)))))))))))
theorem zz_JS_coder : hc_z M_JS_coder 0 := ⟨wk_163, wk_58, by decide +kernel⟩
/-! java/lang/String.length()I -/
abbrev M_JS_length : hc_M := (⟨"java/lang/String", "length", "()I"⟩, prog_11_method_54_code, 1, (some .int), 1, 20)
theorem d_JS_length_0 : decode (mC M_JS_length) 0 = .ok (.aload_n 0, 1) := by decide +kernel
theorem d_JS_length_1 : decode (mC M_JS_length) 1 = .ok (.getfield 9, 3) := by decide +kernel
theorem d_JS_length_4 : decode (mC M_JS_length) 4 = .ok (.arraylength, 1) := by decide +kernel
theorem d_JS_length_5 : decode (mC M_JS_length) 5 = .ok (.aload_n 0, 1) := by decide +kernel
theorem d_JS_length_6 : decode (mC M_JS_length) 6 = .ok (.invokevirtual 335, 3) := by decide +kernel
theorem d_JS_length_9 : decode (mC M_JS_length) 9 = .ok (.ishr, 1) := by decide +kernel
theorem d_JS_length_10 : decode (mC M_JS_length) 10 = .ok (.ireturn, 1) := by decide +kernel
def vc_JS_length_0 (q v : Nat) (f : Option Nat) (r : Option Value) (hf : hc_H) (J : Nat → hc_K) (lv : hc_L) (st : List Value) (h : hc_H) : Prop := (qi_aload 0 (qi_gtS q (.ref v) (qi_alS v (qi_aload 0 (qi_invT q v f M_JS_coder 0 (qi_ishr (qi_iret r hf))))))) lv st h
theorem sn_JS_length_0 {q v : Nat} {f : Option Nat} {h0 hf : hc_H} {r : Option Value} : qk (phS q v f) M_JS_length h0 hf r 0 (vc_JS_length_0 q v f r hf (cx (phS q v f) M_JS_length h0 hf r)) := (qs_aload_n d_JS_length_0 rfl (qs_gtV d_JS_length_1 rfl wk_1155 (qs_alS d_JS_length_4 (qs_aload_n d_JS_length_5 rfl (qs_invT d_JS_length_6 zz_JS_coder wk_160 ⟨wk_161, wk_162⟩ rfl ⟨by decide, by decide⟩ (qs_ishr d_JS_length_9 (qs_iret d_JS_length_10 rfl)))))))
theorem zz_JS_isLatin1 : hc_z M_JS_isLatin1 0 := ⟨wk_173, wk_58, by decide +kernel⟩
theorem zz_JL_charAt : hc_z M_JL_charAt 2 := ⟨wk_176, wk_59, by decide +kernel⟩
/-! java/lang/String.charAt(I)C -/
abbrev M_JS_charAt : hc_M := (⟨"java/lang/String", "charAt", "(I)C"⟩, prog_11_method_56_code, 2, (some .char), 3, 64)
theorem d_JS_charAt_0 : decode (mC M_JS_charAt) 0 = .ok (.aload_n 0, 1) := by decide +kernel
theorem d_JS_charAt_1 : decode (mC M_JS_charAt) 1 = .ok (.invokevirtual 492, 3) := by decide +kernel
theorem d_JS_charAt_4 : decode (mC M_JS_charAt) 4 = .ok (.ifCond .eq 12, 3) := by decide +kernel
theorem d_JS_charAt_7 : decode (mC M_JS_charAt) 7 = .ok (.aload_n 0, 1) := by decide +kernel
theorem d_JS_charAt_8 : decode (mC M_JS_charAt) 8 = .ok (.getfield 9, 3) := by decide +kernel
theorem d_JS_charAt_11 : decode (mC M_JS_charAt) 11 = .ok (.iload_n 1, 1) := by decide +kernel
theorem d_JS_charAt_12 : decode (mC M_JS_charAt) 12 = .ok (.invokestatic 495, 3) := by decide +kernel
theorem d_JS_charAt_15 : decode (mC M_JS_charAt) 15 = .ok (.ireturn, 1) := by decide +kernel
def vc_JS_charAt_0 (q v : Nat) (f : Option Nat) (r : Option Value) (hf : hc_H) (J : Nat → hc_K) (lv : hc_L) (st : List Value) (h : hc_H) : Prop := (qi_aload 0 (qi_invT q v f M_JS_isLatin1 0 (qi_if_eq qi_no (qi_aload 0 (qi_gtS q (.ref v) (qi_iload 1 (qi_invS (phS q v f) M_JL_charAt 2 (qi_nret .char r hf)))))))) lv st h
theorem sn_JS_charAt_0 {q v : Nat} {f : Option Nat} {h0 hf : hc_H} {r : Option Value} : qk (phS q v f) M_JS_charAt h0 hf r 0 (vc_JS_charAt_0 q v f r hf (cx (phS q v f) M_JS_charAt h0 hf r)) := (qs_aload_n d_JS_charAt_0 rfl (qs_invT d_JS_charAt_1 zz_JS_isLatin1 wk_170 ⟨wk_171, wk_172⟩ rfl ⟨by decide, by decide⟩ (qs_if_eq (tgt := 16) d_JS_charAt_4 (by decide) qs_no (qs_aload_n d_JS_charAt_7 rfl (qs_gtV d_JS_charAt_8 rfl wk_1155 (qs_iload_n d_JS_charAt_11 rfl (qs_invS phS_ok (fun _ _ h9 => h9) d_JS_charAt_12 zz_JL_charAt wk_174 wk_175 ⟨by decide, by decide⟩ (qs_nret d_JS_charAt_15 rfl))))))))
theorem zz_Y_init : hc_z M_Y_init 2 := ⟨wk_297, wk_63, by decide +kernel⟩
theorem zz_JS_length : hc_z M_JS_length 0 := ⟨wk_159, wk_58, by decide +kernel⟩
theorem zz_JS_charAt : hc_z M_JS_charAt 1 := ⟨wk_169, wk_58, by decide +kernel⟩
theorem zz_S_init : hc_z M_S_init 0 := ⟨wk_81, wk_55, by decide +kernel⟩
theorem zz_H_init : hc_z M_H_init 0 := ⟨wk_142, wk_57, by decide +kernel⟩
/-! BalancedLine.<init>()V -/
abbrev M_B_init : hc_M := (⟨"BalancedLine", "<init>", "()V"⟩, prog_1_method_1_code, 2, none, 6, 142)
theorem d_B_init_0 : decode (mC M_B_init) 0 = .ok (.aload_n 0, 1) := by decide +kernel
theorem d_B_init_1 : decode (mC M_B_init) 1 = .ok (.invokespecial 3, 3) := by decide +kernel
theorem d_B_init_4 : decode (mC M_B_init) 4 = .ok (.aload_n 0, 1) := by decide +kernel
theorem d_B_init_5 : decode (mC M_B_init) 5 = .ok (.new 9, 3) := by decide +kernel
theorem d_B_init_8 : decode (mC M_B_init) 8 = .ok (.dup, 1) := by decide +kernel
theorem d_B_init_9 : decode (mC M_B_init) 9 = .ok (.invokespecial 11, 3) := by decide +kernel
theorem d_B_init_12 : decode (mC M_B_init) 12 = .ok (.putfield 12, 3) := by decide +kernel
theorem d_B_init_15 : decode (mC M_B_init) 15 = .ok (.aload_n 0, 1) := by decide +kernel
theorem d_B_init_16 : decode (mC M_B_init) 16 = .ok (.new 16, 3) := by decide +kernel
theorem d_B_init_19 : decode (mC M_B_init) 19 = .ok (.dup, 1) := by decide +kernel
theorem d_B_init_20 : decode (mC M_B_init) 20 = .ok (.invokespecial 18, 3) := by decide +kernel
theorem d_B_init_23 : decode (mC M_B_init) 23 = .ok (.putfield 19, 3) := by decide +kernel
theorem d_B_init_26 : decode (mC M_B_init) 26 = .ok (.aload_n 0, 1) := by decide +kernel
theorem d_B_init_27 : decode (mC M_B_init) 27 = .ok (.new 16, 3) := by decide +kernel
theorem d_B_init_30 : decode (mC M_B_init) 30 = .ok (.dup, 1) := by decide +kernel
theorem d_B_init_31 : decode (mC M_B_init) 31 = .ok (.invokespecial 18, 3) := by decide +kernel
theorem d_B_init_34 : decode (mC M_B_init) 34 = .ok (.putfield 23, 3) := by decide +kernel
theorem d_B_init_37 : decode (mC M_B_init) 37 = .ok (.aload_n 0, 1) := by decide +kernel
theorem d_B_init_38 : decode (mC M_B_init) 38 = .ok (.new 26, 3) := by decide +kernel
theorem d_B_init_41 : decode (mC M_B_init) 41 = .ok (.dup, 1) := by decide +kernel
theorem d_B_init_42 : decode (mC M_B_init) 42 = .ok (.invokespecial 28, 3) := by decide +kernel
theorem d_B_init_45 : decode (mC M_B_init) 45 = .ok (.putfield 29, 3) := by decide +kernel
theorem d_B_init_48 : decode (mC M_B_init) 48 = .ok (.iconst 0, 1) := by decide +kernel
theorem d_B_init_49 : decode (mC M_B_init) 49 = .ok (.istore_n 1, 1) := by decide +kernel
theorem d_B_init_50 : decode (mC M_B_init) 50 = .ok (.iload_n 1, 1) := by decide +kernel
theorem d_B_init_51 : decode (mC M_B_init) 51 = .ok (.ldc 33, 2) := by decide +kernel
theorem d_B_init_53 : decode (mC M_B_init) 53 = .ok (.invokevirtual 35, 3) := by decide +kernel
theorem d_B_init_56 : decode (mC M_B_init) 56 = .ok (.if_icmp .ge 23, 3) := by decide +kernel
theorem d_B_init_59 : decode (mC M_B_init) 59 = .ok (.aload_n 0, 1) := by decide +kernel
theorem d_B_init_60 : decode (mC M_B_init) 60 = .ok (.getfield 12, 3) := by decide +kernel
theorem d_B_init_63 : decode (mC M_B_init) 63 = .ok (.ldc 33, 2) := by decide +kernel
theorem d_B_init_65 : decode (mC M_B_init) 65 = .ok (.iload_n 1, 1) := by decide +kernel
theorem d_B_init_66 : decode (mC M_B_init) 66 = .ok (.invokevirtual 41, 3) := by decide +kernel
theorem d_B_init_69 : decode (mC M_B_init) 69 = .ok (.invokevirtual 45, 3) := by decide +kernel
theorem d_B_init_72 : decode (mC M_B_init) 72 = .ok (.pop, 1) := by decide +kernel
theorem d_B_init_73 : decode (mC M_B_init) 73 = .ok (.iinc 1 1, 3) := by decide +kernel
theorem d_B_init_76 : decode (mC M_B_init) 76 = .ok (.goto (-26), 3) := by decide +kernel
theorem d_B_init_79 : decode (mC M_B_init) 79 = .ok (.aload_n 0, 1) := by decide +kernel
theorem d_B_init_80 : decode (mC M_B_init) 80 = .ok (.getfield 12, 3) := by decide +kernel
theorem d_B_init_83 : decode (mC M_B_init) 83 = .ok (.aload_n 0, 1) := by decide +kernel
theorem d_B_init_84 : decode (mC M_B_init) 84 = .ok (.getfield 19, 3) := by decide +kernel
theorem d_B_init_87 : decode (mC M_B_init) 87 = .ok (.invokevirtual 49, 3) := by decide +kernel
theorem d_B_init_90 : decode (mC M_B_init) 90 = .ok (.pop, 1) := by decide +kernel
theorem d_B_init_91 : decode (mC M_B_init) 91 = .ok (.aload_n 0, 1) := by decide +kernel
theorem d_B_init_92 : decode (mC M_B_init) 92 = .ok (.getfield 12, 3) := by decide +kernel
theorem d_B_init_95 : decode (mC M_B_init) 95 = .ok (.invokevirtual 53, 3) := by decide +kernel
theorem d_B_init_98 : decode (mC M_B_init) 98 = .ok (.pop, 1) := by decide +kernel
theorem d_B_init_99 : decode (mC M_B_init) 99 = .ok (.aload_n 0, 1) := by decide +kernel
theorem d_B_init_100 : decode (mC M_B_init) 100 = .ok (.new 56, 3) := by decide +kernel
theorem d_B_init_103 : decode (mC M_B_init) 103 = .ok (.dup, 1) := by decide +kernel
theorem d_B_init_104 : decode (mC M_B_init) 104 = .ok (.aload_n 0, 1) := by decide +kernel
theorem d_B_init_105 : decode (mC M_B_init) 105 = .ok (.getfield 19, 3) := by decide +kernel
theorem d_B_init_108 : decode (mC M_B_init) 108 = .ok (.aload_n 0, 1) := by decide +kernel
theorem d_B_init_109 : decode (mC M_B_init) 109 = .ok (.getfield 23, 3) := by decide +kernel
theorem d_B_init_112 : decode (mC M_B_init) 112 = .ok (.invokespecial 58, 3) := by decide +kernel
theorem d_B_init_115 : decode (mC M_B_init) 115 = .ok (.putfield 61, 3) := by decide +kernel
theorem d_B_init_118 : decode (mC M_B_init) 118 = .ok (.return_, 1) := by decide +kernel
def vc_B_init_79 (q v : Nat) (f : Option Nat) (r : Option Value) (hf : hc_H) (J : Nat → hc_K) (lv : hc_L) (st : List Value) (h : hc_H) : Prop := (qi_aload 0 (qi_get 5 0 (qi_aload 0 (qi_get 5 1 (qi_invV hc_tt M_S_readInto 1 3 (qi_pop (qi_aload 0 (qi_get 5 0 (qi_invV hc_tt M_S_clear 0 3 (qi_pop (qi_aload 0 (qi_new 4 12 [.null, .null, .null, .int 0, .int 0, .int 0, .int 0, .int 0, .long 0, .null, .null, .int 0] (qi_dup (qi_aload 0 (qi_get 5 1 (qi_aload 0 (qi_get 5 2 (qi_invI hc_tt M_Y_init 2 (qi_put 5 4 (.object "BalancedLine$Study") (qi_vret r hf)))))))))))))))))))) lv st h
theorem sn_B_init_79 {q v : Nat} {f : Option Nat} {h0 hf : hc_H} {r : Option Value} : qk (phS q v f) M_B_init h0 hf r 79 (vc_B_init_79 q v f r hf (cx (phS q v f) M_B_init h0 hf r)) := (qs_aload_n d_B_init_79 rfl (qs_get d_B_init_80 ff_B_12 (qs_aload_n d_B_init_83 rfl (qs_get d_B_init_84 ff_B_19 (qs_invV hc_Ph_tt (fun _ _ _ => trivial) d_B_init_87 zz_S_readInto wk_208 ⟨wk_209, wk_210⟩ ⟨_, rfl, rfl⟩ ⟨by decide, by decide⟩ (qs_pop d_B_init_90 (qs_aload_n d_B_init_91 rfl (qs_get d_B_init_92 ff_B_12 (qs_invV hc_Ph_tt (fun _ _ _ => trivial) d_B_init_95 zz_S_clear wk_289 ⟨wk_290, wk_291⟩ ⟨_, rfl, rfl⟩ ⟨by decide, by decide⟩ (qs_pop d_B_init_98 (qs_aload_n d_B_init_99 rfl (qs_new tyX4 d_B_init_100 rfl inG_4 tyX4_ok wk_293 wk_294 wk_63 hcd_4 (qs_dup d_B_init_103 (qs_aload_n d_B_init_104 rfl (qs_get d_B_init_105 ff_B_19 (qs_aload_n d_B_init_108 rfl (qs_get d_B_init_109 ff_B_23 (qs_invI hc_Ph_tt (fun _ _ _ => trivial) d_B_init_112 zz_Y_init wk_295 wk_296 rfl rfl ⟨by decide, by decide⟩ (qs_putF d_B_init_115 ff_B_61 rfl ⟨_, _, _, rfl, rfl, rfl, by decide +kernel⟩ (qs_vret d_B_init_118 rfl))))))))))))))))))))
def vc_B_init_50 (q v : Nat) (f : Option Nat) (r : Option Value) (hf : hc_H) (J : Nat → hc_K) (lv : hc_L) (st : List Value) (h : hc_H) : Prop := (qi_iload 1 (qi_val (.ref q) (qi_invT q v f M_JS_length 0 (qi_icmp_ge (vc_B_init_79 q v f r hf J) (qi_aload 0 (qi_get 5 0 (qi_val (.ref q) (qi_iload 1 (qi_invT q v f M_JS_charAt 1 (qi_invV hc_tt M_S_add 1 3 (qi_pop (qi_iinc 1 (nI 1) (J 50))))))))))))) lv st h
theorem sn_B_init_50 {q v : Nat} {f : Option Nat} {h0 hf : hc_H} {r : Option Value} : qk (phS q v f) M_B_init h0 hf r 50 (vc_B_init_50 q v f r hf (cx (phS q v f) M_B_init h0 hf r)) := (qs_iload_n d_B_init_50 rfl (qs_ldS d_B_init_51 rfl (qs_invT d_B_init_53 zz_JS_length wk_156 ⟨wk_157, wk_158⟩ rfl ⟨by decide, by decide⟩ (qs_icmp_ge (tgt := 79) d_B_init_56 (by decide) sn_B_init_79 (qs_aload_n d_B_init_59 rfl (qs_get d_B_init_60 ff_B_12 (qs_ldS d_B_init_63 rfl (qs_iload_n d_B_init_65 rfl (qs_invT d_B_init_66 zz_JS_charAt wk_166 ⟨wk_167, wk_168⟩ rfl ⟨by decide, by decide⟩ (qs_invV hc_Ph_tt (fun _ _ _ => trivial) d_B_init_69 zz_S_add wk_204 ⟨wk_205, wk_206⟩ ⟨_, rfl, rfl⟩ ⟨by decide, by decide⟩ (qs_pop d_B_init_72 (qs_iinc d_B_init_73 (by decide) (by decide) (qs_goto (tgt := 50) d_B_init_76 (by decide) (fun _ _ _ h9 => h9))))))))))))))
def vc_B_init_0 (q v : Nat) (f : Option Nat) (r : Option Value) (hf : hc_H) (J : Nat → hc_K) (lv : hc_L) (st : List Value) (h : hc_H) : Prop := (qi_aload 0 (qi_obj (qi_aload 0 (qi_new 3 2 [.null, .int 0] (qi_dup (qi_invI hc_tt M_S_init 0 (qi_put 5 0 (.object "BalancedLine$Script") (qi_aload 0 (qi_new 2 7 [.int 0, .int 0, .null, .null, .null, .null, .null] (qi_dup (qi_invI hc_tt M_P_init 0 (qi_put 5 1 (.object "BalancedLine$Plan") (qi_aload 0 (qi_new 2 7 [.int 0, .int 0, .null, .null, .null, .null, .null] (qi_dup (qi_invI hc_tt M_P_init 0 (qi_put 5 2 (.object "BalancedLine$Plan") (qi_aload 0 (qi_new 1 2 [.null, .int 0] (qi_dup (qi_invI hc_tt M_H_init 0 (qi_put 5 3 (.object "BalancedLine$Past") (qi_push (nI 0) (qi_istore 1 (J 50))))))))))))))))))))))))) lv st h
theorem sn_B_init_0 {q v : Nat} {f : Option Nat} {h0 hf : hc_H} {r : Option Value} : qk (phS q v f) M_B_init h0 hf r 0 (vc_B_init_0 q v f r hf (cx (phS q v f) M_B_init h0 hf r)) := (qs_aload_n d_B_init_0 rfl (qs_obj d_B_init_1 wk_74 wk_75 wk_obj (by decide) (by decide) (qs_aload_n d_B_init_4 rfl (qs_new tyX3 d_B_init_5 rfl inG_3 tyX3_ok wk_77 wk_78 wk_55 hcd_3 (qs_dup d_B_init_8 (qs_invIN hc_Ph_tt (fun _ _ _ => trivial) d_B_init_9 zz_S_init (fun U hN => hN.1) wk_80 rfl rfl ⟨by decide, by decide⟩ (qs_putF d_B_init_12 ff_B_12 rfl ⟨_, _, _, rfl, rfl, rfl, by decide +kernel⟩ (qs_aload_n d_B_init_15 rfl (qs_new tyX2 d_B_init_16 rfl inG_2 tyX2_ok wk_92 wk_93 wk_56 hcd_2 (qs_dup d_B_init_19 (qs_invIN hc_Ph_tt (fun _ _ _ => trivial) d_B_init_20 zz_P_init (fun U hN => hN.2.1) wk_95 rfl rfl ⟨by decide, by decide⟩ (qs_putF d_B_init_23 ff_B_19 rfl ⟨_, _, _, rfl, rfl, rfl, by decide +kernel⟩ (qs_aload_n d_B_init_26 rfl (qs_new tyX2 d_B_init_27 rfl inG_2 tyX2_ok wk_92 wk_93 wk_56 hcd_2 (qs_dup d_B_init_30 (qs_invIN hc_Ph_tt (fun _ _ _ => trivial) d_B_init_31 zz_P_init (fun U hN => hN.2.1) wk_95 rfl rfl ⟨by decide, by decide⟩ (qs_putF d_B_init_34 ff_B_23 rfl ⟨_, _, _, rfl, rfl, rfl, by decide +kernel⟩ (qs_aload_n d_B_init_37 rfl (qs_new tyX1 d_B_init_38 rfl inG_1 tyX1_ok wk_138 wk_139 wk_57 hcd_1 (qs_dup d_B_init_41 (qs_invI hc_Ph_tt (fun _ _ _ => trivial) d_B_init_42 zz_H_init wk_140 wk_141 rfl rfl ⟨by decide, by decide⟩ (qs_putF d_B_init_45 ff_B_29 rfl ⟨_, _, _, rfl, rfl, rfl, by decide +kernel⟩ (qs_iconst d_B_init_48 (by decide) (qs_istore_n d_B_init_49 rfl (by decide) (fun _ _ _ h9 => h9)))))))))))))))))))))))))
