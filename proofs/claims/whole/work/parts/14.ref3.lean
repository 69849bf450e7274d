/-! BalancedLineModel.stationsOf(I)I -/
abbrev M_R_stationsOf : hc_M := (⟨"BalancedLineModel", "stationsOf", "(I)I"⟩, prog_8_method_50_code, 6, (some .int), 2, 47)
theorem d_R_stationsOf_0 : decode (mC M_R_stationsOf) 0 = .ok (.aload_n 0, 1) := by decide +kernel
theorem d_R_stationsOf_1 : decode (mC M_R_stationsOf) 1 = .ok (.getfield 35, 3) := by decide +kernel
theorem d_R_stationsOf_4 : decode (mC M_R_stationsOf) 4 = .ok (.aload_n 0, 1) := by decide +kernel
theorem d_R_stationsOf_5 : decode (mC M_R_stationsOf) 5 = .ok (.invokevirtual 146, 3) := by decide +kernel
theorem d_R_stationsOf_8 : decode (mC M_R_stationsOf) 8 = .ok (.iconst 1, 1) := by decide +kernel
theorem d_R_stationsOf_9 : decode (mC M_R_stationsOf) 9 = .ok (.bastore, 1) := by decide +kernel
theorem d_R_stationsOf_10 : decode (mC M_R_stationsOf) 10 = .ok (.aload_n 0, 1) := by decide +kernel
theorem d_R_stationsOf_11 : decode (mC M_R_stationsOf) 11 = .ok (.invokevirtual 146, 3) := by decide +kernel
theorem d_R_stationsOf_14 : decode (mC M_R_stationsOf) 14 = .ok (.iconst 1, 1) := by decide +kernel
theorem d_R_stationsOf_15 : decode (mC M_R_stationsOf) 15 = .ok (.isub, 1) := by decide +kernel
theorem d_R_stationsOf_16 : decode (mC M_R_stationsOf) 16 = .ok (.istore_n 2, 1) := by decide +kernel
theorem d_R_stationsOf_17 : decode (mC M_R_stationsOf) 17 = .ok (.iload_n 2, 1) := by decide +kernel
theorem d_R_stationsOf_18 : decode (mC M_R_stationsOf) 18 = .ok (.ifCond .lt 112, 3) := by decide +kernel
theorem d_R_stationsOf_21 : decode (mC M_R_stationsOf) 21 = .ok (.aload_n 0, 1) := by decide +kernel
theorem d_R_stationsOf_22 : decode (mC M_R_stationsOf) 22 = .ok (.invokevirtual 146, 3) := by decide +kernel
theorem d_R_stationsOf_25 : decode (mC M_R_stationsOf) 25 = .ok (.iload_n 2, 1) := by decide +kernel
theorem d_R_stationsOf_26 : decode (mC M_R_stationsOf) 26 = .ok (.iconst (-1), 1) := by decide +kernel
theorem d_R_stationsOf_27 : decode (mC M_R_stationsOf) 27 = .ok (.ixor, 1) := by decide +kernel
theorem d_R_stationsOf_28 : decode (mC M_R_stationsOf) 28 = .ok (.iand, 1) := by decide +kernel
theorem d_R_stationsOf_29 : decode (mC M_R_stationsOf) 29 = .ok (.istore_n 3, 1) := by decide +kernel
theorem d_R_stationsOf_30 : decode (mC M_R_stationsOf) 30 = .ok (.aload_n 0, 1) := by decide +kernel
theorem d_R_stationsOf_31 : decode (mC M_R_stationsOf) 31 = .ok (.getfield 35, 3) := by decide +kernel
theorem d_R_stationsOf_34 : decode (mC M_R_stationsOf) 34 = .ok (.iload_n 2, 1) := by decide +kernel
theorem d_R_stationsOf_35 : decode (mC M_R_stationsOf) 35 = .ok (.iconst 0, 1) := by decide +kernel
theorem d_R_stationsOf_36 : decode (mC M_R_stationsOf) 36 = .ok (.bastore, 1) := by decide +kernel
theorem d_R_stationsOf_37 : decode (mC M_R_stationsOf) 37 = .ok (.aload_n 0, 1) := by decide +kernel
theorem d_R_stationsOf_38 : decode (mC M_R_stationsOf) 38 = .ok (.getfield 38, 3) := by decide +kernel
theorem d_R_stationsOf_41 : decode (mC M_R_stationsOf) 41 = .ok (.iload_n 2, 1) := by decide +kernel
theorem d_R_stationsOf_42 : decode (mC M_R_stationsOf) 42 = .ok (.iload_n 2, 1) := by decide +kernel
theorem d_R_stationsOf_43 : decode (mC M_R_stationsOf) 43 = .ok (.ifCond .ne 7, 3) := by decide +kernel
theorem d_R_stationsOf_46 : decode (mC M_R_stationsOf) 46 = .ok (.iconst 1, 1) := by decide +kernel
theorem d_R_stationsOf_47 : decode (mC M_R_stationsOf) 47 = .ok (.goto 4, 3) := by decide +kernel
theorem d_R_stationsOf_50 : decode (mC M_R_stationsOf) 50 = .ok (.iconst 0, 1) := by decide +kernel
theorem d_R_stationsOf_51 : decode (mC M_R_stationsOf) 51 = .ok (.bastore, 1) := by decide +kernel
theorem d_R_stationsOf_52 : decode (mC M_R_stationsOf) 52 = .ok (.iload_n 3, 1) := by decide +kernel
theorem d_R_stationsOf_53 : decode (mC M_R_stationsOf) 53 = .ok (.istore 4, 2) := by decide +kernel
theorem d_R_stationsOf_55 : decode (mC M_R_stationsOf) 55 = .ok (.iload 4, 2) := by decide +kernel
theorem d_R_stationsOf_57 : decode (mC M_R_stationsOf) 57 = .ok (.ifCond .le 67, 3) := by decide +kernel
theorem d_R_stationsOf_60 : decode (mC M_R_stationsOf) 60 = .ok (.aload_n 0, 1) := by decide +kernel
theorem d_R_stationsOf_61 : decode (mC M_R_stationsOf) 61 = .ok (.getfield 35, 3) := by decide +kernel
theorem d_R_stationsOf_64 : decode (mC M_R_stationsOf) 64 = .ok (.iload_n 2, 1) := by decide +kernel
theorem d_R_stationsOf_65 : decode (mC M_R_stationsOf) 65 = .ok (.baload, 1) := by decide +kernel
theorem d_R_stationsOf_66 : decode (mC M_R_stationsOf) 66 = .ok (.ifCond .ne 58, 3) := by decide +kernel
theorem d_R_stationsOf_69 : decode (mC M_R_stationsOf) 69 = .ok (.aload_n 0, 1) := by decide +kernel
theorem d_R_stationsOf_70 : decode (mC M_R_stationsOf) 70 = .ok (.getfield 29, 3) := by decide +kernel
theorem d_R_stationsOf_73 : decode (mC M_R_stationsOf) 73 = .ok (.iload_n 2, 1) := by decide +kernel
theorem d_R_stationsOf_74 : decode (mC M_R_stationsOf) 74 = .ok (.iaload, 1) := by decide +kernel
theorem d_R_stationsOf_75 : decode (mC M_R_stationsOf) 75 = .ok (.bipush 100, 2) := by decide +kernel
theorem d_R_stationsOf_77 : decode (mC M_R_stationsOf) 77 = .ok (.if_icmp .ge 47, 3) := by decide +kernel
theorem d_R_stationsOf_80 : decode (mC M_R_stationsOf) 80 = .ok (.aload_n 0, 1) := by decide +kernel
theorem d_R_stationsOf_81 : decode (mC M_R_stationsOf) 81 = .ok (.getfield 35, 3) := by decide +kernel
theorem d_R_stationsOf_84 : decode (mC M_R_stationsOf) 84 = .ok (.iload_n 2, 1) := by decide +kernel
theorem d_R_stationsOf_85 : decode (mC M_R_stationsOf) 85 = .ok (.aload_n 0, 1) := by decide +kernel
theorem d_R_stationsOf_86 : decode (mC M_R_stationsOf) 86 = .ok (.getfield 35, 3) := by decide +kernel
theorem d_R_stationsOf_89 : decode (mC M_R_stationsOf) 89 = .ok (.iload_n 2, 1) := by decide +kernel
theorem d_R_stationsOf_90 : decode (mC M_R_stationsOf) 90 = .ok (.iload 4, 2) := by decide +kernel
theorem d_R_stationsOf_92 : decode (mC M_R_stationsOf) 92 = .ok (.ior, 1) := by decide +kernel
theorem d_R_stationsOf_93 : decode (mC M_R_stationsOf) 93 = .ok (.baload, 1) := by decide +kernel
theorem d_R_stationsOf_94 : decode (mC M_R_stationsOf) 94 = .ok (.ifCond .eq 17, 3) := by decide +kernel
theorem d_R_stationsOf_97 : decode (mC M_R_stationsOf) 97 = .ok (.aload_n 0, 1) := by decide +kernel
theorem d_R_stationsOf_98 : decode (mC M_R_stationsOf) 98 = .ok (.iload_n 2, 1) := by decide +kernel
theorem d_R_stationsOf_99 : decode (mC M_R_stationsOf) 99 = .ok (.iload 4, 2) := by decide +kernel
theorem d_R_stationsOf_101 : decode (mC M_R_stationsOf) 101 = .ok (.invokevirtual 172, 3) := by decide +kernel
theorem d_R_stationsOf_104 : decode (mC M_R_stationsOf) 104 = .ok (.ifCond .eq 7, 3) := by decide +kernel
theorem d_R_stationsOf_107 : decode (mC M_R_stationsOf) 107 = .ok (.iconst 1, 1) := by decide +kernel
theorem d_R_stationsOf_108 : decode (mC M_R_stationsOf) 108 = .ok (.goto 4, 3) := by decide +kernel
theorem d_R_stationsOf_111 : decode (mC M_R_stationsOf) 111 = .ok (.iconst 0, 1) := by decide +kernel
theorem d_R_stationsOf_112 : decode (mC M_R_stationsOf) 112 = .ok (.bastore, 1) := by decide +kernel
theorem d_R_stationsOf_113 : decode (mC M_R_stationsOf) 113 = .ok (.iload 4, 2) := by decide +kernel
theorem d_R_stationsOf_115 : decode (mC M_R_stationsOf) 115 = .ok (.iconst 1, 1) := by decide +kernel
theorem d_R_stationsOf_116 : decode (mC M_R_stationsOf) 116 = .ok (.isub, 1) := by decide +kernel
theorem d_R_stationsOf_117 : decode (mC M_R_stationsOf) 117 = .ok (.iload_n 3, 1) := by decide +kernel
theorem d_R_stationsOf_118 : decode (mC M_R_stationsOf) 118 = .ok (.iand, 1) := by decide +kernel
theorem d_R_stationsOf_119 : decode (mC M_R_stationsOf) 119 = .ok (.istore 4, 2) := by decide +kernel
theorem d_R_stationsOf_121 : decode (mC M_R_stationsOf) 121 = .ok (.goto (-66), 3) := by decide +kernel
theorem d_R_stationsOf_124 : decode (mC M_R_stationsOf) 124 = .ok (.iinc 2 (-1), 3) := by decide +kernel
theorem d_R_stationsOf_127 : decode (mC M_R_stationsOf) 127 = .ok (.goto (-110), 3) := by decide +kernel
theorem d_R_stationsOf_130 : decode (mC M_R_stationsOf) 130 = .ok (.iconst 0, 1) := by decide +kernel
theorem d_R_stationsOf_131 : decode (mC M_R_stationsOf) 131 = .ok (.istore_n 2, 1) := by decide +kernel
theorem d_R_stationsOf_132 : decode (mC M_R_stationsOf) 132 = .ok (.iconst 0, 1) := by decide +kernel
theorem d_R_stationsOf_133 : decode (mC M_R_stationsOf) 133 = .ok (.istore_n 3, 1) := by decide +kernel
theorem d_R_stationsOf_134 : decode (mC M_R_stationsOf) 134 = .ok (.iload_n 3, 1) := by decide +kernel
theorem d_R_stationsOf_135 : decode (mC M_R_stationsOf) 135 = .ok (.aload_n 0, 1) := by decide +kernel
theorem d_R_stationsOf_136 : decode (mC M_R_stationsOf) 136 = .ok (.invokevirtual 146, 3) := by decide +kernel
theorem d_R_stationsOf_139 : decode (mC M_R_stationsOf) 139 = .ok (.if_icmp .ge 123, 3) := by decide +kernel
theorem d_R_stationsOf_142 : decode (mC M_R_stationsOf) 142 = .ok (.aload_n 0, 1) := by decide +kernel
theorem d_R_stationsOf_143 : decode (mC M_R_stationsOf) 143 = .ok (.invokevirtual 146, 3) := by decide +kernel
theorem d_R_stationsOf_146 : decode (mC M_R_stationsOf) 146 = .ok (.iload_n 3, 1) := by decide +kernel
theorem d_R_stationsOf_147 : decode (mC M_R_stationsOf) 147 = .ok (.iconst (-1), 1) := by decide +kernel
theorem d_R_stationsOf_148 : decode (mC M_R_stationsOf) 148 = .ok (.ixor, 1) := by decide +kernel
theorem d_R_stationsOf_149 : decode (mC M_R_stationsOf) 149 = .ok (.iand, 1) := by decide +kernel
theorem d_R_stationsOf_150 : decode (mC M_R_stationsOf) 150 = .ok (.istore 4, 2) := by decide +kernel
theorem d_R_stationsOf_152 : decode (mC M_R_stationsOf) 152 = .ok (.iload 4, 2) := by decide +kernel
theorem d_R_stationsOf_154 : decode (mC M_R_stationsOf) 154 = .ok (.istore 5, 2) := by decide +kernel
theorem d_R_stationsOf_156 : decode (mC M_R_stationsOf) 156 = .ok (.iload 5, 2) := by decide +kernel
theorem d_R_stationsOf_158 : decode (mC M_R_stationsOf) 158 = .ok (.ifCond .le 98, 3) := by decide +kernel
theorem d_R_stationsOf_161 : decode (mC M_R_stationsOf) 161 = .ok (.aload_n 0, 1) := by decide +kernel
theorem d_R_stationsOf_162 : decode (mC M_R_stationsOf) 162 = .ok (.getfield 38, 3) := by decide +kernel
theorem d_R_stationsOf_165 : decode (mC M_R_stationsOf) 165 = .ok (.iload_n 3, 1) := by decide +kernel
theorem d_R_stationsOf_166 : decode (mC M_R_stationsOf) 166 = .ok (.baload, 1) := by decide +kernel
theorem d_R_stationsOf_167 : decode (mC M_R_stationsOf) 167 = .ok (.ifCond .eq 89, 3) := by decide +kernel
theorem d_R_stationsOf_170 : decode (mC M_R_stationsOf) 170 = .ok (.aload_n 0, 1) := by decide +kernel
theorem d_R_stationsOf_171 : decode (mC M_R_stationsOf) 171 = .ok (.getfield 35, 3) := by decide +kernel
theorem d_R_stationsOf_174 : decode (mC M_R_stationsOf) 174 = .ok (.iload_n 3, 1) := by decide +kernel
theorem d_R_stationsOf_175 : decode (mC M_R_stationsOf) 175 = .ok (.baload, 1) := by decide +kernel
theorem d_R_stationsOf_176 : decode (mC M_R_stationsOf) 176 = .ok (.ifCond .eq 80, 3) := by decide +kernel
theorem d_R_stationsOf_179 : decode (mC M_R_stationsOf) 179 = .ok (.aload_n 0, 1) := by decide +kernel
theorem d_R_stationsOf_180 : decode (mC M_R_stationsOf) 180 = .ok (.getfield 35, 3) := by decide +kernel
theorem d_R_stationsOf_183 : decode (mC M_R_stationsOf) 183 = .ok (.iload_n 3, 1) := by decide +kernel
theorem d_R_stationsOf_184 : decode (mC M_R_stationsOf) 184 = .ok (.iload 5, 2) := by decide +kernel
theorem d_R_stationsOf_186 : decode (mC M_R_stationsOf) 186 = .ok (.ior, 1) := by decide +kernel
theorem d_R_stationsOf_187 : decode (mC M_R_stationsOf) 187 = .ok (.baload, 1) := by decide +kernel
theorem d_R_stationsOf_188 : decode (mC M_R_stationsOf) 188 = .ok (.ifCond .eq 56, 3) := by decide +kernel
theorem d_R_stationsOf_191 : decode (mC M_R_stationsOf) 191 = .ok (.aload_n 0, 1) := by decide +kernel
theorem d_R_stationsOf_192 : decode (mC M_R_stationsOf) 192 = .ok (.iload_n 3, 1) := by decide +kernel
theorem d_R_stationsOf_193 : decode (mC M_R_stationsOf) 193 = .ok (.iload 5, 2) := by decide +kernel
theorem d_R_stationsOf_195 : decode (mC M_R_stationsOf) 195 = .ok (.invokevirtual 172, 3) := by decide +kernel
theorem d_R_stationsOf_198 : decode (mC M_R_stationsOf) 198 = .ok (.ifCond .eq 46, 3) := by decide +kernel
theorem d_R_stationsOf_201 : decode (mC M_R_stationsOf) 201 = .ok (.aload_n 0, 1) := by decide +kernel
theorem d_R_stationsOf_202 : decode (mC M_R_stationsOf) 202 = .ok (.getfield 38, 3) := by decide +kernel
theorem d_R_stationsOf_205 : decode (mC M_R_stationsOf) 205 = .ok (.iload_n 3, 1) := by decide +kernel
theorem d_R_stationsOf_206 : decode (mC M_R_stationsOf) 206 = .ok (.iload 5, 2) := by decide +kernel
theorem d_R_stationsOf_208 : decode (mC M_R_stationsOf) 208 = .ok (.ior, 1) := by decide +kernel
theorem d_R_stationsOf_209 : decode (mC M_R_stationsOf) 209 = .ok (.iconst 1, 1) := by decide +kernel
theorem d_R_stationsOf_210 : decode (mC M_R_stationsOf) 210 = .ok (.bastore, 1) := by decide +kernel
theorem d_R_stationsOf_211 : decode (mC M_R_stationsOf) 211 = .ok (.iload_n 2, 1) := by decide +kernel
theorem d_R_stationsOf_212 : decode (mC M_R_stationsOf) 212 = .ok (.iload 5, 2) := by decide +kernel
theorem d_R_stationsOf_214 : decode (mC M_R_stationsOf) 214 = .ok (.iload_n 1, 1) := by decide +kernel
theorem d_R_stationsOf_215 : decode (mC M_R_stationsOf) 215 = .ok (.invokestatic 48, 3) := by decide +kernel
theorem d_R_stationsOf_218 : decode (mC M_R_stationsOf) 218 = .ok (.ifCond .eq 23, 3) := by decide +kernel
theorem d_R_stationsOf_221 : decode (mC M_R_stationsOf) 221 = .ok (.iconst 1, 1) := by decide +kernel
theorem d_R_stationsOf_222 : decode (mC M_R_stationsOf) 222 = .ok (.aload_n 0, 1) := by decide +kernel
theorem d_R_stationsOf_223 : decode (mC M_R_stationsOf) 223 = .ok (.getfield 29, 3) := by decide +kernel
theorem d_R_stationsOf_226 : decode (mC M_R_stationsOf) 226 = .ok (.iconst 0, 1) := by decide +kernel
theorem d_R_stationsOf_227 : decode (mC M_R_stationsOf) 227 = .ok (.iaload, 1) := by decide +kernel
theorem d_R_stationsOf_228 : decode (mC M_R_stationsOf) 228 = .ok (.aload_n 0, 1) := by decide +kernel
theorem d_R_stationsOf_229 : decode (mC M_R_stationsOf) 229 = .ok (.getfield 29, 3) := by decide +kernel
theorem d_R_stationsOf_232 : decode (mC M_R_stationsOf) 232 = .ok (.iload_n 3, 1) := by decide +kernel
theorem d_R_stationsOf_233 : decode (mC M_R_stationsOf) 233 = .ok (.iaload, 1) := by decide +kernel
theorem d_R_stationsOf_234 : decode (mC M_R_stationsOf) 234 = .ok (.isub, 1) := by decide +kernel
theorem d_R_stationsOf_235 : decode (mC M_R_stationsOf) 235 = .ok (.iconst 1, 1) := by decide +kernel
theorem d_R_stationsOf_236 : decode (mC M_R_stationsOf) 236 = .ok (.iadd, 1) := by decide +kernel
theorem d_R_stationsOf_237 : decode (mC M_R_stationsOf) 237 = .ok (.ishl, 1) := by decide +kernel
theorem d_R_stationsOf_238 : decode (mC M_R_stationsOf) 238 = .ok (.goto 4, 3) := by decide +kernel
theorem d_R_stationsOf_241 : decode (mC M_R_stationsOf) 241 = .ok (.iconst 0, 1) := by decide +kernel
theorem d_R_stationsOf_242 : decode (mC M_R_stationsOf) 242 = .ok (.ior, 1) := by decide +kernel
theorem d_R_stationsOf_243 : decode (mC M_R_stationsOf) 243 = .ok (.istore_n 2, 1) := by decide +kernel
theorem d_R_stationsOf_244 : decode (mC M_R_stationsOf) 244 = .ok (.iload 5, 2) := by decide +kernel
theorem d_R_stationsOf_246 : decode (mC M_R_stationsOf) 246 = .ok (.iconst 1, 1) := by decide +kernel
theorem d_R_stationsOf_247 : decode (mC M_R_stationsOf) 247 = .ok (.isub, 1) := by decide +kernel
theorem d_R_stationsOf_248 : decode (mC M_R_stationsOf) 248 = .ok (.iload 4, 2) := by decide +kernel
theorem d_R_stationsOf_250 : decode (mC M_R_stationsOf) 250 = .ok (.iand, 1) := by decide +kernel
theorem d_R_stationsOf_251 : decode (mC M_R_stationsOf) 251 = .ok (.istore 5, 2) := by decide +kernel
theorem d_R_stationsOf_253 : decode (mC M_R_stationsOf) 253 = .ok (.goto (-97), 3) := by decide +kernel
theorem d_R_stationsOf_256 : decode (mC M_R_stationsOf) 256 = .ok (.iinc 3 1, 3) := by decide +kernel
theorem d_R_stationsOf_259 : decode (mC M_R_stationsOf) 259 = .ok (.goto (-125), 3) := by decide +kernel
theorem d_R_stationsOf_262 : decode (mC M_R_stationsOf) 262 = .ok (.iload_n 2, 1) := by decide +kernel
theorem d_R_stationsOf_263 : decode (mC M_R_stationsOf) 263 = .ok (.ireturn, 1) := by decide +kernel
def vc_R_stationsOf_262 (r : Option Value) (hf : hc_H) (J : Nat → hc_K) (lv : hc_L) (st : List Value) (h : hc_H) : Prop := (qi_iload 2 (qi_iret r hf)) lv st h
theorem sn_R_stationsOf_262 {Ph : Nat → State → Prop} {h0 hf : hc_H} {r : Option Value} : qk Ph M_R_stationsOf h0 hf r 262 (vc_R_stationsOf_262 r hf (cx Ph M_R_stationsOf h0 hf r)) := (qs_iload_n d_R_stationsOf_262 rfl (qs_iret d_R_stationsOf_263 rfl))
def vc_R_stationsOf_256 (r : Option Value) (hf : hc_H) (J : Nat → hc_K) (lv : hc_L) (st : List Value) (h : hc_H) : Prop := (qi_iinc 3 (nI 1) (J 134)) lv st h
theorem sn_R_stationsOf_256 {Ph : Nat → State → Prop} {h0 hf : hc_H} {r : Option Value} : qk Ph M_R_stationsOf h0 hf r 256 (vc_R_stationsOf_256 r hf (cx Ph M_R_stationsOf h0 hf r)) := (qs_iinc d_R_stationsOf_256 (by decide) (by decide) (qs_goto (tgt := 134) d_R_stationsOf_259 (by decide) (fun _ _ _ h9 => h9)))
def vc_R_stationsOf_244 (r : Option Value) (hf : hc_H) (J : Nat → hc_K) (lv : hc_L) (st : List Value) (h : hc_H) : Prop := (qi_iload 5 (qi_push (nI 1) (qi_isub (qi_iload 4 (qi_iand (qi_istore 5 (J 156))))))) lv st h
theorem sn_R_stationsOf_244 {Ph : Nat → State → Prop} {h0 hf : hc_H} {r : Option Value} : qk Ph M_R_stationsOf h0 hf r 244 (vc_R_stationsOf_244 r hf (cx Ph M_R_stationsOf h0 hf r)) := (qs_iload d_R_stationsOf_244 (qs_iconst d_R_stationsOf_246 (by decide) (qs_isub d_R_stationsOf_247 (qs_iload d_R_stationsOf_248 (qs_iand d_R_stationsOf_250 (qs_istore d_R_stationsOf_251 (by decide) (qs_goto (tgt := 156) d_R_stationsOf_253 (by decide) (fun _ _ _ h9 => h9))))))))
def vc_R_stationsOf_242 (r : Option Value) (hf : hc_H) (J : Nat → hc_K) (lv : hc_L) (st : List Value) (h : hc_H) : Prop := (qi_ior (qi_istore 2 (vc_R_stationsOf_244 r hf J))) lv st h
theorem sn_R_stationsOf_242 {Ph : Nat → State → Prop} {h0 hf : hc_H} {r : Option Value} : qk Ph M_R_stationsOf h0 hf r 242 (vc_R_stationsOf_242 r hf (cx Ph M_R_stationsOf h0 hf r)) := (qs_ior d_R_stationsOf_242 (qs_istore_n d_R_stationsOf_243 rfl (by decide) sn_R_stationsOf_244))
def vc_R_stationsOf_241 (r : Option Value) (hf : hc_H) (J : Nat → hc_K) (lv : hc_L) (st : List Value) (h : hc_H) : Prop := (qi_push (nI 0) (vc_R_stationsOf_242 r hf J)) lv st h
theorem sn_R_stationsOf_241 {Ph : Nat → State → Prop} {h0 hf : hc_H} {r : Option Value} : qk Ph M_R_stationsOf h0 hf r 241 (vc_R_stationsOf_241 r hf (cx Ph M_R_stationsOf h0 hf r)) := (qs_iconst d_R_stationsOf_241 (by decide) sn_R_stationsOf_242)
def vc_R_stationsOf_156 (r : Option Value) (hf : hc_H) (J : Nat → hc_K) (lv : hc_L) (st : List Value) (h : hc_H) : Prop := (qi_iload 5 (qi_if_le (vc_R_stationsOf_256 r hf J) (qi_aload 0 (qi_get 6 12 (qi_iload 3 (qi_iald 1 (qi_if_eq (vc_R_stationsOf_256 r hf J) (qi_aload 0 (qi_get 6 11 (qi_iload 3 (qi_iald 1 (qi_if_eq (vc_R_stationsOf_256 r hf J) (qi_aload 0 (qi_get 6 11 (qi_iload 3 (qi_iload 5 (qi_ior (qi_iald 1 (qi_if_eq (vc_R_stationsOf_244 r hf J) (qi_aload 0 (qi_iload 3 (qi_iload 5 (qi_invV hc_tt M_R_isBest 2 6 (qi_if_eq (vc_R_stationsOf_244 r hf J) (qi_aload 0 (qi_get 6 12 (qi_iload 3 (qi_iload 5 (qi_ior (qi_push (nI 1) (qi_zast (qi_iload 2 (qi_iload 5 (qi_iload 1 (qi_invS hc_tt M_R_has 2 (qi_if_eq (vc_R_stationsOf_241 r hf J) (qi_push (nI 1) (qi_aload 0 (qi_get 6 9 (qi_push (nI 0) (qi_iald 0 (qi_aload 0 (qi_get 6 9 (qi_iload 3 (qi_iald 0 (qi_isub (qi_push (nI 1) (qi_iadd (qi_ishl (vc_R_stationsOf_242 r hf J)))))))))))))))))))))))))))))))))))))))))))))))))) lv st h
theorem sn_R_stationsOf_156 {Ph : Nat → State → Prop} {h0 hf : hc_H} {r : Option Value} : qk Ph M_R_stationsOf h0 hf r 156 (vc_R_stationsOf_156 r hf (cx Ph M_R_stationsOf h0 hf r)) := (qs_iload d_R_stationsOf_156 (qs_if_le (tgt := 256) d_R_stationsOf_158 (by decide) sn_R_stationsOf_256 (qs_aload_n d_R_stationsOf_161 rfl (qs_get d_R_stationsOf_162 ff_R_38 (qs_iload_n d_R_stationsOf_165 rfl (qs_baload d_R_stationsOf_166 (qs_if_eq (tgt := 256) d_R_stationsOf_167 (by decide) sn_R_stationsOf_256 (qs_aload_n d_R_stationsOf_170 rfl (qs_get d_R_stationsOf_171 ff_R_35 (qs_iload_n d_R_stationsOf_174 rfl (qs_baload d_R_stationsOf_175 (qs_if_eq (tgt := 256) d_R_stationsOf_176 (by decide) sn_R_stationsOf_256 (qs_aload_n d_R_stationsOf_179 rfl (qs_get d_R_stationsOf_180 ff_R_35 (qs_iload_n d_R_stationsOf_183 rfl (qs_iload d_R_stationsOf_184 (qs_ior d_R_stationsOf_186 (qs_baload d_R_stationsOf_187 (qs_if_eq (tgt := 244) d_R_stationsOf_188 (by decide) sn_R_stationsOf_244 (qs_aload_n d_R_stationsOf_191 rfl (qs_iload_n d_R_stationsOf_192 rfl (qs_iload d_R_stationsOf_193 (qs_invV hc_Ph_tt (fun _ _ _ => trivial) d_R_stationsOf_195 zz_R_isBest wk_1100 ⟨wk_1102, wk_48⟩ ⟨_, rfl, rfl⟩ ⟨by decide, by decide⟩ (qs_if_eq (tgt := 244) d_R_stationsOf_198 (by decide) sn_R_stationsOf_244 (qs_aload_n d_R_stationsOf_201 rfl (qs_get d_R_stationsOf_202 ff_R_38 (qs_iload_n d_R_stationsOf_205 rfl (qs_iload d_R_stationsOf_206 (qs_ior d_R_stationsOf_208 (qs_iconst d_R_stationsOf_209 (by decide) (qs_bastore d_R_stationsOf_210 (qs_iload_n d_R_stationsOf_211 rfl (qs_iload d_R_stationsOf_212 (qs_iload_n d_R_stationsOf_214 rfl (qs_invS hc_Ph_tt (fun _ _ _ => trivial) d_R_stationsOf_215 zz_R_has wk_932 wk_933 ⟨by decide, by decide⟩ (qs_if_eq (tgt := 241) d_R_stationsOf_218 (by decide) sn_R_stationsOf_241 (qs_iconst d_R_stationsOf_221 (by decide) (qs_aload_n d_R_stationsOf_222 rfl (qs_get d_R_stationsOf_223 ff_R_29 (qs_iconst d_R_stationsOf_226 (by decide) (qs_iaload d_R_stationsOf_227 (qs_aload_n d_R_stationsOf_228 rfl (qs_get d_R_stationsOf_229 ff_R_29 (qs_iload_n d_R_stationsOf_232 rfl (qs_iaload d_R_stationsOf_233 (qs_isub d_R_stationsOf_234 (qs_iconst d_R_stationsOf_235 (by decide) (qs_iadd d_R_stationsOf_236 (qs_ishl d_R_stationsOf_237 (qs_goto (tgt := 242) d_R_stationsOf_238 (by decide) sn_R_stationsOf_242))))))))))))))))))))))))))))))))))))))))))))))))))
def vc_R_stationsOf_134 (r : Option Value) (hf : hc_H) (J : Nat → hc_K) (lv : hc_L) (st : List Value) (h : hc_H) : Prop := (qi_iload 3 (qi_aload 0 (qi_invV hc_tt M_R_all 0 6 (qi_icmp_ge (vc_R_stationsOf_262 r hf J) (qi_aload 0 (qi_invV hc_tt M_R_all 0 6 (qi_iload 3 (qi_push (-1) (qi_ixor (qi_iand (qi_istore 4 (qi_iload 4 (qi_istore 5 (J 156)))))))))))))) lv st h
theorem sn_R_stationsOf_134 {Ph : Nat → State → Prop} {h0 hf : hc_H} {r : Option Value} : qk Ph M_R_stationsOf h0 hf r 134 (vc_R_stationsOf_134 r hf (cx Ph M_R_stationsOf h0 hf r)) := (qs_iload_n d_R_stationsOf_134 rfl (qs_aload_n d_R_stationsOf_135 rfl (qs_invV hc_Ph_tt (fun _ _ _ => trivial) d_R_stationsOf_136 zz_R_all wk_1058 ⟨wk_1060, wk_43⟩ ⟨_, rfl, rfl⟩ ⟨by decide, by decide⟩ (qs_icmp_ge (tgt := 262) d_R_stationsOf_139 (by decide) sn_R_stationsOf_262 (qs_aload_n d_R_stationsOf_142 rfl (qs_invV hc_Ph_tt (fun _ _ _ => trivial) d_R_stationsOf_143 zz_R_all wk_1058 ⟨wk_1060, wk_43⟩ ⟨_, rfl, rfl⟩ ⟨by decide, by decide⟩ (qs_iload_n d_R_stationsOf_146 rfl (qs_iconst d_R_stationsOf_147 (by decide) (qs_ixor d_R_stationsOf_148 (qs_iand d_R_stationsOf_149 (qs_istore d_R_stationsOf_150 (by decide) (qs_iload d_R_stationsOf_152 (qs_istore d_R_stationsOf_154 (by decide) (fun _ _ _ h9 => h9))))))))))))))
def vc_R_stationsOf_130 (r : Option Value) (hf : hc_H) (J : Nat → hc_K) (lv : hc_L) (st : List Value) (h : hc_H) : Prop := (qi_push (nI 0) (qi_istore 2 (qi_push (nI 0) (qi_istore 3 (J 134))))) lv st h
theorem sn_R_stationsOf_130 {Ph : Nat → State → Prop} {h0 hf : hc_H} {r : Option Value} : qk Ph M_R_stationsOf h0 hf r 130 (vc_R_stationsOf_130 r hf (cx Ph M_R_stationsOf h0 hf r)) := (qs_iconst d_R_stationsOf_130 (by decide) (qs_istore_n d_R_stationsOf_131 rfl (by decide) (qs_iconst d_R_stationsOf_132 (by decide) (qs_istore_n d_R_stationsOf_133 rfl (by decide) (fun _ _ _ h9 => h9)))))
def vc_R_stationsOf_124 (r : Option Value) (hf : hc_H) (J : Nat → hc_K) (lv : hc_L) (st : List Value) (h : hc_H) : Prop := (qi_iinc 2 (-1) (J 17)) lv st h
theorem sn_R_stationsOf_124 {Ph : Nat → State → Prop} {h0 hf : hc_H} {r : Option Value} : qk Ph M_R_stationsOf h0 hf r 124 (vc_R_stationsOf_124 r hf (cx Ph M_R_stationsOf h0 hf r)) := (qs_iinc d_R_stationsOf_124 (by decide) (by decide) (qs_goto (tgt := 17) d_R_stationsOf_127 (by decide) (fun _ _ _ h9 => h9)))
def vc_R_stationsOf_112 (r : Option Value) (hf : hc_H) (J : Nat → hc_K) (lv : hc_L) (st : List Value) (h : hc_H) : Prop := (qi_zast (qi_iload 4 (qi_push (nI 1) (qi_isub (qi_iload 3 (qi_iand (qi_istore 4 (J 55)))))))) lv st h
theorem sn_R_stationsOf_112 {Ph : Nat → State → Prop} {h0 hf : hc_H} {r : Option Value} : qk Ph M_R_stationsOf h0 hf r 112 (vc_R_stationsOf_112 r hf (cx Ph M_R_stationsOf h0 hf r)) := (qs_bastore d_R_stationsOf_112 (qs_iload d_R_stationsOf_113 (qs_iconst d_R_stationsOf_115 (by decide) (qs_isub d_R_stationsOf_116 (qs_iload_n d_R_stationsOf_117 rfl (qs_iand d_R_stationsOf_118 (qs_istore d_R_stationsOf_119 (by decide) (qs_goto (tgt := 55) d_R_stationsOf_121 (by decide) (fun _ _ _ h9 => h9)))))))))
def vc_R_stationsOf_111 (r : Option Value) (hf : hc_H) (J : Nat → hc_K) (lv : hc_L) (st : List Value) (h : hc_H) : Prop := (qi_push (nI 0) (vc_R_stationsOf_112 r hf J)) lv st h
theorem sn_R_stationsOf_111 {Ph : Nat → State → Prop} {h0 hf : hc_H} {r : Option Value} : qk Ph M_R_stationsOf h0 hf r 111 (vc_R_stationsOf_111 r hf (cx Ph M_R_stationsOf h0 hf r)) := (qs_iconst d_R_stationsOf_111 (by decide) sn_R_stationsOf_112)
def vc_R_stationsOf_55 (r : Option Value) (hf : hc_H) (J : Nat → hc_K) (lv : hc_L) (st : List Value) (h : hc_H) : Prop := (qi_iload 4 (qi_if_le (vc_R_stationsOf_124 r hf J) (qi_aload 0 (qi_get 6 11 (qi_iload 2 (qi_iald 1 (qi_if_ne (vc_R_stationsOf_124 r hf J) (qi_aload 0 (qi_get 6 9 (qi_iload 2 (qi_iald 0 (qi_push (nI 100) (qi_icmp_ge (vc_R_stationsOf_124 r hf J) (qi_aload 0 (qi_get 6 11 (qi_iload 2 (qi_aload 0 (qi_get 6 11 (qi_iload 2 (qi_iload 4 (qi_ior (qi_iald 1 (qi_if_eq (vc_R_stationsOf_111 r hf J) (qi_aload 0 (qi_iload 2 (qi_iload 4 (qi_invV hc_tt M_R_isBest 2 6 (qi_if_eq (vc_R_stationsOf_111 r hf J) (qi_push (nI 1) (vc_R_stationsOf_112 r hf J)))))))))))))))))))))))))))))) lv st h
theorem sn_R_stationsOf_55 {Ph : Nat → State → Prop} {h0 hf : hc_H} {r : Option Value} : qk Ph M_R_stationsOf h0 hf r 55 (vc_R_stationsOf_55 r hf (cx Ph M_R_stationsOf h0 hf r)) := (qs_iload d_R_stationsOf_55 (qs_if_le (tgt := 124) d_R_stationsOf_57 (by decide) sn_R_stationsOf_124 (qs_aload_n d_R_stationsOf_60 rfl (qs_get d_R_stationsOf_61 ff_R_35 (qs_iload_n d_R_stationsOf_64 rfl (qs_baload d_R_stationsOf_65 (qs_if_ne (tgt := 124) d_R_stationsOf_66 (by decide) sn_R_stationsOf_124 (qs_aload_n d_R_stationsOf_69 rfl (qs_get d_R_stationsOf_70 ff_R_29 (qs_iload_n d_R_stationsOf_73 rfl (qs_iaload d_R_stationsOf_74 (qs_bipush d_R_stationsOf_75 (by decide) (qs_icmp_ge (tgt := 124) d_R_stationsOf_77 (by decide) sn_R_stationsOf_124 (qs_aload_n d_R_stationsOf_80 rfl (qs_get d_R_stationsOf_81 ff_R_35 (qs_iload_n d_R_stationsOf_84 rfl (qs_aload_n d_R_stationsOf_85 rfl (qs_get d_R_stationsOf_86 ff_R_35 (qs_iload_n d_R_stationsOf_89 rfl (qs_iload d_R_stationsOf_90 (qs_ior d_R_stationsOf_92 (qs_baload d_R_stationsOf_93 (qs_if_eq (tgt := 111) d_R_stationsOf_94 (by decide) sn_R_stationsOf_111 (qs_aload_n d_R_stationsOf_97 rfl (qs_iload_n d_R_stationsOf_98 rfl (qs_iload d_R_stationsOf_99 (qs_invV hc_Ph_tt (fun _ _ _ => trivial) d_R_stationsOf_101 zz_R_isBest wk_1100 ⟨wk_1102, wk_48⟩ ⟨_, rfl, rfl⟩ ⟨by decide, by decide⟩ (qs_if_eq (tgt := 111) d_R_stationsOf_104 (by decide) sn_R_stationsOf_111 (qs_iconst d_R_stationsOf_107 (by decide) (qs_goto (tgt := 112) d_R_stationsOf_108 (by decide) sn_R_stationsOf_112))))))))))))))))))))))))))))))
def vc_R_stationsOf_51 (r : Option Value) (hf : hc_H) (J : Nat → hc_K) (lv : hc_L) (st : List Value) (h : hc_H) : Prop := (qi_zast (qi_iload 3 (qi_istore 4 (J 55)))) lv st h
theorem sn_R_stationsOf_51 {Ph : Nat → State → Prop} {h0 hf : hc_H} {r : Option Value} : qk Ph M_R_stationsOf h0 hf r 51 (vc_R_stationsOf_51 r hf (cx Ph M_R_stationsOf h0 hf r)) := (qs_bastore d_R_stationsOf_51 (qs_iload_n d_R_stationsOf_52 rfl (qs_istore d_R_stationsOf_53 (by decide) (fun _ _ _ h9 => h9))))
def vc_R_stationsOf_50 (r : Option Value) (hf : hc_H) (J : Nat → hc_K) (lv : hc_L) (st : List Value) (h : hc_H) : Prop := (qi_push (nI 0) (vc_R_stationsOf_51 r hf J)) lv st h
theorem sn_R_stationsOf_50 {Ph : Nat → State → Prop} {h0 hf : hc_H} {r : Option Value} : qk Ph M_R_stationsOf h0 hf r 50 (vc_R_stationsOf_50 r hf (cx Ph M_R_stationsOf h0 hf r)) := (qs_iconst d_R_stationsOf_50 (by decide) sn_R_stationsOf_51)
def vc_R_stationsOf_17 (r : Option Value) (hf : hc_H) (J : Nat → hc_K) (lv : hc_L) (st : List Value) (h : hc_H) : Prop := (qi_iload 2 (qi_if_lt (vc_R_stationsOf_130 r hf J) (qi_aload 0 (qi_invV hc_tt M_R_all 0 6 (qi_iload 2 (qi_push (-1) (qi_ixor (qi_iand (qi_istore 3 (qi_aload 0 (qi_get 6 11 (qi_iload 2 (qi_push (nI 0) (qi_zast (qi_aload 0 (qi_get 6 12 (qi_iload 2 (qi_iload 2 (qi_if_ne (vc_R_stationsOf_50 r hf J) (qi_push (nI 1) (vc_R_stationsOf_51 r hf J))))))))))))))))))))) lv st h
theorem sn_R_stationsOf_17 {Ph : Nat → State → Prop} {h0 hf : hc_H} {r : Option Value} : qk Ph M_R_stationsOf h0 hf r 17 (vc_R_stationsOf_17 r hf (cx Ph M_R_stationsOf h0 hf r)) := (qs_iload_n d_R_stationsOf_17 rfl (qs_if_lt (tgt := 130) d_R_stationsOf_18 (by decide) sn_R_stationsOf_130 (qs_aload_n d_R_stationsOf_21 rfl (qs_invV hc_Ph_tt (fun _ _ _ => trivial) d_R_stationsOf_22 zz_R_all wk_1058 ⟨wk_1060, wk_43⟩ ⟨_, rfl, rfl⟩ ⟨by decide, by decide⟩ (qs_iload_n d_R_stationsOf_25 rfl (qs_iconst d_R_stationsOf_26 (by decide) (qs_ixor d_R_stationsOf_27 (qs_iand d_R_stationsOf_28 (qs_istore_n d_R_stationsOf_29 rfl (by decide) (qs_aload_n d_R_stationsOf_30 rfl (qs_get d_R_stationsOf_31 ff_R_35 (qs_iload_n d_R_stationsOf_34 rfl (qs_iconst d_R_stationsOf_35 (by decide) (qs_bastore d_R_stationsOf_36 (qs_aload_n d_R_stationsOf_37 rfl (qs_get d_R_stationsOf_38 ff_R_38 (qs_iload_n d_R_stationsOf_41 rfl (qs_iload_n d_R_stationsOf_42 rfl (qs_if_ne (tgt := 50) d_R_stationsOf_43 (by decide) sn_R_stationsOf_50 (qs_iconst d_R_stationsOf_46 (by decide) (qs_goto (tgt := 51) d_R_stationsOf_47 (by decide) sn_R_stationsOf_51)))))))))))))))))))))
def vc_R_stationsOf_0 (r : Option Value) (hf : hc_H) (J : Nat → hc_K) (lv : hc_L) (st : List Value) (h : hc_H) : Prop := (qi_aload 0 (qi_get 6 11 (qi_aload 0 (qi_invV hc_tt M_R_all 0 6 (qi_push (nI 1) (qi_zast (qi_aload 0 (qi_invV hc_tt M_R_all 0 6 (qi_push (nI 1) (qi_isub (qi_istore 2 (J 17)))))))))))) lv st h
theorem sn_R_stationsOf_0 {Ph : Nat → State → Prop} {h0 hf : hc_H} {r : Option Value} : qk Ph M_R_stationsOf h0 hf r 0 (vc_R_stationsOf_0 r hf (cx Ph M_R_stationsOf h0 hf r)) := (qs_aload_n d_R_stationsOf_0 rfl (qs_get d_R_stationsOf_1 ff_R_35 (qs_aload_n d_R_stationsOf_4 rfl (qs_invV hc_Ph_tt (fun _ _ _ => trivial) d_R_stationsOf_5 zz_R_all wk_1058 ⟨wk_1060, wk_43⟩ ⟨_, rfl, rfl⟩ ⟨by decide, by decide⟩ (qs_iconst d_R_stationsOf_8 (by decide) (qs_bastore d_R_stationsOf_9 (qs_aload_n d_R_stationsOf_10 rfl (qs_invV hc_Ph_tt (fun _ _ _ => trivial) d_R_stationsOf_11 zz_R_all wk_1058 ⟨wk_1060, wk_43⟩ ⟨_, rfl, rfl⟩ ⟨by decide, by decide⟩ (qs_iconst d_R_stationsOf_14 (by decide) (qs_isub d_R_stationsOf_15 (qs_istore_n d_R_stationsOf_16 rfl (by decide) (fun _ _ _ h9 => h9))))))))))))
theorem zz_R_stationsOf : hc_z M_R_stationsOf 1 := ⟨wk_1099, wk_66, by decide +kernel⟩
/-! BalancedLineModel.fixAll()V -/
abbrev M_R_fixAll : hc_M := (⟨"BalancedLineModel", "fixAll", "()V"⟩, prog_8_method_51_code, 4, none, 3, 72)
theorem d_R_fixAll_0 : decode (mC M_R_fixAll) 0 = .ok (.aload_n 0, 1) := by decide +kernel
theorem d_R_fixAll_1 : decode (mC M_R_fixAll) 1 = .ok (.iconst 0, 1) := by decide +kernel
theorem d_R_fixAll_2 : decode (mC M_R_fixAll) 2 = .ok (.putfield 169, 3) := by decide +kernel
theorem d_R_fixAll_5 : decode (mC M_R_fixAll) 5 = .ok (.iconst 0, 1) := by decide +kernel
theorem d_R_fixAll_6 : decode (mC M_R_fixAll) 6 = .ok (.istore_n 1, 1) := by decide +kernel
theorem d_R_fixAll_7 : decode (mC M_R_fixAll) 7 = .ok (.iload_n 1, 1) := by decide +kernel
theorem d_R_fixAll_8 : decode (mC M_R_fixAll) 8 = .ok (.aload_n 0, 1) := by decide +kernel
theorem d_R_fixAll_9 : decode (mC M_R_fixAll) 9 = .ok (.getfield 13, 3) := by decide +kernel
theorem d_R_fixAll_12 : decode (mC M_R_fixAll) 12 = .ok (.iconst 0, 1) := by decide +kernel
theorem d_R_fixAll_13 : decode (mC M_R_fixAll) 13 = .ok (.iaload, 1) := by decide +kernel
theorem d_R_fixAll_14 : decode (mC M_R_fixAll) 14 = .ok (.if_icmp .ge 50, 3) := by decide +kernel
theorem d_R_fixAll_17 : decode (mC M_R_fixAll) 17 = .ok (.aload_n 0, 1) := by decide +kernel
theorem d_R_fixAll_18 : decode (mC M_R_fixAll) 18 = .ok (.iload_n 1, 1) := by decide +kernel
theorem d_R_fixAll_19 : decode (mC M_R_fixAll) 19 = .ok (.invokevirtual 175, 3) := by decide +kernel
theorem d_R_fixAll_22 : decode (mC M_R_fixAll) 22 = .ok (.istore_n 2, 1) := by decide +kernel
theorem d_R_fixAll_23 : decode (mC M_R_fixAll) 23 = .ok (.iconst 1, 1) := by decide +kernel
theorem d_R_fixAll_24 : decode (mC M_R_fixAll) 24 = .ok (.istore_n 3, 1) := by decide +kernel
theorem d_R_fixAll_25 : decode (mC M_R_fixAll) 25 = .ok (.iload_n 2, 1) := by decide +kernel
theorem d_R_fixAll_26 : decode (mC M_R_fixAll) 26 = .ok (.iload_n 3, 1) := by decide +kernel
theorem d_R_fixAll_27 : decode (mC M_R_fixAll) 27 = .ok (.invokestatic 48, 3) := by decide +kernel
theorem d_R_fixAll_30 : decode (mC M_R_fixAll) 30 = .ok (.ifCond .ne 9, 3) := by decide +kernel
theorem d_R_fixAll_33 : decode (mC M_R_fixAll) 33 = .ok (.iinc 3 1, 3) := by decide +kernel
theorem d_R_fixAll_36 : decode (mC M_R_fixAll) 36 = .ok (.goto (-11), 3) := by decide +kernel
theorem d_R_fixAll_39 : decode (mC M_R_fixAll) 39 = .ok (.aload_n 0, 1) := by decide +kernel
theorem d_R_fixAll_40 : decode (mC M_R_fixAll) 40 = .ok (.getfield 41, 3) := by decide +kernel
theorem d_R_fixAll_43 : decode (mC M_R_fixAll) 43 = .ok (.iload_n 1, 1) := by decide +kernel
theorem d_R_fixAll_44 : decode (mC M_R_fixAll) 44 = .ok (.iload_n 3, 1) := by decide +kernel
theorem d_R_fixAll_45 : decode (mC M_R_fixAll) 45 = .ok (.iastore, 1) := by decide +kernel
theorem d_R_fixAll_46 : decode (mC M_R_fixAll) 46 = .ok (.aload_n 0, 1) := by decide +kernel
theorem d_R_fixAll_47 : decode (mC M_R_fixAll) 47 = .ok (.dup, 1) := by decide +kernel
theorem d_R_fixAll_48 : decode (mC M_R_fixAll) 48 = .ok (.getfield 169, 3) := by decide +kernel
theorem d_R_fixAll_51 : decode (mC M_R_fixAll) 51 = .ok (.iconst 1, 1) := by decide +kernel
theorem d_R_fixAll_52 : decode (mC M_R_fixAll) 52 = .ok (.iload_n 1, 1) := by decide +kernel
theorem d_R_fixAll_53 : decode (mC M_R_fixAll) 53 = .ok (.ishl, 1) := by decide +kernel
theorem d_R_fixAll_54 : decode (mC M_R_fixAll) 54 = .ok (.ior, 1) := by decide +kernel
theorem d_R_fixAll_55 : decode (mC M_R_fixAll) 55 = .ok (.putfield 169, 3) := by decide +kernel
theorem d_R_fixAll_58 : decode (mC M_R_fixAll) 58 = .ok (.iinc 1 1, 3) := by decide +kernel
theorem d_R_fixAll_61 : decode (mC M_R_fixAll) 61 = .ok (.goto (-54), 3) := by decide +kernel
theorem d_R_fixAll_64 : decode (mC M_R_fixAll) 64 = .ok (.return_, 1) := by decide +kernel
def vc_R_fixAll_64 (r : Option Value) (hf : hc_H) (J : Nat → hc_K) (lv : hc_L) (st : List Value) (h : hc_H) : Prop := (qi_vret r hf) lv st h
theorem sn_R_fixAll_64 {Ph : Nat → State → Prop} {h0 hf : hc_H} {r : Option Value} : qk Ph M_R_fixAll h0 hf r 64 (vc_R_fixAll_64 r hf (cx Ph M_R_fixAll h0 hf r)) := (qs_vret d_R_fixAll_64 rfl)
def vc_R_fixAll_39 (r : Option Value) (hf : hc_H) (J : Nat → hc_K) (lv : hc_L) (st : List Value) (h : hc_H) : Prop := (qi_aload 0 (qi_get 6 13 (qi_iload 1 (qi_iload 3 (qi_iast (qi_aload 0 (qi_dup (qi_get 6 14 (qi_push (nI 1) (qi_iload 1 (qi_ishl (qi_ior (qi_put 6 14 .int (qi_iinc 1 (nI 1) (J 7))))))))))))))) lv st h
theorem sn_R_fixAll_39 {Ph : Nat → State → Prop} {h0 hf : hc_H} {r : Option Value} : qk Ph M_R_fixAll h0 hf r 39 (vc_R_fixAll_39 r hf (cx Ph M_R_fixAll h0 hf r)) := (qs_aload_n d_R_fixAll_39 rfl (qs_get d_R_fixAll_40 ff_R_41 (qs_iload_n d_R_fixAll_43 rfl (qs_iload_n d_R_fixAll_44 rfl (qs_iastore d_R_fixAll_45 (qs_aload_n d_R_fixAll_46 rfl (qs_dup d_R_fixAll_47 (qs_get d_R_fixAll_48 ff_R_169 (qs_iconst d_R_fixAll_51 (by decide) (qs_iload_n d_R_fixAll_52 rfl (qs_ishl d_R_fixAll_53 (qs_ior d_R_fixAll_54 (qs_put d_R_fixAll_55 ff_R_169 ⟨_, _, _, rfl, rfl, by decide +kernel⟩ (qs_iinc d_R_fixAll_58 (by decide) (by decide) (qs_goto (tgt := 7) d_R_fixAll_61 (by decide) (fun _ _ _ h9 => h9))))))))))))))))
def vc_R_fixAll_25 (r : Option Value) (hf : hc_H) (J : Nat → hc_K) (lv : hc_L) (st : List Value) (h : hc_H) : Prop := (qi_iload 2 (qi_iload 3 (qi_invS hc_tt M_R_has 2 (qi_if_ne (vc_R_fixAll_39 r hf J) (qi_iinc 3 (nI 1) (J 25)))))) lv st h
theorem sn_R_fixAll_25 {Ph : Nat → State → Prop} {h0 hf : hc_H} {r : Option Value} : qk Ph M_R_fixAll h0 hf r 25 (vc_R_fixAll_25 r hf (cx Ph M_R_fixAll h0 hf r)) := (qs_iload_n d_R_fixAll_25 rfl (qs_iload_n d_R_fixAll_26 rfl (qs_invS hc_Ph_tt (fun _ _ _ => trivial) d_R_fixAll_27 zz_R_has wk_932 wk_933 ⟨by decide, by decide⟩ (qs_if_ne (tgt := 39) d_R_fixAll_30 (by decide) sn_R_fixAll_39 (qs_iinc d_R_fixAll_33 (by decide) (by decide) (qs_goto (tgt := 25) d_R_fixAll_36 (by decide) (fun _ _ _ h9 => h9)))))))
def vc_R_fixAll_7 (r : Option Value) (hf : hc_H) (J : Nat → hc_K) (lv : hc_L) (st : List Value) (h : hc_H) : Prop := (qi_iload 1 (qi_aload 0 (qi_get 6 2 (qi_push (nI 0) (qi_iald 0 (qi_icmp_ge (vc_R_fixAll_64 r hf J) (qi_aload 0 (qi_iload 1 (qi_invV hc_tt M_R_stationsOf 1 6 (qi_istore 2 (qi_push (nI 1) (qi_istore 3 (J 25))))))))))))) lv st h
theorem sn_R_fixAll_7 {Ph : Nat → State → Prop} {h0 hf : hc_H} {r : Option Value} : qk Ph M_R_fixAll h0 hf r 7 (vc_R_fixAll_7 r hf (cx Ph M_R_fixAll h0 hf r)) := (qs_iload_n d_R_fixAll_7 rfl (qs_aload_n d_R_fixAll_8 rfl (qs_get d_R_fixAll_9 ff_R_13 (qs_iconst d_R_fixAll_12 (by decide) (qs_iaload d_R_fixAll_13 (qs_icmp_ge (tgt := 64) d_R_fixAll_14 (by decide) sn_R_fixAll_64 (qs_aload_n d_R_fixAll_17 rfl (qs_iload_n d_R_fixAll_18 rfl (qs_invV hc_Ph_tt (fun _ _ _ => trivial) d_R_fixAll_19 zz_R_stationsOf wk_1096 ⟨wk_1098, wk_47⟩ ⟨_, rfl, rfl⟩ ⟨by decide, by decide⟩ (qs_istore_n d_R_fixAll_22 rfl (by decide) (qs_iconst d_R_fixAll_23 (by decide) (qs_istore_n d_R_fixAll_24 rfl (by decide) (fun _ _ _ h9 => h9)))))))))))))
def vc_R_fixAll_0 (r : Option Value) (hf : hc_H) (J : Nat → hc_K) (lv : hc_L) (st : List Value) (h : hc_H) : Prop := (qi_aload 0 (qi_push (nI 0) (qi_put 6 14 .int (qi_push (nI 0) (qi_istore 1 (J 7)))))) lv st h
theorem sn_R_fixAll_0 {Ph : Nat → State → Prop} {h0 hf : hc_H} {r : Option Value} : qk Ph M_R_fixAll h0 hf r 0 (vc_R_fixAll_0 r hf (cx Ph M_R_fixAll h0 hf r)) := (qs_aload_n d_R_fixAll_0 rfl (qs_iconst d_R_fixAll_1 (by decide) (qs_put d_R_fixAll_2 ff_R_169 ⟨_, _, _, rfl, rfl, by decide +kernel⟩ (qs_iconst d_R_fixAll_5 (by decide) (qs_istore_n d_R_fixAll_6 rfl (by decide) (fun _ _ _ h9 => h9))))))
theorem zz_R_fixAll : hc_z M_R_fixAll 0 := ⟨wk_1095, wk_66, by decide +kernel⟩
/-! BalancedLineModel.best(I)I -/
abbrev M_R_best : hc_M := (⟨"BalancedLineModel", "best", "(I)I"⟩, prog_8_method_52_code, 2, (some .int), 7, 158)
theorem d_R_best_0 : decode (mC M_R_best) 0 = .ok (.aload_n 0, 1) := by decide +kernel
theorem d_R_best_1 : decode (mC M_R_best) 1 = .ok (.iload_n 1, 1) := by decide +kernel
theorem d_R_best_2 : decode (mC M_R_best) 2 = .ok (.invokevirtual 98, 3) := by decide +kernel
theorem d_R_best_5 : decode (mC M_R_best) 5 = .ok (.ifCond .ne 5, 3) := by decide +kernel
theorem d_R_best_8 : decode (mC M_R_best) 8 = .ok (.iconst (-1), 1) := by decide +kernel
theorem d_R_best_9 : decode (mC M_R_best) 9 = .ok (.ireturn, 1) := by decide +kernel
theorem d_R_best_10 : decode (mC M_R_best) 10 = .ok (.aload_n 0, 1) := by decide +kernel
theorem d_R_best_11 : decode (mC M_R_best) 11 = .ok (.invokevirtual 165, 3) := by decide +kernel
theorem d_R_best_14 : decode (mC M_R_best) 14 = .ok (.bipush (-4), 2) := by decide +kernel
theorem d_R_best_16 : decode (mC M_R_best) 16 = .ok (.if_icmp .ne 6, 3) := by decide +kernel
theorem d_R_best_19 : decode (mC M_R_best) 19 = .ok (.bipush (-4), 2) := by decide +kernel
theorem d_R_best_21 : decode (mC M_R_best) 21 = .ok (.ireturn, 1) := by decide +kernel
theorem d_R_best_22 : decode (mC M_R_best) 22 = .ok (.aload_n 0, 1) := by decide +kernel
theorem d_R_best_23 : decode (mC M_R_best) 23 = .ok (.invokevirtual 178, 3) := by decide +kernel
theorem d_R_best_26 : decode (mC M_R_best) 26 = .ok (.aload_n 0, 1) := by decide +kernel
theorem d_R_best_27 : decode (mC M_R_best) 27 = .ok (.getfield 41, 3) := by decide +kernel
theorem d_R_best_30 : decode (mC M_R_best) 30 = .ok (.iload_n 1, 1) := by decide +kernel
theorem d_R_best_31 : decode (mC M_R_best) 31 = .ok (.iaload, 1) := by decide +kernel
theorem d_R_best_32 : decode (mC M_R_best) 32 = .ok (.ireturn, 1) := by decide +kernel
def vc_R_best_22 (r : Option Value) (hf : hc_H) (J : Nat → hc_K) (lv : hc_L) (st : List Value) (h : hc_H) : Prop := (qi_aload 0 (qi_invV hc_tt M_R_fixAll 0 6 (qi_aload 0 (qi_get 6 13 (qi_iload 1 (qi_iald 0 (qi_iret r hf))))))) lv st h
theorem sn_R_best_22 {Ph : Nat → State → Prop} {h0 hf : hc_H} {r : Option Value} : qk Ph M_R_best h0 hf r 22 (vc_R_best_22 r hf (cx Ph M_R_best h0 hf r)) := (qs_aload_n d_R_best_22 rfl (qs_invV hc_Ph_tt (fun _ _ _ => trivial) d_R_best_23 zz_R_fixAll wk_1092 ⟨wk_1094, wk_46⟩ ⟨_, rfl, rfl⟩ ⟨by decide, by decide⟩ (qs_aload_n d_R_best_26 rfl (qs_get d_R_best_27 ff_R_41 (qs_iload_n d_R_best_30 rfl (qs_iaload d_R_best_31 (qs_iret d_R_best_32 rfl)))))))
def vc_R_best_10 (r : Option Value) (hf : hc_H) (J : Nat → hc_K) (lv : hc_L) (st : List Value) (h : hc_H) : Prop := (qi_aload 0 (qi_invV hc_tt M_R_fewest 0 6 (qi_push (-4) (qi_icmp_ne (vc_R_best_22 r hf J) (qi_push (-4) (qi_iret r hf)))))) lv st h
theorem sn_R_best_10 {Ph : Nat → State → Prop} {h0 hf : hc_H} {r : Option Value} : qk Ph M_R_best h0 hf r 10 (vc_R_best_10 r hf (cx Ph M_R_best h0 hf r)) := (qs_aload_n d_R_best_10 rfl (qs_invV hc_Ph_tt (fun _ _ _ => trivial) d_R_best_11 zz_R_fewest wk_1078 ⟨wk_1043, wk_1044⟩ ⟨_, rfl, rfl⟩ ⟨by decide, by decide⟩ (qs_bipush d_R_best_14 (by decide) (qs_icmp_ne (tgt := 22) d_R_best_16 (by decide) sn_R_best_22 (qs_bipush d_R_best_19 (by decide) (qs_iret d_R_best_21 rfl))))))
def vc_R_best_0 (r : Option Value) (hf : hc_H) (J : Nat → hc_K) (lv : hc_L) (st : List Value) (h : hc_H) : Prop := (qi_aload 0 (qi_iload 1 (qi_invV hc_tt M_R_isTask 1 6 (qi_if_ne (vc_R_best_10 r hf J) (qi_push (-1) (qi_iret r hf)))))) lv st h
theorem sn_R_best_0 {Ph : Nat → State → Prop} {h0 hf : hc_H} {r : Option Value} : qk Ph M_R_best h0 hf r 0 (vc_R_best_0 r hf (cx Ph M_R_best h0 hf r)) := (qs_aload_n d_R_best_0 rfl (qs_iload_n d_R_best_1 rfl (qs_invV hc_Ph_tt (fun _ _ _ => trivial) d_R_best_2 zz_R_isTask wk_988 ⟨wk_990, wk_36⟩ ⟨_, rfl, rfl⟩ ⟨by decide, by decide⟩ (qs_if_ne (tgt := 10) d_R_best_5 (by decide) sn_R_best_10 (qs_iconst d_R_best_8 (by decide) (qs_iret d_R_best_9 rfl))))))
/-! BalancedLineModel.may(I)I -/
abbrev M_R_may : hc_M := (⟨"BalancedLineModel", "may", "(I)I"⟩, prog_8_method_53_code, 2, (some .int), 7, 158)
theorem d_R_may_0 : decode (mC M_R_may) 0 = .ok (.aload_n 0, 1) := by decide +kernel
theorem d_R_may_1 : decode (mC M_R_may) 1 = .ok (.iload_n 1, 1) := by decide +kernel
theorem d_R_may_2 : decode (mC M_R_may) 2 = .ok (.invokevirtual 98, 3) := by decide +kernel
theorem d_R_may_5 : decode (mC M_R_may) 5 = .ok (.ifCond .ne 5, 3) := by decide +kernel
theorem d_R_may_8 : decode (mC M_R_may) 8 = .ok (.iconst (-1), 1) := by decide +kernel
theorem d_R_may_9 : decode (mC M_R_may) 9 = .ok (.ireturn, 1) := by decide +kernel
theorem d_R_may_10 : decode (mC M_R_may) 10 = .ok (.aload_n 0, 1) := by decide +kernel
theorem d_R_may_11 : decode (mC M_R_may) 11 = .ok (.invokevirtual 165, 3) := by decide +kernel
theorem d_R_may_14 : decode (mC M_R_may) 14 = .ok (.bipush (-4), 2) := by decide +kernel
theorem d_R_may_16 : decode (mC M_R_may) 16 = .ok (.if_icmp .ne 6, 3) := by decide +kernel
theorem d_R_may_19 : decode (mC M_R_may) 19 = .ok (.bipush (-4), 2) := by decide +kernel
theorem d_R_may_21 : decode (mC M_R_may) 21 = .ok (.ireturn, 1) := by decide +kernel
theorem d_R_may_22 : decode (mC M_R_may) 22 = .ok (.aload_n 0, 1) := by decide +kernel
theorem d_R_may_23 : decode (mC M_R_may) 23 = .ok (.iconst 0, 1) := by decide +kernel
theorem d_R_may_24 : decode (mC M_R_may) 24 = .ok (.putfield 169, 3) := by decide +kernel
theorem d_R_may_27 : decode (mC M_R_may) 27 = .ok (.aload_n 0, 1) := by decide +kernel
theorem d_R_may_28 : decode (mC M_R_may) 28 = .ok (.iload_n 1, 1) := by decide +kernel
theorem d_R_may_29 : decode (mC M_R_may) 29 = .ok (.invokevirtual 175, 3) := by decide +kernel
theorem d_R_may_32 : decode (mC M_R_may) 32 = .ok (.ireturn, 1) := by decide +kernel
def vc_R_may_22 (r : Option Value) (hf : hc_H) (J : Nat → hc_K) (lv : hc_L) (st : List Value) (h : hc_H) : Prop := (qi_aload 0 (qi_push (nI 0) (qi_put 6 14 .int (qi_aload 0 (qi_iload 1 (qi_invV hc_tt M_R_stationsOf 1 6 (qi_iret r hf))))))) lv st h
theorem sn_R_may_22 {Ph : Nat → State → Prop} {h0 hf : hc_H} {r : Option Value} : qk Ph M_R_may h0 hf r 22 (vc_R_may_22 r hf (cx Ph M_R_may h0 hf r)) := (qs_aload_n d_R_may_22 rfl (qs_iconst d_R_may_23 (by decide) (qs_put d_R_may_24 ff_R_169 ⟨_, _, _, rfl, rfl, by decide +kernel⟩ (qs_aload_n d_R_may_27 rfl (qs_iload_n d_R_may_28 rfl (qs_invV hc_Ph_tt (fun _ _ _ => trivial) d_R_may_29 zz_R_stationsOf wk_1096 ⟨wk_1098, wk_47⟩ ⟨_, rfl, rfl⟩ ⟨by decide, by decide⟩ (qs_iret d_R_may_32 rfl)))))))
def vc_R_may_10 (r : Option Value) (hf : hc_H) (J : Nat → hc_K) (lv : hc_L) (st : List Value) (h : hc_H) : Prop := (qi_aload 0 (qi_invV hc_tt M_R_fewest 0 6 (qi_push (-4) (qi_icmp_ne (vc_R_may_22 r hf J) (qi_push (-4) (qi_iret r hf)))))) lv st h
theorem sn_R_may_10 {Ph : Nat → State → Prop} {h0 hf : hc_H} {r : Option Value} : qk Ph M_R_may h0 hf r 10 (vc_R_may_10 r hf (cx Ph M_R_may h0 hf r)) := (qs_aload_n d_R_may_10 rfl (qs_invV hc_Ph_tt (fun _ _ _ => trivial) d_R_may_11 zz_R_fewest wk_1078 ⟨wk_1043, wk_1044⟩ ⟨_, rfl, rfl⟩ ⟨by decide, by decide⟩ (qs_bipush d_R_may_14 (by decide) (qs_icmp_ne (tgt := 22) d_R_may_16 (by decide) sn_R_may_22 (qs_bipush d_R_may_19 (by decide) (qs_iret d_R_may_21 rfl))))))
def vc_R_may_0 (r : Option Value) (hf : hc_H) (J : Nat → hc_K) (lv : hc_L) (st : List Value) (h : hc_H) : Prop := (qi_aload 0 (qi_iload 1 (qi_invV hc_tt M_R_isTask 1 6 (qi_if_ne (vc_R_may_10 r hf J) (qi_push (-1) (qi_iret r hf)))))) lv st h
theorem sn_R_may_0 {Ph : Nat → State → Prop} {h0 hf : hc_H} {r : Option Value} : qk Ph M_R_may h0 hf r 0 (vc_R_may_0 r hf (cx Ph M_R_may h0 hf r)) := (qs_aload_n d_R_may_0 rfl (qs_iload_n d_R_may_1 rfl (qs_invV hc_Ph_tt (fun _ _ _ => trivial) d_R_may_2 zz_R_isTask wk_988 ⟨wk_990, wk_36⟩ ⟨_, rfl, rfl⟩ ⟨by decide, by decide⟩ (qs_if_ne (tgt := 10) d_R_may_5 (by decide) sn_R_may_10 (qs_iconst d_R_may_8 (by decide) (qs_iret d_R_may_9 rfl))))))
/-! BalancedLineModel.adopt()I -/
abbrev M_R_adopt : hc_M := (⟨"BalancedLineModel", "adopt", "()I"⟩, prog_8_method_54_code, 3, (some .int), 7, 158)
theorem d_R_adopt_0 : decode (mC M_R_adopt) 0 = .ok (.aload_n 0, 1) := by decide +kernel
theorem d_R_adopt_1 : decode (mC M_R_adopt) 1 = .ok (.invokevirtual 165, 3) := by decide +kernel
theorem d_R_adopt_4 : decode (mC M_R_adopt) 4 = .ok (.istore_n 1, 1) := by decide +kernel
theorem d_R_adopt_5 : decode (mC M_R_adopt) 5 = .ok (.iload_n 1, 1) := by decide +kernel
theorem d_R_adopt_6 : decode (mC M_R_adopt) 6 = .ok (.bipush (-4), 2) := by decide +kernel
theorem d_R_adopt_8 : decode (mC M_R_adopt) 8 = .ok (.if_icmp .ne 6, 3) := by decide +kernel
theorem d_R_adopt_11 : decode (mC M_R_adopt) 11 = .ok (.bipush (-4), 2) := by decide +kernel
theorem d_R_adopt_13 : decode (mC M_R_adopt) 13 = .ok (.ireturn, 1) := by decide +kernel
theorem d_R_adopt_14 : decode (mC M_R_adopt) 14 = .ok (.aload_n 0, 1) := by decide +kernel
theorem d_R_adopt_15 : decode (mC M_R_adopt) 15 = .ok (.invokevirtual 178, 3) := by decide +kernel
theorem d_R_adopt_18 : decode (mC M_R_adopt) 18 = .ok (.aload_n 0, 1) := by decide +kernel
theorem d_R_adopt_19 : decode (mC M_R_adopt) 19 = .ok (.invokevirtual 105, 3) := by decide +kernel
theorem d_R_adopt_22 : decode (mC M_R_adopt) 22 = .ok (.iconst 0, 1) := by decide +kernel
theorem d_R_adopt_23 : decode (mC M_R_adopt) 23 = .ok (.istore_n 2, 1) := by decide +kernel
theorem d_R_adopt_24 : decode (mC M_R_adopt) 24 = .ok (.iload_n 2, 1) := by decide +kernel
theorem d_R_adopt_25 : decode (mC M_R_adopt) 25 = .ok (.aload_n 0, 1) := by decide +kernel
theorem d_R_adopt_26 : decode (mC M_R_adopt) 26 = .ok (.getfield 13, 3) := by decide +kernel
theorem d_R_adopt_29 : decode (mC M_R_adopt) 29 = .ok (.iconst 0, 1) := by decide +kernel
theorem d_R_adopt_30 : decode (mC M_R_adopt) 30 = .ok (.iaload, 1) := by decide +kernel
theorem d_R_adopt_31 : decode (mC M_R_adopt) 31 = .ok (.if_icmp .ge 24, 3) := by decide +kernel
theorem d_R_adopt_34 : decode (mC M_R_adopt) 34 = .ok (.aload_n 0, 1) := by decide +kernel
theorem d_R_adopt_35 : decode (mC M_R_adopt) 35 = .ok (.getfield 13, 3) := by decide +kernel
theorem d_R_adopt_38 : decode (mC M_R_adopt) 38 = .ok (.bipush 50, 2) := by decide +kernel
theorem d_R_adopt_40 : decode (mC M_R_adopt) 40 = .ok (.iload_n 2, 1) := by decide +kernel
theorem d_R_adopt_41 : decode (mC M_R_adopt) 41 = .ok (.iadd, 1) := by decide +kernel
theorem d_R_adopt_42 : decode (mC M_R_adopt) 42 = .ok (.aload_n 0, 1) := by decide +kernel
theorem d_R_adopt_43 : decode (mC M_R_adopt) 43 = .ok (.getfield 41, 3) := by decide +kernel
theorem d_R_adopt_46 : decode (mC M_R_adopt) 46 = .ok (.iload_n 2, 1) := by decide +kernel
theorem d_R_adopt_47 : decode (mC M_R_adopt) 47 = .ok (.iaload, 1) := by decide +kernel
theorem d_R_adopt_48 : decode (mC M_R_adopt) 48 = .ok (.iastore, 1) := by decide +kernel
theorem d_R_adopt_49 : decode (mC M_R_adopt) 49 = .ok (.iinc 2 1, 3) := by decide +kernel
theorem d_R_adopt_52 : decode (mC M_R_adopt) 52 = .ok (.goto (-28), 3) := by decide +kernel
theorem d_R_adopt_55 : decode (mC M_R_adopt) 55 = .ok (.iload_n 1, 1) := by decide +kernel
theorem d_R_adopt_56 : decode (mC M_R_adopt) 56 = .ok (.ireturn, 1) := by decide +kernel
def vc_R_adopt_55 (r : Option Value) (hf : hc_H) (J : Nat → hc_K) (lv : hc_L) (st : List Value) (h : hc_H) : Prop := (qi_iload 1 (qi_iret r hf)) lv st h
theorem sn_R_adopt_55 {Ph : Nat → State → Prop} {h0 hf : hc_H} {r : Option Value} : qk Ph M_R_adopt h0 hf r 55 (vc_R_adopt_55 r hf (cx Ph M_R_adopt h0 hf r)) := (qs_iload_n d_R_adopt_55 rfl (qs_iret d_R_adopt_56 rfl))
def vc_R_adopt_24 (r : Option Value) (hf : hc_H) (J : Nat → hc_K) (lv : hc_L) (st : List Value) (h : hc_H) : Prop := (qi_iload 2 (qi_aload 0 (qi_get 6 2 (qi_push (nI 0) (qi_iald 0 (qi_icmp_ge (vc_R_adopt_55 r hf J) (qi_aload 0 (qi_get 6 2 (qi_push (nI 50) (qi_iload 2 (qi_iadd (qi_aload 0 (qi_get 6 13 (qi_iload 2 (qi_iald 0 (qi_iast (qi_iinc 2 (nI 1) (J 24)))))))))))))))))) lv st h
theorem sn_R_adopt_24 {Ph : Nat → State → Prop} {h0 hf : hc_H} {r : Option Value} : qk Ph M_R_adopt h0 hf r 24 (vc_R_adopt_24 r hf (cx Ph M_R_adopt h0 hf r)) := (qs_iload_n d_R_adopt_24 rfl (qs_aload_n d_R_adopt_25 rfl (qs_get d_R_adopt_26 ff_R_13 (qs_iconst d_R_adopt_29 (by decide) (qs_iaload d_R_adopt_30 (qs_icmp_ge (tgt := 55) d_R_adopt_31 (by decide) sn_R_adopt_55 (qs_aload_n d_R_adopt_34 rfl (qs_get d_R_adopt_35 ff_R_13 (qs_bipush d_R_adopt_38 (by decide) (qs_iload_n d_R_adopt_40 rfl (qs_iadd d_R_adopt_41 (qs_aload_n d_R_adopt_42 rfl (qs_get d_R_adopt_43 ff_R_41 (qs_iload_n d_R_adopt_46 rfl (qs_iaload d_R_adopt_47 (qs_iastore d_R_adopt_48 (qs_iinc d_R_adopt_49 (by decide) (by decide) (qs_goto (tgt := 24) d_R_adopt_52 (by decide) (fun _ _ _ h9 => h9)))))))))))))))))))
def vc_R_adopt_14 (r : Option Value) (hf : hc_H) (J : Nat → hc_K) (lv : hc_L) (st : List Value) (h : hc_H) : Prop := (qi_aload 0 (qi_invV hc_tt M_R_fixAll 0 6 (qi_aload 0 (qi_invV hc_tt M_R_note 0 6 (qi_push (nI 0) (qi_istore 2 (J 24))))))) lv st h
theorem sn_R_adopt_14 {Ph : Nat → State → Prop} {h0 hf : hc_H} {r : Option Value} : qk Ph M_R_adopt h0 hf r 14 (vc_R_adopt_14 r hf (cx Ph M_R_adopt h0 hf r)) := (qs_aload_n d_R_adopt_14 rfl (qs_invV hc_Ph_tt (fun _ _ _ => trivial) d_R_adopt_15 zz_R_fixAll wk_1092 ⟨wk_1094, wk_46⟩ ⟨_, rfl, rfl⟩ ⟨by decide, by decide⟩ (qs_aload_n d_R_adopt_18 rfl (qs_invV hc_Ph_tt (fun _ _ _ => trivial) d_R_adopt_19 zz_R_note wk_956 ⟨wk_958, wk_29⟩ ⟨_, rfl, rfl⟩ ⟨by decide, by decide⟩ (qs_iconst d_R_adopt_22 (by decide) (qs_istore_n d_R_adopt_23 rfl (by decide) (fun _ _ _ h9 => h9)))))))
def vc_R_adopt_0 (r : Option Value) (hf : hc_H) (J : Nat → hc_K) (lv : hc_L) (st : List Value) (h : hc_H) : Prop := (qi_aload 0 (qi_invV hc_tt M_R_fewest 0 6 (qi_istore 1 (qi_iload 1 (qi_push (-4) (qi_icmp_ne (vc_R_adopt_14 r hf J) (qi_push (-4) (qi_iret r hf)))))))) lv st h
theorem sn_R_adopt_0 {Ph : Nat → State → Prop} {h0 hf : hc_H} {r : Option Value} : qk Ph M_R_adopt h0 hf r 0 (vc_R_adopt_0 r hf (cx Ph M_R_adopt h0 hf r)) := (qs_aload_n d_R_adopt_0 rfl (qs_invV hc_Ph_tt (fun _ _ _ => trivial) d_R_adopt_1 zz_R_fewest wk_1078 ⟨wk_1043, wk_1044⟩ ⟨_, rfl, rfl⟩ ⟨by decide, by decide⟩ (qs_istore_n d_R_adopt_4 rfl (by decide) (qs_iload_n d_R_adopt_5 rfl (qs_bipush d_R_adopt_6 (by decide) (qs_icmp_ne (tgt := 14) d_R_adopt_8 (by decide) sn_R_adopt_14 (qs_bipush d_R_adopt_11 (by decide) (qs_iret d_R_adopt_13 rfl))))))))
/-! BalancedLineModel.left()I -/
abbrev M_R_left : hc_M := (⟨"BalancedLineModel", "left", "()I"⟩, prog_8_method_55_code, 8, (some .int), 4, 91)
theorem d_R_left_0 : decode (mC M_R_left) 0 = .ok (.aload_n 0, 1) := by decide +kernel
theorem d_R_left_1 : decode (mC M_R_left) 1 = .ok (.aload_n 0, 1) := by decide +kernel
theorem d_R_left_2 : decode (mC M_R_left) 2 = .ok (.getfield 13, 3) := by decide +kernel
theorem d_R_left_5 : decode (mC M_R_left) 5 = .ok (.iconst 1, 1) := by decide +kernel
theorem d_R_left_6 : decode (mC M_R_left) 6 = .ok (.iaload, 1) := by decide +kernel
theorem d_R_left_7 : decode (mC M_R_left) 7 = .ok (.invokevirtual 152, 3) := by decide +kernel
theorem d_R_left_10 : decode (mC M_R_left) 10 = .ok (.aload_n 0, 1) := by decide +kernel
theorem d_R_left_11 : decode (mC M_R_left) 11 = .ok (.iconst 0, 1) := by decide +kernel
theorem d_R_left_12 : decode (mC M_R_left) 12 = .ok (.iconst 1, 1) := by decide +kernel
theorem d_R_left_13 : decode (mC M_R_left) 13 = .ok (.invokevirtual 135, 3) := by decide +kernel
theorem d_R_left_16 : decode (mC M_R_left) 16 = .ok (.istore_n 1, 1) := by decide +kernel
theorem d_R_left_17 : decode (mC M_R_left) 17 = .ok (.iconst 0, 1) := by decide +kernel
theorem d_R_left_18 : decode (mC M_R_left) 18 = .ok (.istore_n 2, 1) := by decide +kernel
theorem d_R_left_19 : decode (mC M_R_left) 19 = .ok (.iload_n 2, 1) := by decide +kernel
theorem d_R_left_20 : decode (mC M_R_left) 20 = .ok (.aload_n 0, 1) := by decide +kernel
theorem d_R_left_21 : decode (mC M_R_left) 21 = .ok (.invokevirtual 146, 3) := by decide +kernel
theorem d_R_left_24 : decode (mC M_R_left) 24 = .ok (.if_icmp .gt 24, 3) := by decide +kernel
theorem d_R_left_27 : decode (mC M_R_left) 27 = .ok (.aload_n 0, 1) := by decide +kernel
theorem d_R_left_28 : decode (mC M_R_left) 28 = .ok (.getfield 38, 3) := by decide +kernel
theorem d_R_left_31 : decode (mC M_R_left) 31 = .ok (.iload_n 2, 1) := by decide +kernel
theorem d_R_left_32 : decode (mC M_R_left) 32 = .ok (.iload_n 2, 1) := by decide +kernel
theorem d_R_left_33 : decode (mC M_R_left) 33 = .ok (.ifCond .ne 7, 3) := by decide +kernel
theorem d_R_left_36 : decode (mC M_R_left) 36 = .ok (.iconst 1, 1) := by decide +kernel
theorem d_R_left_37 : decode (mC M_R_left) 37 = .ok (.goto 4, 3) := by decide +kernel
theorem d_R_left_40 : decode (mC M_R_left) 40 = .ok (.iconst 0, 1) := by decide +kernel
theorem d_R_left_41 : decode (mC M_R_left) 41 = .ok (.bastore, 1) := by decide +kernel
theorem d_R_left_42 : decode (mC M_R_left) 42 = .ok (.iinc 2 1, 3) := by decide +kernel
theorem d_R_left_45 : decode (mC M_R_left) 45 = .ok (.goto (-26), 3) := by decide +kernel
theorem d_R_left_48 : decode (mC M_R_left) 48 = .ok (.iconst 1, 1) := by decide +kernel
theorem d_R_left_49 : decode (mC M_R_left) 49 = .ok (.istore_n 2, 1) := by decide +kernel
theorem d_R_left_50 : decode (mC M_R_left) 50 = .ok (.iload_n 2, 1) := by decide +kernel
theorem d_R_left_51 : decode (mC M_R_left) 51 = .ok (.bipush 12, 2) := by decide +kernel
theorem d_R_left_53 : decode (mC M_R_left) 53 = .ok (.if_icmp .gt 223, 3) := by decide +kernel
theorem d_R_left_56 : decode (mC M_R_left) 56 = .ok (.aload_n 0, 1) := by decide +kernel
theorem d_R_left_57 : decode (mC M_R_left) 57 = .ok (.iload_n 2, 1) := by decide +kernel
theorem d_R_left_58 : decode (mC M_R_left) 58 = .ok (.invokevirtual 138, 3) := by decide +kernel
theorem d_R_left_61 : decode (mC M_R_left) 61 = .ok (.istore_n 3, 1) := by decide +kernel
theorem d_R_left_62 : decode (mC M_R_left) 62 = .ok (.aload_n 0, 1) := by decide +kernel
theorem d_R_left_63 : decode (mC M_R_left) 63 = .ok (.invokevirtual 146, 3) := by decide +kernel
theorem d_R_left_66 : decode (mC M_R_left) 66 = .ok (.istore 4, 2) := by decide +kernel
theorem d_R_left_68 : decode (mC M_R_left) 68 = .ok (.iload 4, 2) := by decide +kernel
theorem d_R_left_70 : decode (mC M_R_left) 70 = .ok (.ifCond .lt 35, 3) := by decide +kernel
theorem d_R_left_73 : decode (mC M_R_left) 73 = .ok (.aload_n 0, 1) := by decide +kernel
theorem d_R_left_74 : decode (mC M_R_left) 74 = .ok (.getfield 35, 3) := by decide +kernel
theorem d_R_left_77 : decode (mC M_R_left) 77 = .ok (.iload 4, 2) := by decide +kernel
theorem d_R_left_79 : decode (mC M_R_left) 79 = .ok (.aload_n 0, 1) := by decide +kernel
theorem d_R_left_80 : decode (mC M_R_left) 80 = .ok (.getfield 38, 3) := by decide +kernel
theorem d_R_left_83 : decode (mC M_R_left) 83 = .ok (.iload 4, 2) := by decide +kernel
theorem d_R_left_85 : decode (mC M_R_left) 85 = .ok (.baload, 1) := by decide +kernel
theorem d_R_left_86 : decode (mC M_R_left) 86 = .ok (.ifCond .eq 11, 3) := by decide +kernel
theorem d_R_left_89 : decode (mC M_R_left) 89 = .ok (.iload_n 3, 1) := by decide +kernel
theorem d_R_left_90 : decode (mC M_R_left) 90 = .ok (.ifCond .ne 7, 3) := by decide +kernel
theorem d_R_left_93 : decode (mC M_R_left) 93 = .ok (.iconst 1, 1) := by decide +kernel
theorem d_R_left_94 : decode (mC M_R_left) 94 = .ok (.goto 4, 3) := by decide +kernel
theorem d_R_left_97 : decode (mC M_R_left) 97 = .ok (.iconst 0, 1) := by decide +kernel
theorem d_R_left_98 : decode (mC M_R_left) 98 = .ok (.bastore, 1) := by decide +kernel
theorem d_R_left_99 : decode (mC M_R_left) 99 = .ok (.iinc 4 (-1), 3) := by decide +kernel
theorem d_R_left_102 : decode (mC M_R_left) 102 = .ok (.goto (-34), 3) := by decide +kernel
theorem d_R_left_105 : decode (mC M_R_left) 105 = .ok (.iconst 0, 1) := by decide +kernel
theorem d_R_left_106 : decode (mC M_R_left) 106 = .ok (.istore 4, 2) := by decide +kernel
theorem d_R_left_108 : decode (mC M_R_left) 108 = .ok (.iload 4, 2) := by decide +kernel
theorem d_R_left_110 : decode (mC M_R_left) 110 = .ok (.aload_n 0, 1) := by decide +kernel
theorem d_R_left_111 : decode (mC M_R_left) 111 = .ok (.invokevirtual 146, 3) := by decide +kernel
theorem d_R_left_114 : decode (mC M_R_left) 114 = .ok (.if_icmp .gt 110, 3) := by decide +kernel
theorem d_R_left_117 : decode (mC M_R_left) 117 = .ok (.aload_n 0, 1) := by decide +kernel
theorem d_R_left_118 : decode (mC M_R_left) 118 = .ok (.invokevirtual 146, 3) := by decide +kernel
theorem d_R_left_121 : decode (mC M_R_left) 121 = .ok (.iload 4, 2) := by decide +kernel
theorem d_R_left_123 : decode (mC M_R_left) 123 = .ok (.iconst (-1), 1) := by decide +kernel
theorem d_R_left_124 : decode (mC M_R_left) 124 = .ok (.ixor, 1) := by decide +kernel
theorem d_R_left_125 : decode (mC M_R_left) 125 = .ok (.iand, 1) := by decide +kernel
theorem d_R_left_126 : decode (mC M_R_left) 126 = .ok (.istore 5, 2) := by decide +kernel
theorem d_R_left_128 : decode (mC M_R_left) 128 = .ok (.iload 5, 2) := by decide +kernel
theorem d_R_left_130 : decode (mC M_R_left) 130 = .ok (.istore 6, 2) := by decide +kernel
theorem d_R_left_132 : decode (mC M_R_left) 132 = .ok (.iload 6, 2) := by decide +kernel
theorem d_R_left_134 : decode (mC M_R_left) 134 = .ok (.ifCond .le 84, 3) := by decide +kernel
theorem d_R_left_137 : decode (mC M_R_left) 137 = .ok (.aload_n 0, 1) := by decide +kernel
theorem d_R_left_138 : decode (mC M_R_left) 138 = .ok (.getfield 38, 3) := by decide +kernel
theorem d_R_left_141 : decode (mC M_R_left) 141 = .ok (.iload 4, 2) := by decide +kernel
theorem d_R_left_143 : decode (mC M_R_left) 143 = .ok (.baload, 1) := by decide +kernel
theorem d_R_left_144 : decode (mC M_R_left) 144 = .ok (.ifCond .eq 74, 3) := by decide +kernel
theorem d_R_left_147 : decode (mC M_R_left) 147 = .ok (.iload 6, 2) := by decide +kernel
theorem d_R_left_149 : decode (mC M_R_left) 149 = .ok (.iload_n 1, 1) := by decide +kernel
theorem d_R_left_150 : decode (mC M_R_left) 150 = .ok (.iand, 1) := by decide +kernel
theorem d_R_left_151 : decode (mC M_R_left) 151 = .ok (.iload_n 3, 1) := by decide +kernel
theorem d_R_left_152 : decode (mC M_R_left) 152 = .ok (.if_icmp .ne 18, 3) := by decide +kernel
theorem d_R_left_155 : decode (mC M_R_left) 155 = .ok (.aload_n 0, 1) := by decide +kernel
theorem d_R_left_156 : decode (mC M_R_left) 156 = .ok (.iload 4, 2) := by decide +kernel
theorem d_R_left_158 : decode (mC M_R_left) 158 = .ok (.iload 6, 2) := by decide +kernel
theorem d_R_left_160 : decode (mC M_R_left) 160 = .ok (.invokevirtual 156, 3) := by decide +kernel
theorem d_R_left_163 : decode (mC M_R_left) 163 = .ok (.ifCond .eq 7, 3) := by decide +kernel
theorem d_R_left_166 : decode (mC M_R_left) 166 = .ok (.iconst 1, 1) := by decide +kernel
theorem d_R_left_167 : decode (mC M_R_left) 167 = .ok (.goto 4, 3) := by decide +kernel
theorem d_R_left_170 : decode (mC M_R_left) 170 = .ok (.iconst 0, 1) := by decide +kernel
theorem d_R_left_171 : decode (mC M_R_left) 171 = .ok (.istore 7, 2) := by decide +kernel
theorem d_R_left_173 : decode (mC M_R_left) 173 = .ok (.aload_n 0, 1) := by decide +kernel
theorem d_R_left_174 : decode (mC M_R_left) 174 = .ok (.getfield 35, 3) := by decide +kernel
theorem d_R_left_177 : decode (mC M_R_left) 177 = .ok (.iload 4, 2) := by decide +kernel
theorem d_R_left_179 : decode (mC M_R_left) 179 = .ok (.iload 6, 2) := by decide +kernel
theorem d_R_left_181 : decode (mC M_R_left) 181 = .ok (.ior, 1) := by decide +kernel
theorem d_R_left_182 : decode (mC M_R_left) 182 = .ok (.aload_n 0, 1) := by decide +kernel
theorem d_R_left_183 : decode (mC M_R_left) 183 = .ok (.getfield 35, 3) := by decide +kernel
theorem d_R_left_186 : decode (mC M_R_left) 186 = .ok (.iload 4, 2) := by decide +kernel
theorem d_R_left_188 : decode (mC M_R_left) 188 = .ok (.iload 6, 2) := by decide +kernel
theorem d_R_left_190 : decode (mC M_R_left) 190 = .ok (.ior, 1) := by decide +kernel
theorem d_R_left_191 : decode (mC M_R_left) 191 = .ok (.baload, 1) := by decide +kernel
theorem d_R_left_192 : decode (mC M_R_left) 192 = .ok (.ifCond .ne 8, 3) := by decide +kernel
theorem d_R_left_195 : decode (mC M_R_left) 195 = .ok (.iload 7, 2) := by decide +kernel
theorem d_R_left_197 : decode (mC M_R_left) 197 = .ok (.ifCond .eq 7, 3) := by decide +kernel
theorem d_R_left_200 : decode (mC M_R_left) 200 = .ok (.iconst 1, 1) := by decide +kernel
theorem d_R_left_201 : decode (mC M_R_left) 201 = .ok (.goto 4, 3) := by decide +kernel
theorem d_R_left_204 : decode (mC M_R_left) 204 = .ok (.iconst 0, 1) := by decide +kernel
theorem d_R_left_205 : decode (mC M_R_left) 205 = .ok (.bastore, 1) := by decide +kernel
theorem d_R_left_206 : decode (mC M_R_left) 206 = .ok (.iload 6, 2) := by decide +kernel
theorem d_R_left_208 : decode (mC M_R_left) 208 = .ok (.iconst 1, 1) := by decide +kernel
theorem d_R_left_209 : decode (mC M_R_left) 209 = .ok (.isub, 1) := by decide +kernel
theorem d_R_left_210 : decode (mC M_R_left) 210 = .ok (.iload 5, 2) := by decide +kernel
theorem d_R_left_212 : decode (mC M_R_left) 212 = .ok (.iand, 1) := by decide +kernel
theorem d_R_left_213 : decode (mC M_R_left) 213 = .ok (.istore 6, 2) := by decide +kernel
theorem d_R_left_215 : decode (mC M_R_left) 215 = .ok (.goto (-83), 3) := by decide +kernel
theorem d_R_left_218 : decode (mC M_R_left) 218 = .ok (.iinc 4 1, 3) := by decide +kernel
theorem d_R_left_221 : decode (mC M_R_left) 221 = .ok (.goto (-113), 3) := by decide +kernel
theorem d_R_left_224 : decode (mC M_R_left) 224 = .ok (.iconst 0, 1) := by decide +kernel
theorem d_R_left_225 : decode (mC M_R_left) 225 = .ok (.istore 4, 2) := by decide +kernel
theorem d_R_left_227 : decode (mC M_R_left) 227 = .ok (.iload 4, 2) := by decide +kernel
theorem d_R_left_229 : decode (mC M_R_left) 229 = .ok (.aload_n 0, 1) := by decide +kernel
theorem d_R_left_230 : decode (mC M_R_left) 230 = .ok (.invokevirtual 146, 3) := by decide +kernel
theorem d_R_left_233 : decode (mC M_R_left) 233 = .ok (.if_icmp .gt 23, 3) := by decide +kernel
theorem d_R_left_236 : decode (mC M_R_left) 236 = .ok (.aload_n 0, 1) := by decide +kernel
theorem d_R_left_237 : decode (mC M_R_left) 237 = .ok (.getfield 38, 3) := by decide +kernel
theorem d_R_left_240 : decode (mC M_R_left) 240 = .ok (.iload 4, 2) := by decide +kernel
theorem d_R_left_242 : decode (mC M_R_left) 242 = .ok (.aload_n 0, 1) := by decide +kernel
theorem d_R_left_243 : decode (mC M_R_left) 243 = .ok (.getfield 35, 3) := by decide +kernel
theorem d_R_left_246 : decode (mC M_R_left) 246 = .ok (.iload 4, 2) := by decide +kernel
theorem d_R_left_248 : decode (mC M_R_left) 248 = .ok (.baload, 1) := by decide +kernel
theorem d_R_left_249 : decode (mC M_R_left) 249 = .ok (.bastore, 1) := by decide +kernel
theorem d_R_left_250 : decode (mC M_R_left) 250 = .ok (.iinc 4 1, 3) := by decide +kernel
theorem d_R_left_253 : decode (mC M_R_left) 253 = .ok (.goto (-26), 3) := by decide +kernel
theorem d_R_left_256 : decode (mC M_R_left) 256 = .ok (.aload_n 0, 1) := by decide +kernel
theorem d_R_left_257 : decode (mC M_R_left) 257 = .ok (.getfield 38, 3) := by decide +kernel
theorem d_R_left_260 : decode (mC M_R_left) 260 = .ok (.aload_n 0, 1) := by decide +kernel
theorem d_R_left_261 : decode (mC M_R_left) 261 = .ok (.invokevirtual 146, 3) := by decide +kernel
theorem d_R_left_264 : decode (mC M_R_left) 264 = .ok (.baload, 1) := by decide +kernel
theorem d_R_left_265 : decode (mC M_R_left) 265 = .ok (.ifCond .eq 5, 3) := by decide +kernel
theorem d_R_left_268 : decode (mC M_R_left) 268 = .ok (.iload_n 2, 1) := by decide +kernel
theorem d_R_left_269 : decode (mC M_R_left) 269 = .ok (.ireturn, 1) := by decide +kernel
theorem d_R_left_270 : decode (mC M_R_left) 270 = .ok (.iinc 2 1, 3) := by decide +kernel
theorem d_R_left_273 : decode (mC M_R_left) 273 = .ok (.goto (-223), 3) := by decide +kernel
theorem d_R_left_276 : decode (mC M_R_left) 276 = .ok (.bipush (-4), 2) := by decide +kernel
theorem d_R_left_278 : decode (mC M_R_left) 278 = .ok (.ireturn, 1) := by decide +kernel
def vc_R_left_276 (r : Option Value) (hf : hc_H) (J : Nat → hc_K) (lv : hc_L) (st : List Value) (h : hc_H) : Prop := (qi_push (-4) (qi_iret r hf)) lv st h
theorem sn_R_left_276 {Ph : Nat → State → Prop} {h0 hf : hc_H} {r : Option Value} : qk Ph M_R_left h0 hf r 276 (vc_R_left_276 r hf (cx Ph M_R_left h0 hf r)) := (qs_bipush d_R_left_276 (by decide) (qs_iret d_R_left_278 rfl))
def vc_R_left_270 (r : Option Value) (hf : hc_H) (J : Nat → hc_K) (lv : hc_L) (st : List Value) (h : hc_H) : Prop := (qi_iinc 2 (nI 1) (J 50)) lv st h
theorem sn_R_left_270 {Ph : Nat → State → Prop} {h0 hf : hc_H} {r : Option Value} : qk Ph M_R_left h0 hf r 270 (vc_R_left_270 r hf (cx Ph M_R_left h0 hf r)) := (qs_iinc d_R_left_270 (by decide) (by decide) (qs_goto (tgt := 50) d_R_left_273 (by decide) (fun _ _ _ h9 => h9)))
def vc_R_left_256 (r : Option Value) (hf : hc_H) (J : Nat → hc_K) (lv : hc_L) (st : List Value) (h : hc_H) : Prop := (qi_aload 0 (qi_get 6 12 (qi_aload 0 (qi_invV hc_tt M_R_all 0 6 (qi_iald 1 (qi_if_eq (vc_R_left_270 r hf J) (qi_iload 2 (qi_iret r hf)))))))) lv st h
theorem sn_R_left_256 {Ph : Nat → State → Prop} {h0 hf : hc_H} {r : Option Value} : qk Ph M_R_left h0 hf r 256 (vc_R_left_256 r hf (cx Ph M_R_left h0 hf r)) := (qs_aload_n d_R_left_256 rfl (qs_get d_R_left_257 ff_R_38 (qs_aload_n d_R_left_260 rfl (qs_invV hc_Ph_tt (fun _ _ _ => trivial) d_R_left_261 zz_R_all wk_1058 ⟨wk_1060, wk_43⟩ ⟨_, rfl, rfl⟩ ⟨by decide, by decide⟩ (qs_baload d_R_left_264 (qs_if_eq (tgt := 270) d_R_left_265 (by decide) sn_R_left_270 (qs_iload_n d_R_left_268 rfl (qs_iret d_R_left_269 rfl))))))))
def vc_R_left_227 (r : Option Value) (hf : hc_H) (J : Nat → hc_K) (lv : hc_L) (st : List Value) (h : hc_H) : Prop := (qi_iload 4 (qi_aload 0 (qi_invV hc_tt M_R_all 0 6 (qi_icmp_gt (vc_R_left_256 r hf J) (qi_aload 0 (qi_get 6 12 (qi_iload 4 (qi_aload 0 (qi_get 6 11 (qi_iload 4 (qi_iald 1 (qi_zast (qi_iinc 4 (nI 1) (J 227)))))))))))))) lv st h
theorem sn_R_left_227 {Ph : Nat → State → Prop} {h0 hf : hc_H} {r : Option Value} : qk Ph M_R_left h0 hf r 227 (vc_R_left_227 r hf (cx Ph M_R_left h0 hf r)) := (qs_iload d_R_left_227 (qs_aload_n d_R_left_229 rfl (qs_invV hc_Ph_tt (fun _ _ _ => trivial) d_R_left_230 zz_R_all wk_1058 ⟨wk_1060, wk_43⟩ ⟨_, rfl, rfl⟩ ⟨by decide, by decide⟩ (qs_icmp_gt (tgt := 256) d_R_left_233 (by decide) sn_R_left_256 (qs_aload_n d_R_left_236 rfl (qs_get d_R_left_237 ff_R_38 (qs_iload d_R_left_240 (qs_aload_n d_R_left_242 rfl (qs_get d_R_left_243 ff_R_35 (qs_iload d_R_left_246 (qs_baload d_R_left_248 (qs_bastore d_R_left_249 (qs_iinc d_R_left_250 (by decide) (by decide) (qs_goto (tgt := 227) d_R_left_253 (by decide) (fun _ _ _ h9 => h9)))))))))))))))
def vc_R_left_224 (r : Option Value) (hf : hc_H) (J : Nat → hc_K) (lv : hc_L) (st : List Value) (h : hc_H) : Prop := (qi_push (nI 0) (qi_istore 4 (J 227))) lv st h
theorem sn_R_left_224 {Ph : Nat → State → Prop} {h0 hf : hc_H} {r : Option Value} : qk Ph M_R_left h0 hf r 224 (vc_R_left_224 r hf (cx Ph M_R_left h0 hf r)) := (qs_iconst d_R_left_224 (by decide) (qs_istore d_R_left_225 (by decide) (fun _ _ _ h9 => h9)))
def vc_R_left_218 (r : Option Value) (hf : hc_H) (J : Nat → hc_K) (lv : hc_L) (st : List Value) (h : hc_H) : Prop := (qi_iinc 4 (nI 1) (J 108)) lv st h
theorem sn_R_left_218 {Ph : Nat → State → Prop} {h0 hf : hc_H} {r : Option Value} : qk Ph M_R_left h0 hf r 218 (vc_R_left_218 r hf (cx Ph M_R_left h0 hf r)) := (qs_iinc d_R_left_218 (by decide) (by decide) (qs_goto (tgt := 108) d_R_left_221 (by decide) (fun _ _ _ h9 => h9)))
def vc_R_left_205 (r : Option Value) (hf : hc_H) (J : Nat → hc_K) (lv : hc_L) (st : List Value) (h : hc_H) : Prop := (qi_zast (qi_iload 6 (qi_push (nI 1) (qi_isub (qi_iload 5 (qi_iand (qi_istore 6 (J 132)))))))) lv st h
theorem sn_R_left_205 {Ph : Nat → State → Prop} {h0 hf : hc_H} {r : Option Value} : qk Ph M_R_left h0 hf r 205 (vc_R_left_205 r hf (cx Ph M_R_left h0 hf r)) := (qs_bastore d_R_left_205 (qs_iload d_R_left_206 (qs_iconst d_R_left_208 (by decide) (qs_isub d_R_left_209 (qs_iload d_R_left_210 (qs_iand d_R_left_212 (qs_istore d_R_left_213 (by decide) (qs_goto (tgt := 132) d_R_left_215 (by decide) (fun _ _ _ h9 => h9)))))))))
def vc_R_left_204 (r : Option Value) (hf : hc_H) (J : Nat → hc_K) (lv : hc_L) (st : List Value) (h : hc_H) : Prop := (qi_push (nI 0) (vc_R_left_205 r hf J)) lv st h
theorem sn_R_left_204 {Ph : Nat → State → Prop} {h0 hf : hc_H} {r : Option Value} : qk Ph M_R_left h0 hf r 204 (vc_R_left_204 r hf (cx Ph M_R_left h0 hf r)) := (qs_iconst d_R_left_204 (by decide) sn_R_left_205)
def vc_R_left_200 (r : Option Value) (hf : hc_H) (J : Nat → hc_K) (lv : hc_L) (st : List Value) (h : hc_H) : Prop := (qi_push (nI 1) (vc_R_left_205 r hf J)) lv st h
theorem sn_R_left_200 {Ph : Nat → State → Prop} {h0 hf : hc_H} {r : Option Value} : qk Ph M_R_left h0 hf r 200 (vc_R_left_200 r hf (cx Ph M_R_left h0 hf r)) := (qs_iconst d_R_left_200 (by decide) (qs_goto (tgt := 205) d_R_left_201 (by decide) sn_R_left_205))
def vc_R_left_171 (r : Option Value) (hf : hc_H) (J : Nat → hc_K) (lv : hc_L) (st : List Value) (h : hc_H) : Prop := (qi_istore 7 (qi_aload 0 (qi_get 6 11 (qi_iload 4 (qi_iload 6 (qi_ior (qi_aload 0 (qi_get 6 11 (qi_iload 4 (qi_iload 6 (qi_ior (qi_iald 1 (qi_if_ne (vc_R_left_200 r hf J) (qi_iload 7 (qi_if_eq (vc_R_left_204 r hf J) (vc_R_left_200 r hf J)))))))))))))))) lv st h
theorem sn_R_left_171 {Ph : Nat → State → Prop} {h0 hf : hc_H} {r : Option Value} : qk Ph M_R_left h0 hf r 171 (vc_R_left_171 r hf (cx Ph M_R_left h0 hf r)) := (qs_istore d_R_left_171 (by decide) (qs_aload_n d_R_left_173 rfl (qs_get d_R_left_174 ff_R_35 (qs_iload d_R_left_177 (qs_iload d_R_left_179 (qs_ior d_R_left_181 (qs_aload_n d_R_left_182 rfl (qs_get d_R_left_183 ff_R_35 (qs_iload d_R_left_186 (qs_iload d_R_left_188 (qs_ior d_R_left_190 (qs_baload d_R_left_191 (qs_if_ne (tgt := 200) d_R_left_192 (by decide) sn_R_left_200 (qs_iload d_R_left_195 (qs_if_eq (tgt := 204) d_R_left_197 (by decide) sn_R_left_204 sn_R_left_200)))))))))))))))
def vc_R_left_170 (r : Option Value) (hf : hc_H) (J : Nat → hc_K) (lv : hc_L) (st : List Value) (h : hc_H) : Prop := (qi_push (nI 0) (vc_R_left_171 r hf J)) lv st h
theorem sn_R_left_170 {Ph : Nat → State → Prop} {h0 hf : hc_H} {r : Option Value} : qk Ph M_R_left h0 hf r 170 (vc_R_left_170 r hf (cx Ph M_R_left h0 hf r)) := (qs_iconst d_R_left_170 (by decide) sn_R_left_171)
def vc_R_left_132 (r : Option Value) (hf : hc_H) (J : Nat → hc_K) (lv : hc_L) (st : List Value) (h : hc_H) : Prop := (qi_iload 6 (qi_if_le (vc_R_left_218 r hf J) (qi_aload 0 (qi_get 6 12 (qi_iload 4 (qi_iald 1 (qi_if_eq (vc_R_left_218 r hf J) (qi_iload 6 (qi_iload 1 (qi_iand (qi_iload 3 (qi_icmp_ne (vc_R_left_170 r hf J) (qi_aload 0 (qi_iload 4 (qi_iload 6 (qi_invV hc_tt M_R_isNext 2 6 (qi_if_eq (vc_R_left_170 r hf J) (qi_push (nI 1) (vc_R_left_171 r hf J))))))))))))))))))) lv st h
theorem sn_R_left_132 {Ph : Nat → State → Prop} {h0 hf : hc_H} {r : Option Value} : qk Ph M_R_left h0 hf r 132 (vc_R_left_132 r hf (cx Ph M_R_left h0 hf r)) := (qs_iload d_R_left_132 (qs_if_le (tgt := 218) d_R_left_134 (by decide) sn_R_left_218 (qs_aload_n d_R_left_137 rfl (qs_get d_R_left_138 ff_R_38 (qs_iload d_R_left_141 (qs_baload d_R_left_143 (qs_if_eq (tgt := 218) d_R_left_144 (by decide) sn_R_left_218 (qs_iload d_R_left_147 (qs_iload_n d_R_left_149 rfl (qs_iand d_R_left_150 (qs_iload_n d_R_left_151 rfl (qs_icmp_ne (tgt := 170) d_R_left_152 (by decide) sn_R_left_170 (qs_aload_n d_R_left_155 rfl (qs_iload d_R_left_156 (qs_iload d_R_left_158 (qs_invV hc_Ph_tt (fun _ _ _ => trivial) d_R_left_160 zz_R_isNext wk_1066 ⟨wk_1068, wk_45⟩ ⟨_, rfl, rfl⟩ ⟨by decide, by decide⟩ (qs_if_eq (tgt := 170) d_R_left_163 (by decide) sn_R_left_170 (qs_iconst d_R_left_166 (by decide) (qs_goto (tgt := 171) d_R_left_167 (by decide) sn_R_left_171)))))))))))))))))))
def vc_R_left_108 (r : Option Value) (hf : hc_H) (J : Nat → hc_K) (lv : hc_L) (st : List Value) (h : hc_H) : Prop := (qi_iload 4 (qi_aload 0 (qi_invV hc_tt M_R_all 0 6 (qi_icmp_gt (vc_R_left_224 r hf J) (qi_aload 0 (qi_invV hc_tt M_R_all 0 6 (qi_iload 4 (qi_push (-1) (qi_ixor (qi_iand (qi_istore 5 (qi_iload 5 (qi_istore 6 (J 132)))))))))))))) lv st h
theorem sn_R_left_108 {Ph : Nat → State → Prop} {h0 hf : hc_H} {r : Option Value} : qk Ph M_R_left h0 hf r 108 (vc_R_left_108 r hf (cx Ph M_R_left h0 hf r)) := (qs_iload d_R_left_108 (qs_aload_n d_R_left_110 rfl (qs_invV hc_Ph_tt (fun _ _ _ => trivial) d_R_left_111 zz_R_all wk_1058 ⟨wk_1060, wk_43⟩ ⟨_, rfl, rfl⟩ ⟨by decide, by decide⟩ (qs_icmp_gt (tgt := 224) d_R_left_114 (by decide) sn_R_left_224 (qs_aload_n d_R_left_117 rfl (qs_invV hc_Ph_tt (fun _ _ _ => trivial) d_R_left_118 zz_R_all wk_1058 ⟨wk_1060, wk_43⟩ ⟨_, rfl, rfl⟩ ⟨by decide, by decide⟩ (qs_iload d_R_left_121 (qs_iconst d_R_left_123 (by decide) (qs_ixor d_R_left_124 (qs_iand d_R_left_125 (qs_istore d_R_left_126 (by decide) (qs_iload d_R_left_128 (qs_istore d_R_left_130 (by decide) (fun _ _ _ h9 => h9))))))))))))))
def vc_R_left_105 (r : Option Value) (hf : hc_H) (J : Nat → hc_K) (lv : hc_L) (st : List Value) (h : hc_H) : Prop := (qi_push (nI 0) (qi_istore 4 (J 108))) lv st h
theorem sn_R_left_105 {Ph : Nat → State → Prop} {h0 hf : hc_H} {r : Option Value} : qk Ph M_R_left h0 hf r 105 (vc_R_left_105 r hf (cx Ph M_R_left h0 hf r)) := (qs_iconst d_R_left_105 (by decide) (qs_istore d_R_left_106 (by decide) (fun _ _ _ h9 => h9)))
def vc_R_left_98 (r : Option Value) (hf : hc_H) (J : Nat → hc_K) (lv : hc_L) (st : List Value) (h : hc_H) : Prop := (qi_zast (qi_iinc 4 (-1) (J 68))) lv st h
theorem sn_R_left_98 {Ph : Nat → State → Prop} {h0 hf : hc_H} {r : Option Value} : qk Ph M_R_left h0 hf r 98 (vc_R_left_98 r hf (cx Ph M_R_left h0 hf r)) := (qs_bastore d_R_left_98 (qs_iinc d_R_left_99 (by decide) (by decide) (qs_goto (tgt := 68) d_R_left_102 (by decide) (fun _ _ _ h9 => h9))))
def vc_R_left_97 (r : Option Value) (hf : hc_H) (J : Nat → hc_K) (lv : hc_L) (st : List Value) (h : hc_H) : Prop := (qi_push (nI 0) (vc_R_left_98 r hf J)) lv st h
theorem sn_R_left_97 {Ph : Nat → State → Prop} {h0 hf : hc_H} {r : Option Value} : qk Ph M_R_left h0 hf r 97 (vc_R_left_97 r hf (cx Ph M_R_left h0 hf r)) := (qs_iconst d_R_left_97 (by decide) sn_R_left_98)
def vc_R_left_68 (r : Option Value) (hf : hc_H) (J : Nat → hc_K) (lv : hc_L) (st : List Value) (h : hc_H) : Prop := (qi_iload 4 (qi_if_lt (vc_R_left_105 r hf J) (qi_aload 0 (qi_get 6 11 (qi_iload 4 (qi_aload 0 (qi_get 6 12 (qi_iload 4 (qi_iald 1 (qi_if_eq (vc_R_left_97 r hf J) (qi_iload 3 (qi_if_ne (vc_R_left_97 r hf J) (qi_push (nI 1) (vc_R_left_98 r hf J)))))))))))))) lv st h
theorem sn_R_left_68 {Ph : Nat → State → Prop} {h0 hf : hc_H} {r : Option Value} : qk Ph M_R_left h0 hf r 68 (vc_R_left_68 r hf (cx Ph M_R_left h0 hf r)) := (qs_iload d_R_left_68 (qs_if_lt (tgt := 105) d_R_left_70 (by decide) sn_R_left_105 (qs_aload_n d_R_left_73 rfl (qs_get d_R_left_74 ff_R_35 (qs_iload d_R_left_77 (qs_aload_n d_R_left_79 rfl (qs_get d_R_left_80 ff_R_38 (qs_iload d_R_left_83 (qs_baload d_R_left_85 (qs_if_eq (tgt := 97) d_R_left_86 (by decide) sn_R_left_97 (qs_iload_n d_R_left_89 rfl (qs_if_ne (tgt := 97) d_R_left_90 (by decide) sn_R_left_97 (qs_iconst d_R_left_93 (by decide) (qs_goto (tgt := 98) d_R_left_94 (by decide) sn_R_left_98))))))))))))))
def vc_R_left_50 (r : Option Value) (hf : hc_H) (J : Nat → hc_K) (lv : hc_L) (st : List Value) (h : hc_H) : Prop := (qi_iload 2 (qi_push (nI 12) (qi_icmp_gt (vc_R_left_276 r hf J) (qi_aload 0 (qi_iload 2 (qi_invV hc_tt M_R_putIn 1 6 (qi_istore 3 (qi_aload 0 (qi_invV hc_tt M_R_all 0 6 (qi_istore 4 (J 68))))))))))) lv st h
theorem sn_R_left_50 {Ph : Nat → State → Prop} {h0 hf : hc_H} {r : Option Value} : qk Ph M_R_left h0 hf r 50 (vc_R_left_50 r hf (cx Ph M_R_left h0 hf r)) := (qs_iload_n d_R_left_50 rfl (qs_bipush d_R_left_51 (by decide) (qs_icmp_gt (tgt := 276) d_R_left_53 (by decide) sn_R_left_276 (qs_aload_n d_R_left_56 rfl (qs_iload_n d_R_left_57 rfl (qs_invV hc_Ph_tt (fun _ _ _ => trivial) d_R_left_58 zz_R_putIn wk_976 ⟨wk_978, wk_34⟩ ⟨_, rfl, rfl⟩ ⟨by decide, by decide⟩ (qs_istore_n d_R_left_61 rfl (by decide) (qs_aload_n d_R_left_62 rfl (qs_invV hc_Ph_tt (fun _ _ _ => trivial) d_R_left_63 zz_R_all wk_1058 ⟨wk_1060, wk_43⟩ ⟨_, rfl, rfl⟩ ⟨by decide, by decide⟩ (qs_istore d_R_left_66 (by decide) (fun _ _ _ h9 => h9)))))))))))
def vc_R_left_48 (r : Option Value) (hf : hc_H) (J : Nat → hc_K) (lv : hc_L) (st : List Value) (h : hc_H) : Prop := (qi_push (nI 1) (qi_istore 2 (J 50))) lv st h
theorem sn_R_left_48 {Ph : Nat → State → Prop} {h0 hf : hc_H} {r : Option Value} : qk Ph M_R_left h0 hf r 48 (vc_R_left_48 r hf (cx Ph M_R_left h0 hf r)) := (qs_iconst d_R_left_48 (by decide) (qs_istore_n d_R_left_49 rfl (by decide) (fun _ _ _ h9 => h9)))
def vc_R_left_41 (r : Option Value) (hf : hc_H) (J : Nat → hc_K) (lv : hc_L) (st : List Value) (h : hc_H) : Prop := (qi_zast (qi_iinc 2 (nI 1) (J 19))) lv st h
theorem sn_R_left_41 {Ph : Nat → State → Prop} {h0 hf : hc_H} {r : Option Value} : qk Ph M_R_left h0 hf r 41 (vc_R_left_41 r hf (cx Ph M_R_left h0 hf r)) := (qs_bastore d_R_left_41 (qs_iinc d_R_left_42 (by decide) (by decide) (qs_goto (tgt := 19) d_R_left_45 (by decide) (fun _ _ _ h9 => h9))))
def vc_R_left_40 (r : Option Value) (hf : hc_H) (J : Nat → hc_K) (lv : hc_L) (st : List Value) (h : hc_H) : Prop := (qi_push (nI 0) (vc_R_left_41 r hf J)) lv st h
theorem sn_R_left_40 {Ph : Nat → State → Prop} {h0 hf : hc_H} {r : Option Value} : qk Ph M_R_left h0 hf r 40 (vc_R_left_40 r hf (cx Ph M_R_left h0 hf r)) := (qs_iconst d_R_left_40 (by decide) sn_R_left_41)
def vc_R_left_19 (r : Option Value) (hf : hc_H) (J : Nat → hc_K) (lv : hc_L) (st : List Value) (h : hc_H) : Prop := (qi_iload 2 (qi_aload 0 (qi_invV hc_tt M_R_all 0 6 (qi_icmp_gt (vc_R_left_48 r hf J) (qi_aload 0 (qi_get 6 12 (qi_iload 2 (qi_iload 2 (qi_if_ne (vc_R_left_40 r hf J) (qi_push (nI 1) (vc_R_left_41 r hf J))))))))))) lv st h
theorem sn_R_left_19 {Ph : Nat → State → Prop} {h0 hf : hc_H} {r : Option Value} : qk Ph M_R_left h0 hf r 19 (vc_R_left_19 r hf (cx Ph M_R_left h0 hf r)) := (qs_iload_n d_R_left_19 rfl (qs_aload_n d_R_left_20 rfl (qs_invV hc_Ph_tt (fun _ _ _ => trivial) d_R_left_21 zz_R_all wk_1058 ⟨wk_1060, wk_43⟩ ⟨_, rfl, rfl⟩ ⟨by decide, by decide⟩ (qs_icmp_gt (tgt := 48) d_R_left_24 (by decide) sn_R_left_48 (qs_aload_n d_R_left_27 rfl (qs_get d_R_left_28 ff_R_38 (qs_iload_n d_R_left_31 rfl (qs_iload_n d_R_left_32 rfl (qs_if_ne (tgt := 40) d_R_left_33 (by decide) sn_R_left_40 (qs_iconst d_R_left_36 (by decide) (qs_goto (tgt := 41) d_R_left_37 (by decide) sn_R_left_41)))))))))))
def vc_R_left_0 (r : Option Value) (hf : hc_H) (J : Nat → hc_K) (lv : hc_L) (st : List Value) (h : hc_H) : Prop := (qi_aload 0 (qi_aload 0 (qi_get 6 2 (qi_push (nI 1) (qi_iald 0 (qi_invV hc_tt M_R_findGood 1 6 (qi_aload 0 (qi_push (nI 0) (qi_push (nI 1) (qi_invV hc_tt M_R_putBy 2 6 (qi_istore 1 (qi_push (nI 0) (qi_istore 2 (J 19)))))))))))))) lv st h
theorem sn_R_left_0 {Ph : Nat → State → Prop} {h0 hf : hc_H} {r : Option Value} : qk Ph M_R_left h0 hf r 0 (vc_R_left_0 r hf (cx Ph M_R_left h0 hf r)) := (qs_aload_n d_R_left_0 rfl (qs_aload_n d_R_left_1 rfl (qs_get d_R_left_2 ff_R_13 (qs_iconst d_R_left_5 (by decide) (qs_iaload d_R_left_6 (qs_invV hc_Ph_tt (fun _ _ _ => trivial) d_R_left_7 zz_R_findGood wk_1054 ⟨wk_1056, wk_42⟩ ⟨_, rfl, rfl⟩ ⟨by decide, by decide⟩ (qs_aload_n d_R_left_10 rfl (qs_iconst d_R_left_11 (by decide) (qs_iconst d_R_left_12 (by decide) (qs_invV hc_Ph_tt (fun _ _ _ => trivial) d_R_left_13 zz_R_putBy wk_968 ⟨wk_970, wk_32⟩ ⟨_, rfl, rfl⟩ ⟨by decide, by decide⟩ (qs_istore_n d_R_left_16 rfl (by decide) (qs_iconst d_R_left_17 (by decide) (qs_istore_n d_R_left_18 rfl (by decide) (fun _ _ _ h9 => h9))))))))))))))
/-! BalancedLineModel.up(II)I -/
abbrev M_R_up : hc_M := (⟨"BalancedLineModel", "up", "(II)I"⟩, prog_8_method_56_code, 2, (some .int), 0, 0)
theorem d_R_up_0 : decode (mC M_R_up) 0 = .ok (.iload_n 0, 1) := by decide +kernel
theorem d_R_up_1 : decode (mC M_R_up) 1 = .ok (.iload_n 1, 1) := by decide +kernel
theorem d_R_up_2 : decode (mC M_R_up) 2 = .ok (.iadd, 1) := by decide +kernel
theorem d_R_up_3 : decode (mC M_R_up) 3 = .ok (.iconst 1, 1) := by decide +kernel
theorem d_R_up_4 : decode (mC M_R_up) 4 = .ok (.isub, 1) := by decide +kernel
theorem d_R_up_5 : decode (mC M_R_up) 5 = .ok (.iload_n 1, 1) := by decide +kernel
theorem d_R_up_6 : decode (mC M_R_up) 6 = .ok (.idiv, 1) := by decide +kernel
theorem d_R_up_7 : decode (mC M_R_up) 7 = .ok (.ireturn, 1) := by decide +kernel
def vc_R_up_0 (r : Option Value) (hf : hc_H) (J : Nat → hc_K) (lv : hc_L) (st : List Value) (h : hc_H) : Prop := (qi_iload 0 (qi_iload 1 (qi_iadd (qi_push (nI 1) (qi_isub (qi_iload 1 (qi_idiv (qi_iret r hf)))))))) lv st h
theorem sn_R_up_0 {Ph : Nat → State → Prop} {h0 hf : hc_H} {r : Option Value} : qk Ph M_R_up h0 hf r 0 (vc_R_up_0 r hf (cx Ph M_R_up h0 hf r)) := (qs_iload_n d_R_up_0 rfl (qs_iload_n d_R_up_1 rfl (qs_iadd d_R_up_2 (qs_iconst d_R_up_3 (by decide) (qs_isub d_R_up_4 (qs_iload_n d_R_up_5 rfl (qs_idiv d_R_up_6 (qs_iret d_R_up_7 rfl))))))))
theorem zz_R_up : hc_z M_R_up 2 := ⟨wk_1122, wk_66, by decide +kernel⟩
/-! BalancedLineModel.floor(I)I -/
abbrev M_R_floor : hc_M := (⟨"BalancedLineModel", "floor", "(I)I"⟩, prog_8_method_57_code, 8, (some .int), 2, 45)
theorem d_R_floor_0 : decode (mC M_R_floor) 0 = .ok (.iload_n 1, 1) := by decide +kernel
theorem d_R_floor_1 : decode (mC M_R_floor) 1 = .ok (.i2l, 1) := by decide +kernel
theorem d_R_floor_2 : decode (mC M_R_floor) 2 = .ok (.lconst 0, 1) := by decide +kernel
theorem d_R_floor_3 : decode (mC M_R_floor) 3 = .ok (.ldc2_w 127, 3) := by decide +kernel
theorem d_R_floor_6 : decode (mC M_R_floor) 6 = .ok (.invokestatic 56, 3) := by decide +kernel
theorem d_R_floor_9 : decode (mC M_R_floor) 9 = .ok (.ifCond .ne 5, 3) := by decide +kernel
theorem d_R_floor_12 : decode (mC M_R_floor) 12 = .ok (.iconst (-1), 1) := by decide +kernel
theorem d_R_floor_13 : decode (mC M_R_floor) 13 = .ok (.ireturn, 1) := by decide +kernel
theorem d_R_floor_14 : decode (mC M_R_floor) 14 = .ok (.aload_n 0, 1) := by decide +kernel
theorem d_R_floor_15 : decode (mC M_R_floor) 15 = .ok (.getfield 13, 3) := by decide +kernel
theorem d_R_floor_18 : decode (mC M_R_floor) 18 = .ok (.iconst 1, 1) := by decide +kernel
theorem d_R_floor_19 : decode (mC M_R_floor) 19 = .ok (.iaload, 1) := by decide +kernel
theorem d_R_floor_20 : decode (mC M_R_floor) 20 = .ok (.istore_n 2, 1) := by decide +kernel
theorem d_R_floor_21 : decode (mC M_R_floor) 21 = .ok (.iconst 0, 1) := by decide +kernel
theorem d_R_floor_22 : decode (mC M_R_floor) 22 = .ok (.istore_n 3, 1) := by decide +kernel
theorem d_R_floor_23 : decode (mC M_R_floor) 23 = .ok (.iconst 0, 1) := by decide +kernel
theorem d_R_floor_24 : decode (mC M_R_floor) 24 = .ok (.istore 4, 2) := by decide +kernel
theorem d_R_floor_26 : decode (mC M_R_floor) 26 = .ok (.iconst 0, 1) := by decide +kernel
theorem d_R_floor_27 : decode (mC M_R_floor) 27 = .ok (.istore 5, 2) := by decide +kernel
theorem d_R_floor_29 : decode (mC M_R_floor) 29 = .ok (.iconst 0, 1) := by decide +kernel
theorem d_R_floor_30 : decode (mC M_R_floor) 30 = .ok (.istore 6, 2) := by decide +kernel
theorem d_R_floor_32 : decode (mC M_R_floor) 32 = .ok (.iload 6, 2) := by decide +kernel
theorem d_R_floor_34 : decode (mC M_R_floor) 34 = .ok (.aload_n 0, 1) := by decide +kernel
theorem d_R_floor_35 : decode (mC M_R_floor) 35 = .ok (.getfield 13, 3) := by decide +kernel
theorem d_R_floor_38 : decode (mC M_R_floor) 38 = .ok (.iconst 0, 1) := by decide +kernel
theorem d_R_floor_39 : decode (mC M_R_floor) 39 = .ok (.iaload, 1) := by decide +kernel
theorem d_R_floor_40 : decode (mC M_R_floor) 40 = .ok (.if_icmp .ge 97, 3) := by decide +kernel
theorem d_R_floor_43 : decode (mC M_R_floor) 43 = .ok (.iload_n 3, 1) := by decide +kernel
theorem d_R_floor_44 : decode (mC M_R_floor) 44 = .ok (.iconst 2, 1) := by decide +kernel
theorem d_R_floor_45 : decode (mC M_R_floor) 45 = .ok (.aload_n 0, 1) := by decide +kernel
theorem d_R_floor_46 : decode (mC M_R_floor) 46 = .ok (.getfield 13, 3) := by decide +kernel
theorem d_R_floor_49 : decode (mC M_R_floor) 49 = .ok (.iconst 2, 1) := by decide +kernel
theorem d_R_floor_50 : decode (mC M_R_floor) 50 = .ok (.iload 6, 2) := by decide +kernel
theorem d_R_floor_52 : decode (mC M_R_floor) 52 = .ok (.iadd, 1) := by decide +kernel
theorem d_R_floor_53 : decode (mC M_R_floor) 53 = .ok (.iaload, 1) := by decide +kernel
theorem d_R_floor_54 : decode (mC M_R_floor) 54 = .ok (.imul, 1) := by decide +kernel
theorem d_R_floor_55 : decode (mC M_R_floor) 55 = .ok (.iload_n 2, 1) := by decide +kernel
theorem d_R_floor_56 : decode (mC M_R_floor) 56 = .ok (.if_icmp .le 7, 3) := by decide +kernel
theorem d_R_floor_59 : decode (mC M_R_floor) 59 = .ok (.iconst 1, 1) := by decide +kernel
theorem d_R_floor_60 : decode (mC M_R_floor) 60 = .ok (.goto 4, 3) := by decide +kernel
theorem d_R_floor_63 : decode (mC M_R_floor) 63 = .ok (.iconst 0, 1) := by decide +kernel
theorem d_R_floor_64 : decode (mC M_R_floor) 64 = .ok (.iadd, 1) := by decide +kernel
theorem d_R_floor_65 : decode (mC M_R_floor) 65 = .ok (.istore_n 3, 1) := by decide +kernel
theorem d_R_floor_66 : decode (mC M_R_floor) 66 = .ok (.iload 4, 2) := by decide +kernel
theorem d_R_floor_68 : decode (mC M_R_floor) 68 = .ok (.iconst 2, 1) := by decide +kernel
theorem d_R_floor_69 : decode (mC M_R_floor) 69 = .ok (.aload_n 0, 1) := by decide +kernel
theorem d_R_floor_70 : decode (mC M_R_floor) 70 = .ok (.getfield 13, 3) := by decide +kernel
theorem d_R_floor_73 : decode (mC M_R_floor) 73 = .ok (.iconst 2, 1) := by decide +kernel
theorem d_R_floor_74 : decode (mC M_R_floor) 74 = .ok (.iload 6, 2) := by decide +kernel
theorem d_R_floor_76 : decode (mC M_R_floor) 76 = .ok (.iadd, 1) := by decide +kernel
theorem d_R_floor_77 : decode (mC M_R_floor) 77 = .ok (.iaload, 1) := by decide +kernel
theorem d_R_floor_78 : decode (mC M_R_floor) 78 = .ok (.imul, 1) := by decide +kernel
theorem d_R_floor_79 : decode (mC M_R_floor) 79 = .ok (.iload_n 2, 1) := by decide +kernel
theorem d_R_floor_80 : decode (mC M_R_floor) 80 = .ok (.if_icmp .ne 7, 3) := by decide +kernel
theorem d_R_floor_83 : decode (mC M_R_floor) 83 = .ok (.iconst 1, 1) := by decide +kernel
theorem d_R_floor_84 : decode (mC M_R_floor) 84 = .ok (.goto 4, 3) := by decide +kernel
theorem d_R_floor_87 : decode (mC M_R_floor) 87 = .ok (.iconst 0, 1) := by decide +kernel
theorem d_R_floor_88 : decode (mC M_R_floor) 88 = .ok (.iadd, 1) := by decide +kernel
theorem d_R_floor_89 : decode (mC M_R_floor) 89 = .ok (.istore 4, 2) := by decide +kernel
theorem d_R_floor_91 : decode (mC M_R_floor) 91 = .ok (.aload_n 0, 1) := by decide +kernel
theorem d_R_floor_92 : decode (mC M_R_floor) 92 = .ok (.aload_n 0, 1) := by decide +kernel
theorem d_R_floor_93 : decode (mC M_R_floor) 93 = .ok (.getfield 13, 3) := by decide +kernel
theorem d_R_floor_96 : decode (mC M_R_floor) 96 = .ok (.iload 6, 2) := by decide +kernel
theorem d_R_floor_98 : decode (mC M_R_floor) 98 = .ok (.invokestatic 75, 3) := by decide +kernel
theorem d_R_floor_101 : decode (mC M_R_floor) 101 = .ok (.iconst 1, 1) := by decide +kernel
theorem d_R_floor_102 : decode (mC M_R_floor) 102 = .ok (.iload 6, 2) := by decide +kernel
theorem d_R_floor_104 : decode (mC M_R_floor) 104 = .ok (.ishl, 1) := by decide +kernel
theorem d_R_floor_105 : decode (mC M_R_floor) 105 = .ok (.ior, 1) := by decide +kernel
theorem d_R_floor_106 : decode (mC M_R_floor) 106 = .ok (.invokevirtual 141, 3) := by decide +kernel
theorem d_R_floor_109 : decode (mC M_R_floor) 109 = .ok (.iload_n 2, 1) := by decide +kernel
theorem d_R_floor_110 : decode (mC M_R_floor) 110 = .ok (.invokestatic 181, 3) := by decide +kernel
theorem d_R_floor_113 : decode (mC M_R_floor) 113 = .ok (.istore 7, 2) := by decide +kernel
theorem d_R_floor_115 : decode (mC M_R_floor) 115 = .ok (.iload 7, 2) := by decide +kernel
theorem d_R_floor_117 : decode (mC M_R_floor) 117 = .ok (.iload 5, 2) := by decide +kernel
theorem d_R_floor_119 : decode (mC M_R_floor) 119 = .ok (.if_icmp .le 8, 3) := by decide +kernel
theorem d_R_floor_122 : decode (mC M_R_floor) 122 = .ok (.iload 7, 2) := by decide +kernel
theorem d_R_floor_124 : decode (mC M_R_floor) 124 = .ok (.goto 5, 3) := by decide +kernel
theorem d_R_floor_127 : decode (mC M_R_floor) 127 = .ok (.iload 5, 2) := by decide +kernel
theorem d_R_floor_129 : decode (mC M_R_floor) 129 = .ok (.istore 5, 2) := by decide +kernel
theorem d_R_floor_131 : decode (mC M_R_floor) 131 = .ok (.iinc 6 1, 3) := by decide +kernel
theorem d_R_floor_134 : decode (mC M_R_floor) 134 = .ok (.goto (-102), 3) := by decide +kernel
theorem d_R_floor_137 : decode (mC M_R_floor) 137 = .ok (.iload_n 1, 1) := by decide +kernel
theorem d_R_floor_138 : decode (mC M_R_floor) 138 = .ok (.ifCond .ne 18, 3) := by decide +kernel
theorem d_R_floor_141 : decode (mC M_R_floor) 141 = .ok (.aload_n 0, 1) := by decide +kernel
theorem d_R_floor_142 : decode (mC M_R_floor) 142 = .ok (.aload_n 0, 1) := by decide +kernel
theorem d_R_floor_143 : decode (mC M_R_floor) 143 = .ok (.invokevirtual 146, 3) := by decide +kernel
theorem d_R_floor_146 : decode (mC M_R_floor) 146 = .ok (.invokevirtual 141, 3) := by decide +kernel
theorem d_R_floor_149 : decode (mC M_R_floor) 149 = .ok (.iload_n 2, 1) := by decide +kernel
theorem d_R_floor_150 : decode (mC M_R_floor) 150 = .ok (.invokestatic 181, 3) := by decide +kernel
theorem d_R_floor_153 : decode (mC M_R_floor) 153 = .ok (.goto 21, 3) := by decide +kernel
theorem d_R_floor_156 : decode (mC M_R_floor) 156 = .ok (.iload_n 1, 1) := by decide +kernel
theorem d_R_floor_157 : decode (mC M_R_floor) 157 = .ok (.iconst 1, 1) := by decide +kernel
theorem d_R_floor_158 : decode (mC M_R_floor) 158 = .ok (.if_icmp .ne 14, 3) := by decide +kernel
theorem d_R_floor_161 : decode (mC M_R_floor) 161 = .ok (.iload_n 3, 1) := by decide +kernel
theorem d_R_floor_162 : decode (mC M_R_floor) 162 = .ok (.iload 4, 2) := by decide +kernel
theorem d_R_floor_164 : decode (mC M_R_floor) 164 = .ok (.iconst 2, 1) := by decide +kernel
theorem d_R_floor_165 : decode (mC M_R_floor) 165 = .ok (.invokestatic 181, 3) := by decide +kernel
theorem d_R_floor_168 : decode (mC M_R_floor) 168 = .ok (.iadd, 1) := by decide +kernel
theorem d_R_floor_169 : decode (mC M_R_floor) 169 = .ok (.goto 5, 3) := by decide +kernel
theorem d_R_floor_172 : decode (mC M_R_floor) 172 = .ok (.iload 5, 2) := by decide +kernel
theorem d_R_floor_174 : decode (mC M_R_floor) 174 = .ok (.ireturn, 1) := by decide +kernel
def vc_R_floor_174 (r : Option Value) (hf : hc_H) (J : Nat → hc_K) (lv : hc_L) (st : List Value) (h : hc_H) : Prop := (qi_iret r hf) lv st h
theorem sn_R_floor_174 {Ph : Nat → State → Prop} {h0 hf : hc_H} {r : Option Value} : qk Ph M_R_floor h0 hf r 174 (vc_R_floor_174 r hf (cx Ph M_R_floor h0 hf r)) := (qs_iret d_R_floor_174 rfl)
def vc_R_floor_172 (r : Option Value) (hf : hc_H) (J : Nat → hc_K) (lv : hc_L) (st : List Value) (h : hc_H) : Prop := (qi_iload 5 (vc_R_floor_174 r hf J)) lv st h
theorem sn_R_floor_172 {Ph : Nat → State → Prop} {h0 hf : hc_H} {r : Option Value} : qk Ph M_R_floor h0 hf r 172 (vc_R_floor_172 r hf (cx Ph M_R_floor h0 hf r)) := (qs_iload d_R_floor_172 sn_R_floor_174)
def vc_R_floor_156 (r : Option Value) (hf : hc_H) (J : Nat → hc_K) (lv : hc_L) (st : List Value) (h : hc_H) : Prop := (qi_iload 1 (qi_push (nI 1) (qi_icmp_ne (vc_R_floor_172 r hf J) (qi_iload 3 (qi_iload 4 (qi_push (nI 2) (qi_invS hc_tt M_R_up 2 (qi_iadd (vc_R_floor_174 r hf J))))))))) lv st h
theorem sn_R_floor_156 {Ph : Nat → State → Prop} {h0 hf : hc_H} {r : Option Value} : qk Ph M_R_floor h0 hf r 156 (vc_R_floor_156 r hf (cx Ph M_R_floor h0 hf r)) := (qs_iload_n d_R_floor_156 rfl (qs_iconst d_R_floor_157 (by decide) (qs_icmp_ne (tgt := 172) d_R_floor_158 (by decide) sn_R_floor_172 (qs_iload_n d_R_floor_161 rfl (qs_iload d_R_floor_162 (qs_iconst d_R_floor_164 (by decide) (qs_invS hc_Ph_tt (fun _ _ _ => trivial) d_R_floor_165 zz_R_up wk_1120 wk_1121 ⟨by decide, by decide⟩ (qs_iadd d_R_floor_168 (qs_goto (tgt := 174) d_R_floor_169 (by decide) sn_R_floor_174)))))))))
def vc_R_floor_137 (r : Option Value) (hf : hc_H) (J : Nat → hc_K) (lv : hc_L) (st : List Value) (h : hc_H) : Prop := (qi_iload 1 (qi_if_ne (vc_R_floor_156 r hf J) (qi_aload 0 (qi_aload 0 (qi_invV hc_tt M_R_all 0 6 (qi_invV hc_tt M_R_timesOf 1 6 (qi_iload 2 (qi_invS hc_tt M_R_up 2 (vc_R_floor_174 r hf J))))))))) lv st h
theorem sn_R_floor_137 {Ph : Nat → State → Prop} {h0 hf : hc_H} {r : Option Value} : qk Ph M_R_floor h0 hf r 137 (vc_R_floor_137 r hf (cx Ph M_R_floor h0 hf r)) := (qs_iload_n d_R_floor_137 rfl (qs_if_ne (tgt := 156) d_R_floor_138 (by decide) sn_R_floor_156 (qs_aload_n d_R_floor_141 rfl (qs_aload_n d_R_floor_142 rfl (qs_invV hc_Ph_tt (fun _ _ _ => trivial) d_R_floor_143 zz_R_all wk_1058 ⟨wk_1060, wk_43⟩ ⟨_, rfl, rfl⟩ ⟨by decide, by decide⟩ (qs_invV hc_Ph_tt (fun _ _ _ => trivial) d_R_floor_146 zz_R_timesOf wk_980 ⟨wk_982, wk_35⟩ ⟨_, rfl, rfl⟩ ⟨by decide, by decide⟩ (qs_iload_n d_R_floor_149 rfl (qs_invS hc_Ph_tt (fun _ _ _ => trivial) d_R_floor_150 zz_R_up wk_1120 wk_1121 ⟨by decide, by decide⟩ (qs_goto (tgt := 174) d_R_floor_153 (by decide) sn_R_floor_174)))))))))
def vc_R_floor_129 (r : Option Value) (hf : hc_H) (J : Nat → hc_K) (lv : hc_L) (st : List Value) (h : hc_H) : Prop := (qi_istore 5 (qi_iinc 6 (nI 1) (J 32))) lv st h
theorem sn_R_floor_129 {Ph : Nat → State → Prop} {h0 hf : hc_H} {r : Option Value} : qk Ph M_R_floor h0 hf r 129 (vc_R_floor_129 r hf (cx Ph M_R_floor h0 hf r)) := (qs_istore d_R_floor_129 (by decide) (qs_iinc d_R_floor_131 (by decide) (by decide) (qs_goto (tgt := 32) d_R_floor_134 (by decide) (fun _ _ _ h9 => h9))))
def vc_R_floor_127 (r : Option Value) (hf : hc_H) (J : Nat → hc_K) (lv : hc_L) (st : List Value) (h : hc_H) : Prop := (qi_iload 5 (vc_R_floor_129 r hf J)) lv st h
theorem sn_R_floor_127 {Ph : Nat → State → Prop} {h0 hf : hc_H} {r : Option Value} : qk Ph M_R_floor h0 hf r 127 (vc_R_floor_127 r hf (cx Ph M_R_floor h0 hf r)) := (qs_iload d_R_floor_127 sn_R_floor_129)
def vc_R_floor_88 (r : Option Value) (hf : hc_H) (J : Nat → hc_K) (lv : hc_L) (st : List Value) (h : hc_H) : Prop := (qi_iadd (qi_istore 4 (qi_aload 0 (qi_aload 0 (qi_get 6 2 (qi_iload 6 (qi_invS hc_tt M_R_allBehind 2 (qi_push (nI 1) (qi_iload 6 (qi_ishl (qi_ior (qi_invV hc_tt M_R_timesOf 1 6 (qi_iload 2 (qi_invS hc_tt M_R_up 2 (qi_istore 7 (qi_iload 7 (qi_iload 5 (qi_icmp_le (vc_R_floor_127 r hf J) (qi_iload 7 (vc_R_floor_129 r hf J)))))))))))))))))))) lv st h
theorem sn_R_floor_88 {Ph : Nat → State → Prop} {h0 hf : hc_H} {r : Option Value} : qk Ph M_R_floor h0 hf r 88 (vc_R_floor_88 r hf (cx Ph M_R_floor h0 hf r)) := (qs_iadd d_R_floor_88 (qs_istore d_R_floor_89 (by decide) (qs_aload_n d_R_floor_91 rfl (qs_aload_n d_R_floor_92 rfl (qs_get d_R_floor_93 ff_R_13 (qs_iload d_R_floor_96 (qs_invS hc_Ph_tt (fun _ _ _ => trivial) d_R_floor_98 zz_R_allBehind wk_935 wk_936 ⟨by decide, by decide⟩ (qs_iconst d_R_floor_101 (by decide) (qs_iload d_R_floor_102 (qs_ishl d_R_floor_104 (qs_ior d_R_floor_105 (qs_invV hc_Ph_tt (fun _ _ _ => trivial) d_R_floor_106 zz_R_timesOf wk_980 ⟨wk_982, wk_35⟩ ⟨_, rfl, rfl⟩ ⟨by decide, by decide⟩ (qs_iload_n d_R_floor_109 rfl (qs_invS hc_Ph_tt (fun _ _ _ => trivial) d_R_floor_110 zz_R_up wk_1120 wk_1121 ⟨by decide, by decide⟩ (qs_istore d_R_floor_113 (by decide) (qs_iload d_R_floor_115 (qs_iload d_R_floor_117 (qs_icmp_le (tgt := 127) d_R_floor_119 (by decide) sn_R_floor_127 (qs_iload d_R_floor_122 (qs_goto (tgt := 129) d_R_floor_124 (by decide) sn_R_floor_129))))))))))))))))))))
def vc_R_floor_87 (r : Option Value) (hf : hc_H) (J : Nat → hc_K) (lv : hc_L) (st : List Value) (h : hc_H) : Prop := (qi_push (nI 0) (vc_R_floor_88 r hf J)) lv st h
theorem sn_R_floor_87 {Ph : Nat → State → Prop} {h0 hf : hc_H} {r : Option Value} : qk Ph M_R_floor h0 hf r 87 (vc_R_floor_87 r hf (cx Ph M_R_floor h0 hf r)) := (qs_iconst d_R_floor_87 (by decide) sn_R_floor_88)
def vc_R_floor_64 (r : Option Value) (hf : hc_H) (J : Nat → hc_K) (lv : hc_L) (st : List Value) (h : hc_H) : Prop := (qi_iadd (qi_istore 3 (qi_iload 4 (qi_push (nI 2) (qi_aload 0 (qi_get 6 2 (qi_push (nI 2) (qi_iload 6 (qi_iadd (qi_iald 0 (qi_imul (qi_iload 2 (qi_icmp_ne (vc_R_floor_87 r hf J) (qi_push (nI 1) (vc_R_floor_88 r hf J))))))))))))))) lv st h
theorem sn_R_floor_64 {Ph : Nat → State → Prop} {h0 hf : hc_H} {r : Option Value} : qk Ph M_R_floor h0 hf r 64 (vc_R_floor_64 r hf (cx Ph M_R_floor h0 hf r)) := (qs_iadd d_R_floor_64 (qs_istore_n d_R_floor_65 rfl (by decide) (qs_iload d_R_floor_66 (qs_iconst d_R_floor_68 (by decide) (qs_aload_n d_R_floor_69 rfl (qs_get d_R_floor_70 ff_R_13 (qs_iconst d_R_floor_73 (by decide) (qs_iload d_R_floor_74 (qs_iadd d_R_floor_76 (qs_iaload d_R_floor_77 (qs_imul d_R_floor_78 (qs_iload_n d_R_floor_79 rfl (qs_icmp_ne (tgt := 87) d_R_floor_80 (by decide) sn_R_floor_87 (qs_iconst d_R_floor_83 (by decide) (qs_goto (tgt := 88) d_R_floor_84 (by decide) sn_R_floor_88)))))))))))))))
def vc_R_floor_63 (r : Option Value) (hf : hc_H) (J : Nat → hc_K) (lv : hc_L) (st : List Value) (h : hc_H) : Prop := (qi_push (nI 0) (vc_R_floor_64 r hf J)) lv st h
theorem sn_R_floor_63 {Ph : Nat → State → Prop} {h0 hf : hc_H} {r : Option Value} : qk Ph M_R_floor h0 hf r 63 (vc_R_floor_63 r hf (cx Ph M_R_floor h0 hf r)) := (qs_iconst d_R_floor_63 (by decide) sn_R_floor_64)
def vc_R_floor_32 (r : Option Value) (hf : hc_H) (J : Nat → hc_K) (lv : hc_L) (st : List Value) (h : hc_H) : Prop := (qi_iload 6 (qi_aload 0 (qi_get 6 2 (qi_push (nI 0) (qi_iald 0 (qi_icmp_ge (vc_R_floor_137 r hf J) (qi_iload 3 (qi_push (nI 2) (qi_aload 0 (qi_get 6 2 (qi_push (nI 2) (qi_iload 6 (qi_iadd (qi_iald 0 (qi_imul (qi_iload 2 (qi_icmp_le (vc_R_floor_63 r hf J) (qi_push (nI 1) (vc_R_floor_64 r hf J))))))))))))))))))) lv st h
theorem sn_R_floor_32 {Ph : Nat → State → Prop} {h0 hf : hc_H} {r : Option Value} : qk Ph M_R_floor h0 hf r 32 (vc_R_floor_32 r hf (cx Ph M_R_floor h0 hf r)) := (qs_iload d_R_floor_32 (qs_aload_n d_R_floor_34 rfl (qs_get d_R_floor_35 ff_R_13 (qs_iconst d_R_floor_38 (by decide) (qs_iaload d_R_floor_39 (qs_icmp_ge (tgt := 137) d_R_floor_40 (by decide) sn_R_floor_137 (qs_iload_n d_R_floor_43 rfl (qs_iconst d_R_floor_44 (by decide) (qs_aload_n d_R_floor_45 rfl (qs_get d_R_floor_46 ff_R_13 (qs_iconst d_R_floor_49 (by decide) (qs_iload d_R_floor_50 (qs_iadd d_R_floor_52 (qs_iaload d_R_floor_53 (qs_imul d_R_floor_54 (qs_iload_n d_R_floor_55 rfl (qs_icmp_le (tgt := 63) d_R_floor_56 (by decide) sn_R_floor_63 (qs_iconst d_R_floor_59 (by decide) (qs_goto (tgt := 64) d_R_floor_60 (by decide) sn_R_floor_64)))))))))))))))))))
def vc_R_floor_14 (r : Option Value) (hf : hc_H) (J : Nat → hc_K) (lv : hc_L) (st : List Value) (h : hc_H) : Prop := (qi_aload 0 (qi_get 6 2 (qi_push (nI 1) (qi_iald 0 (qi_istore 2 (qi_push (nI 0) (qi_istore 3 (qi_push (nI 0) (qi_istore 4 (qi_push (nI 0) (qi_istore 5 (qi_push (nI 0) (qi_istore 6 (J 32)))))))))))))) lv st h
theorem sn_R_floor_14 {Ph : Nat → State → Prop} {h0 hf : hc_H} {r : Option Value} : qk Ph M_R_floor h0 hf r 14 (vc_R_floor_14 r hf (cx Ph M_R_floor h0 hf r)) := (qs_aload_n d_R_floor_14 rfl (qs_get d_R_floor_15 ff_R_13 (qs_iconst d_R_floor_18 (by decide) (qs_iaload d_R_floor_19 (qs_istore_n d_R_floor_20 rfl (by decide) (qs_iconst d_R_floor_21 (by decide) (qs_istore_n d_R_floor_22 rfl (by decide) (qs_iconst d_R_floor_23 (by decide) (qs_istore d_R_floor_24 (by decide) (qs_iconst d_R_floor_26 (by decide) (qs_istore d_R_floor_27 (by decide) (qs_iconst d_R_floor_29 (by decide) (qs_istore d_R_floor_30 (by decide) (fun _ _ _ h9 => h9))))))))))))))
def vc_R_floor_0 (r : Option Value) (hf : hc_H) (J : Nat → hc_K) (lv : hc_L) (st : List Value) (h : hc_H) : Prop := (qi_iload 1 (qi_i2l (qi_pushl (lN 0) (qi_pushl (lN 2) (qi_invS hc_tt M_R_in 3 (qi_if_ne (vc_R_floor_14 r hf J) (qi_push (-1) (qi_iret r hf)))))))) lv st h
theorem sn_R_floor_0 {Ph : Nat → State → Prop} {h0 hf : hc_H} {r : Option Value} : qk Ph M_R_floor h0 hf r 0 (vc_R_floor_0 r hf (cx Ph M_R_floor h0 hf r)) := (qs_iload_n d_R_floor_0 rfl (qs_i2l d_R_floor_1 (qs_lconst d_R_floor_2 rfl (qs_ldc2 d_R_floor_3 (by first | exact wk_1012 | exact (show _ ∈ lw_g from wk_1012)) (qs_invS hc_Ph_tt (fun _ _ _ => trivial) d_R_floor_6 zz_R_in wk_903 wk_904 ⟨by decide, by decide⟩ (qs_if_ne (tgt := 14) d_R_floor_9 (by decide) sn_R_floor_14 (qs_iconst d_R_floor_12 (by decide) (qs_iret d_R_floor_13 rfl))))))))
/-! BalancedLineModel.isFull(I)Z -/
abbrev M_R_isFull : hc_M := (⟨"BalancedLineModel", "isFull", "(I)Z"⟩, prog_8_method_58_code, 5, (some .boolean), 1, 22)
theorem d_R_isFull_0 : decode (mC M_R_isFull) 0 = .ok (.aload_n 0, 1) := by decide +kernel
theorem d_R_isFull_1 : decode (mC M_R_isFull) 1 = .ok (.iconst 0, 1) := by decide +kernel
theorem d_R_isFull_2 : decode (mC M_R_isFull) 2 = .ok (.iload_n 1, 1) := by decide +kernel
theorem d_R_isFull_3 : decode (mC M_R_isFull) 3 = .ok (.invokevirtual 156, 3) := by decide +kernel
theorem d_R_isFull_6 : decode (mC M_R_isFull) 6 = .ok (.istore_n 2, 1) := by decide +kernel
theorem d_R_isFull_7 : decode (mC M_R_isFull) 7 = .ok (.aload_n 0, 1) := by decide +kernel
theorem d_R_isFull_8 : decode (mC M_R_isFull) 8 = .ok (.invokevirtual 146, 3) := by decide +kernel
theorem d_R_isFull_11 : decode (mC M_R_isFull) 11 = .ok (.iload_n 1, 1) := by decide +kernel
theorem d_R_isFull_12 : decode (mC M_R_isFull) 12 = .ok (.iconst (-1), 1) := by decide +kernel
theorem d_R_isFull_13 : decode (mC M_R_isFull) 13 = .ok (.ixor, 1) := by decide +kernel
theorem d_R_isFull_14 : decode (mC M_R_isFull) 14 = .ok (.iand, 1) := by decide +kernel
theorem d_R_isFull_15 : decode (mC M_R_isFull) 15 = .ok (.istore_n 3, 1) := by decide +kernel
theorem d_R_isFull_16 : decode (mC M_R_isFull) 16 = .ok (.iload_n 3, 1) := by decide +kernel
theorem d_R_isFull_17 : decode (mC M_R_isFull) 17 = .ok (.istore 4, 2) := by decide +kernel
theorem d_R_isFull_19 : decode (mC M_R_isFull) 19 = .ok (.iload 4, 2) := by decide +kernel
theorem d_R_isFull_21 : decode (mC M_R_isFull) 21 = .ok (.ifCond .le 36, 3) := by decide +kernel
theorem d_R_isFull_24 : decode (mC M_R_isFull) 24 = .ok (.iload_n 2, 1) := by decide +kernel
theorem d_R_isFull_25 : decode (mC M_R_isFull) 25 = .ok (.ifCond .eq 32, 3) := by decide +kernel
theorem d_R_isFull_28 : decode (mC M_R_isFull) 28 = .ok (.aload_n 0, 1) := by decide +kernel
theorem d_R_isFull_29 : decode (mC M_R_isFull) 29 = .ok (.iconst 0, 1) := by decide +kernel
theorem d_R_isFull_30 : decode (mC M_R_isFull) 30 = .ok (.iload_n 1, 1) := by decide +kernel
theorem d_R_isFull_31 : decode (mC M_R_isFull) 31 = .ok (.iload 4, 2) := by decide +kernel
theorem d_R_isFull_33 : decode (mC M_R_isFull) 33 = .ok (.ior, 1) := by decide +kernel
theorem d_R_isFull_34 : decode (mC M_R_isFull) 34 = .ok (.invokevirtual 156, 3) := by decide +kernel
theorem d_R_isFull_37 : decode (mC M_R_isFull) 37 = .ok (.ifCond .ne 7, 3) := by decide +kernel
theorem d_R_isFull_40 : decode (mC M_R_isFull) 40 = .ok (.iconst 1, 1) := by decide +kernel
theorem d_R_isFull_41 : decode (mC M_R_isFull) 41 = .ok (.goto 4, 3) := by decide +kernel
theorem d_R_isFull_44 : decode (mC M_R_isFull) 44 = .ok (.iconst 0, 1) := by decide +kernel
theorem d_R_isFull_45 : decode (mC M_R_isFull) 45 = .ok (.istore_n 2, 1) := by decide +kernel
theorem d_R_isFull_46 : decode (mC M_R_isFull) 46 = .ok (.iload 4, 2) := by decide +kernel
theorem d_R_isFull_48 : decode (mC M_R_isFull) 48 = .ok (.iconst 1, 1) := by decide +kernel
theorem d_R_isFull_49 : decode (mC M_R_isFull) 49 = .ok (.isub, 1) := by decide +kernel
theorem d_R_isFull_50 : decode (mC M_R_isFull) 50 = .ok (.iload_n 3, 1) := by decide +kernel
theorem d_R_isFull_51 : decode (mC M_R_isFull) 51 = .ok (.iand, 1) := by decide +kernel
theorem d_R_isFull_52 : decode (mC M_R_isFull) 52 = .ok (.istore 4, 2) := by decide +kernel
theorem d_R_isFull_54 : decode (mC M_R_isFull) 54 = .ok (.goto (-35), 3) := by decide +kernel
theorem d_R_isFull_57 : decode (mC M_R_isFull) 57 = .ok (.iload_n 2, 1) := by decide +kernel
theorem d_R_isFull_58 : decode (mC M_R_isFull) 58 = .ok (.ireturn, 1) := by decide +kernel
def vc_R_isFull_57 (r : Option Value) (hf : hc_H) (J : Nat → hc_K) (lv : hc_L) (st : List Value) (h : hc_H) : Prop := (qi_iload 2 (qi_zret r hf)) lv st h
theorem sn_R_isFull_57 {Ph : Nat → State → Prop} {h0 hf : hc_H} {r : Option Value} : qk Ph M_R_isFull h0 hf r 57 (vc_R_isFull_57 r hf (cx Ph M_R_isFull h0 hf r)) := (qs_iload_n d_R_isFull_57 rfl (qs_zret d_R_isFull_58 rfl))
def vc_R_isFull_45 (r : Option Value) (hf : hc_H) (J : Nat → hc_K) (lv : hc_L) (st : List Value) (h : hc_H) : Prop := (qi_istore 2 (qi_iload 4 (qi_push (nI 1) (qi_isub (qi_iload 3 (qi_iand (qi_istore 4 (J 19)))))))) lv st h
theorem sn_R_isFull_45 {Ph : Nat → State → Prop} {h0 hf : hc_H} {r : Option Value} : qk Ph M_R_isFull h0 hf r 45 (vc_R_isFull_45 r hf (cx Ph M_R_isFull h0 hf r)) := (qs_istore_n d_R_isFull_45 rfl (by decide) (qs_iload d_R_isFull_46 (qs_iconst d_R_isFull_48 (by decide) (qs_isub d_R_isFull_49 (qs_iload_n d_R_isFull_50 rfl (qs_iand d_R_isFull_51 (qs_istore d_R_isFull_52 (by decide) (qs_goto (tgt := 19) d_R_isFull_54 (by decide) (fun _ _ _ h9 => h9)))))))))
def vc_R_isFull_44 (r : Option Value) (hf : hc_H) (J : Nat → hc_K) (lv : hc_L) (st : List Value) (h : hc_H) : Prop := (qi_push (nI 0) (vc_R_isFull_45 r hf J)) lv st h
theorem sn_R_isFull_44 {Ph : Nat → State → Prop} {h0 hf : hc_H} {r : Option Value} : qk Ph M_R_isFull h0 hf r 44 (vc_R_isFull_44 r hf (cx Ph M_R_isFull h0 hf r)) := (qs_iconst d_R_isFull_44 (by decide) sn_R_isFull_45)
def vc_R_isFull_19 (r : Option Value) (hf : hc_H) (J : Nat → hc_K) (lv : hc_L) (st : List Value) (h : hc_H) : Prop := (qi_iload 4 (qi_if_le (vc_R_isFull_57 r hf J) (qi_iload 2 (qi_if_eq (vc_R_isFull_57 r hf J) (qi_aload 0 (qi_push (nI 0) (qi_iload 1 (qi_iload 4 (qi_ior (qi_invV hc_tt M_R_isNext 2 6 (qi_if_ne (vc_R_isFull_44 r hf J) (qi_push (nI 1) (vc_R_isFull_45 r hf J))))))))))))) lv st h
theorem sn_R_isFull_19 {Ph : Nat → State → Prop} {h0 hf : hc_H} {r : Option Value} : qk Ph M_R_isFull h0 hf r 19 (vc_R_isFull_19 r hf (cx Ph M_R_isFull h0 hf r)) := (qs_iload d_R_isFull_19 (qs_if_le (tgt := 57) d_R_isFull_21 (by decide) sn_R_isFull_57 (qs_iload_n d_R_isFull_24 rfl (qs_if_eq (tgt := 57) d_R_isFull_25 (by decide) sn_R_isFull_57 (qs_aload_n d_R_isFull_28 rfl (qs_iconst d_R_isFull_29 (by decide) (qs_iload_n d_R_isFull_30 rfl (qs_iload d_R_isFull_31 (qs_ior d_R_isFull_33 (qs_invV hc_Ph_tt (fun _ _ _ => trivial) d_R_isFull_34 zz_R_isNext wk_1066 ⟨wk_1068, wk_45⟩ ⟨_, rfl, rfl⟩ ⟨by decide, by decide⟩ (qs_if_ne (tgt := 44) d_R_isFull_37 (by decide) sn_R_isFull_44 (qs_iconst d_R_isFull_40 (by decide) (qs_goto (tgt := 45) d_R_isFull_41 (by decide) sn_R_isFull_45)))))))))))))
def vc_R_isFull_0 (r : Option Value) (hf : hc_H) (J : Nat → hc_K) (lv : hc_L) (st : List Value) (h : hc_H) : Prop := (qi_aload 0 (qi_push (nI 0) (qi_iload 1 (qi_invV hc_tt M_R_isNext 2 6 (qi_istore 2 (qi_aload 0 (qi_invV hc_tt M_R_all 0 6 (qi_iload 1 (qi_push (-1) (qi_ixor (qi_iand (qi_istore 3 (qi_iload 3 (qi_istore 4 (J 19))))))))))))))) lv st h
theorem sn_R_isFull_0 {Ph : Nat → State → Prop} {h0 hf : hc_H} {r : Option Value} : qk Ph M_R_isFull h0 hf r 0 (vc_R_isFull_0 r hf (cx Ph M_R_isFull h0 hf r)) := (qs_aload_n d_R_isFull_0 rfl (qs_iconst d_R_isFull_1 (by decide) (qs_iload_n d_R_isFull_2 rfl (qs_invV hc_Ph_tt (fun _ _ _ => trivial) d_R_isFull_3 zz_R_isNext wk_1066 ⟨wk_1068, wk_45⟩ ⟨_, rfl, rfl⟩ ⟨by decide, by decide⟩ (qs_istore_n d_R_isFull_6 rfl (by decide) (qs_aload_n d_R_isFull_7 rfl (qs_invV hc_Ph_tt (fun _ _ _ => trivial) d_R_isFull_8 zz_R_all wk_1058 ⟨wk_1060, wk_43⟩ ⟨_, rfl, rfl⟩ ⟨by decide, by decide⟩ (qs_iload_n d_R_isFull_11 rfl (qs_iconst d_R_isFull_12 (by decide) (qs_ixor d_R_isFull_13 (qs_iand d_R_isFull_14 (qs_istore_n d_R_isFull_15 rfl (by decide) (qs_iload_n d_R_isFull_16 rfl (qs_istore d_R_isFull_17 (by decide) (fun _ _ _ h9 => h9)))))))))))))))
theorem zz_R_isFull : hc_z M_R_isFull 1 := ⟨wk_1134, wk_66, by decide +kernel⟩
/-! BalancedLineModel.loads(IZ)I -/
abbrev M_R_loads : hc_M := (⟨"BalancedLineModel", "loads", "(IZ)I"⟩, prog_8_method_59_code, 5, (some .int), 4, 91)
theorem d_R_loads_0 : decode (mC M_R_loads) 0 = .ok (.aload_n 0, 1) := by decide +kernel
theorem d_R_loads_1 : decode (mC M_R_loads) 1 = .ok (.aload_n 0, 1) := by decide +kernel
theorem d_R_loads_2 : decode (mC M_R_loads) 2 = .ok (.getfield 13, 3) := by decide +kernel
theorem d_R_loads_5 : decode (mC M_R_loads) 5 = .ok (.iconst 1, 1) := by decide +kernel
theorem d_R_loads_6 : decode (mC M_R_loads) 6 = .ok (.iaload, 1) := by decide +kernel
theorem d_R_loads_7 : decode (mC M_R_loads) 7 = .ok (.invokevirtual 152, 3) := by decide +kernel
theorem d_R_loads_10 : decode (mC M_R_loads) 10 = .ok (.iconst 0, 1) := by decide +kernel
theorem d_R_loads_11 : decode (mC M_R_loads) 11 = .ok (.istore_n 3, 1) := by decide +kernel
theorem d_R_loads_12 : decode (mC M_R_loads) 12 = .ok (.iconst 1, 1) := by decide +kernel
theorem d_R_loads_13 : decode (mC M_R_loads) 13 = .ok (.istore 4, 2) := by decide +kernel
theorem d_R_loads_15 : decode (mC M_R_loads) 15 = .ok (.iload 4, 2) := by decide +kernel
theorem d_R_loads_17 : decode (mC M_R_loads) 17 = .ok (.aload_n 0, 1) := by decide +kernel
theorem d_R_loads_18 : decode (mC M_R_loads) 18 = .ok (.invokevirtual 146, 3) := by decide +kernel
theorem d_R_loads_21 : decode (mC M_R_loads) 21 = .ok (.if_icmp .gt 46, 3) := by decide +kernel
theorem d_R_loads_24 : decode (mC M_R_loads) 24 = .ok (.iload_n 2, 1) := by decide +kernel
theorem d_R_loads_25 : decode (mC M_R_loads) 25 = .ok (.ifCond .eq 15, 3) := by decide +kernel
theorem d_R_loads_28 : decode (mC M_R_loads) 28 = .ok (.aload_n 0, 1) := by decide +kernel
theorem d_R_loads_29 : decode (mC M_R_loads) 29 = .ok (.iload 4, 2) := by decide +kernel
theorem d_R_loads_31 : decode (mC M_R_loads) 31 = .ok (.invokevirtual 184, 3) := by decide +kernel
theorem d_R_loads_34 : decode (mC M_R_loads) 34 = .ok (.ifCond .eq 27, 3) := by decide +kernel
theorem d_R_loads_37 : decode (mC M_R_loads) 37 = .ok (.goto 13, 3) := by decide +kernel
theorem d_R_loads_40 : decode (mC M_R_loads) 40 = .ok (.aload_n 0, 1) := by decide +kernel
theorem d_R_loads_41 : decode (mC M_R_loads) 41 = .ok (.iconst 0, 1) := by decide +kernel
theorem d_R_loads_42 : decode (mC M_R_loads) 42 = .ok (.iload 4, 2) := by decide +kernel
theorem d_R_loads_44 : decode (mC M_R_loads) 44 = .ok (.invokevirtual 156, 3) := by decide +kernel
theorem d_R_loads_47 : decode (mC M_R_loads) 47 = .ok (.ifCond .eq 14, 3) := by decide +kernel
theorem d_R_loads_50 : decode (mC M_R_loads) 50 = .ok (.iload_n 3, 1) := by decide +kernel
theorem d_R_loads_51 : decode (mC M_R_loads) 51 = .ok (.iload_n 1, 1) := by decide +kernel
theorem d_R_loads_52 : decode (mC M_R_loads) 52 = .ok (.if_icmp .ne 6, 3) := by decide +kernel
theorem d_R_loads_55 : decode (mC M_R_loads) 55 = .ok (.iload 4, 2) := by decide +kernel
theorem d_R_loads_57 : decode (mC M_R_loads) 57 = .ok (.ireturn, 1) := by decide +kernel
theorem d_R_loads_58 : decode (mC M_R_loads) 58 = .ok (.iinc 3 1, 3) := by decide +kernel
theorem d_R_loads_61 : decode (mC M_R_loads) 61 = .ok (.iinc 4 1, 3) := by decide +kernel
theorem d_R_loads_64 : decode (mC M_R_loads) 64 = .ok (.goto (-49), 3) := by decide +kernel
theorem d_R_loads_67 : decode (mC M_R_loads) 67 = .ok (.iload_n 1, 1) := by decide +kernel
theorem d_R_loads_68 : decode (mC M_R_loads) 68 = .ok (.ifCond .ge 7, 3) := by decide +kernel
theorem d_R_loads_71 : decode (mC M_R_loads) 71 = .ok (.iload_n 3, 1) := by decide +kernel
theorem d_R_loads_72 : decode (mC M_R_loads) 72 = .ok (.goto 5, 3) := by decide +kernel
theorem d_R_loads_75 : decode (mC M_R_loads) 75 = .ok (.bipush (-4), 2) := by decide +kernel
theorem d_R_loads_77 : decode (mC M_R_loads) 77 = .ok (.ireturn, 1) := by decide +kernel
def vc_R_loads_77 (r : Option Value) (hf : hc_H) (J : Nat → hc_K) (lv : hc_L) (st : List Value) (h : hc_H) : Prop := (qi_iret r hf) lv st h
theorem sn_R_loads_77 {Ph : Nat → State → Prop} {h0 hf : hc_H} {r : Option Value} : qk Ph M_R_loads h0 hf r 77 (vc_R_loads_77 r hf (cx Ph M_R_loads h0 hf r)) := (qs_iret d_R_loads_77 rfl)
def vc_R_loads_75 (r : Option Value) (hf : hc_H) (J : Nat → hc_K) (lv : hc_L) (st : List Value) (h : hc_H) : Prop := (qi_push (-4) (vc_R_loads_77 r hf J)) lv st h
theorem sn_R_loads_75 {Ph : Nat → State → Prop} {h0 hf : hc_H} {r : Option Value} : qk Ph M_R_loads h0 hf r 75 (vc_R_loads_75 r hf (cx Ph M_R_loads h0 hf r)) := (qs_bipush d_R_loads_75 (by decide) sn_R_loads_77)
def vc_R_loads_67 (r : Option Value) (hf : hc_H) (J : Nat → hc_K) (lv : hc_L) (st : List Value) (h : hc_H) : Prop := (qi_iload 1 (qi_if_ge (vc_R_loads_75 r hf J) (qi_iload 3 (vc_R_loads_77 r hf J)))) lv st h
theorem sn_R_loads_67 {Ph : Nat → State → Prop} {h0 hf : hc_H} {r : Option Value} : qk Ph M_R_loads h0 hf r 67 (vc_R_loads_67 r hf (cx Ph M_R_loads h0 hf r)) := (qs_iload_n d_R_loads_67 rfl (qs_if_ge (tgt := 75) d_R_loads_68 (by decide) sn_R_loads_75 (qs_iload_n d_R_loads_71 rfl (qs_goto (tgt := 77) d_R_loads_72 (by decide) sn_R_loads_77))))
def vc_R_loads_61 (r : Option Value) (hf : hc_H) (J : Nat → hc_K) (lv : hc_L) (st : List Value) (h : hc_H) : Prop := (qi_iinc 4 (nI 1) (J 15)) lv st h
theorem sn_R_loads_61 {Ph : Nat → State → Prop} {h0 hf : hc_H} {r : Option Value} : qk Ph M_R_loads h0 hf r 61 (vc_R_loads_61 r hf (cx Ph M_R_loads h0 hf r)) := (qs_iinc d_R_loads_61 (by decide) (by decide) (qs_goto (tgt := 15) d_R_loads_64 (by decide) (fun _ _ _ h9 => h9)))
def vc_R_loads_58 (r : Option Value) (hf : hc_H) (J : Nat → hc_K) (lv : hc_L) (st : List Value) (h : hc_H) : Prop := (qi_iinc 3 (nI 1) (vc_R_loads_61 r hf J)) lv st h
theorem sn_R_loads_58 {Ph : Nat → State → Prop} {h0 hf : hc_H} {r : Option Value} : qk Ph M_R_loads h0 hf r 58 (vc_R_loads_58 r hf (cx Ph M_R_loads h0 hf r)) := (qs_iinc d_R_loads_58 (by decide) (by decide) sn_R_loads_61)
def vc_R_loads_50 (r : Option Value) (hf : hc_H) (J : Nat → hc_K) (lv : hc_L) (st : List Value) (h : hc_H) : Prop := (qi_iload 3 (qi_iload 1 (qi_icmp_ne (vc_R_loads_58 r hf J) (qi_iload 4 (qi_iret r hf))))) lv st h
theorem sn_R_loads_50 {Ph : Nat → State → Prop} {h0 hf : hc_H} {r : Option Value} : qk Ph M_R_loads h0 hf r 50 (vc_R_loads_50 r hf (cx Ph M_R_loads h0 hf r)) := (qs_iload_n d_R_loads_50 rfl (qs_iload_n d_R_loads_51 rfl (qs_icmp_ne (tgt := 58) d_R_loads_52 (by decide) sn_R_loads_58 (qs_iload d_R_loads_55 (qs_iret d_R_loads_57 rfl)))))
def vc_R_loads_40 (r : Option Value) (hf : hc_H) (J : Nat → hc_K) (lv : hc_L) (st : List Value) (h : hc_H) : Prop := (qi_aload 0 (qi_push (nI 0) (qi_iload 4 (qi_invV hc_tt M_R_isNext 2 6 (qi_if_eq (vc_R_loads_61 r hf J) (vc_R_loads_50 r hf J)))))) lv st h
theorem sn_R_loads_40 {Ph : Nat → State → Prop} {h0 hf : hc_H} {r : Option Value} : qk Ph M_R_loads h0 hf r 40 (vc_R_loads_40 r hf (cx Ph M_R_loads h0 hf r)) := (qs_aload_n d_R_loads_40 rfl (qs_iconst d_R_loads_41 (by decide) (qs_iload d_R_loads_42 (qs_invV hc_Ph_tt (fun _ _ _ => trivial) d_R_loads_44 zz_R_isNext wk_1066 ⟨wk_1068, wk_45⟩ ⟨_, rfl, rfl⟩ ⟨by decide, by decide⟩ (qs_if_eq (tgt := 61) d_R_loads_47 (by decide) sn_R_loads_61 sn_R_loads_50)))))
def vc_R_loads_15 (r : Option Value) (hf : hc_H) (J : Nat → hc_K) (lv : hc_L) (st : List Value) (h : hc_H) : Prop := (qi_iload 4 (qi_aload 0 (qi_invV hc_tt M_R_all 0 6 (qi_icmp_gt (vc_R_loads_67 r hf J) (qi_iload 2 (qi_if_eq (vc_R_loads_40 r hf J) (qi_aload 0 (qi_iload 4 (qi_invV hc_tt M_R_isFull 1 6 (qi_if_eq (vc_R_loads_61 r hf J) (vc_R_loads_50 r hf J))))))))))) lv st h
theorem sn_R_loads_15 {Ph : Nat → State → Prop} {h0 hf : hc_H} {r : Option Value} : qk Ph M_R_loads h0 hf r 15 (vc_R_loads_15 r hf (cx Ph M_R_loads h0 hf r)) := (qs_iload d_R_loads_15 (qs_aload_n d_R_loads_17 rfl (qs_invV hc_Ph_tt (fun _ _ _ => trivial) d_R_loads_18 zz_R_all wk_1058 ⟨wk_1060, wk_43⟩ ⟨_, rfl, rfl⟩ ⟨by decide, by decide⟩ (qs_icmp_gt (tgt := 67) d_R_loads_21 (by decide) sn_R_loads_67 (qs_iload_n d_R_loads_24 rfl (qs_if_eq (tgt := 40) d_R_loads_25 (by decide) sn_R_loads_40 (qs_aload_n d_R_loads_28 rfl (qs_iload d_R_loads_29 (qs_invV hc_Ph_tt (fun _ _ _ => trivial) d_R_loads_31 zz_R_isFull wk_1131 ⟨wk_1133, wk_50⟩ ⟨_, rfl, rfl⟩ ⟨by decide, by decide⟩ (qs_if_eq (tgt := 61) d_R_loads_34 (by decide) sn_R_loads_61 (qs_goto (tgt := 50) d_R_loads_37 (by decide) sn_R_loads_50)))))))))))
def vc_R_loads_0 (r : Option Value) (hf : hc_H) (J : Nat → hc_K) (lv : hc_L) (st : List Value) (h : hc_H) : Prop := (qi_aload 0 (qi_aload 0 (qi_get 6 2 (qi_push (nI 1) (qi_iald 0 (qi_invV hc_tt M_R_findGood 1 6 (qi_push (nI 0) (qi_istore 3 (qi_push (nI 1) (qi_istore 4 (J 15))))))))))) lv st h
theorem sn_R_loads_0 {Ph : Nat → State → Prop} {h0 hf : hc_H} {r : Option Value} : qk Ph M_R_loads h0 hf r 0 (vc_R_loads_0 r hf (cx Ph M_R_loads h0 hf r)) := (qs_aload_n d_R_loads_0 rfl (qs_aload_n d_R_loads_1 rfl (qs_get d_R_loads_2 ff_R_13 (qs_iconst d_R_loads_5 (by decide) (qs_iaload d_R_loads_6 (qs_invV hc_Ph_tt (fun _ _ _ => trivial) d_R_loads_7 zz_R_findGood wk_1054 ⟨wk_1056, wk_42⟩ ⟨_, rfl, rfl⟩ ⟨by decide, by decide⟩ (qs_iconst d_R_loads_10 (by decide) (qs_istore_n d_R_loads_11 rfl (by decide) (qs_iconst d_R_loads_12 (by decide) (qs_istore d_R_loads_13 (by decide) (fun _ _ _ h9 => h9)))))))))))
theorem zz_R_loads : hc_z M_R_loads 2 := ⟨wk_1130, wk_66, by decide +kernel⟩
/-! BalancedLineModel.load(I)I -/
abbrev M_R_load : hc_M := (⟨"BalancedLineModel", "load", "(I)I"⟩, prog_8_method_60_code, 2, (some .int), 5, 115)
theorem d_R_load_0 : decode (mC M_R_load) 0 = .ok (.iload_n 1, 1) := by decide +kernel
theorem d_R_load_1 : decode (mC M_R_load) 1 = .ok (.iconst (-1), 1) := by decide +kernel
theorem d_R_load_2 : decode (mC M_R_load) 2 = .ok (.if_icmp .ge 7, 3) := by decide +kernel
theorem d_R_load_5 : decode (mC M_R_load) 5 = .ok (.iconst (-1), 1) := by decide +kernel
theorem d_R_load_6 : decode (mC M_R_load) 6 = .ok (.goto 9, 3) := by decide +kernel
theorem d_R_load_9 : decode (mC M_R_load) 9 = .ok (.aload_n 0, 1) := by decide +kernel
theorem d_R_load_10 : decode (mC M_R_load) 10 = .ok (.iload_n 1, 1) := by decide +kernel
theorem d_R_load_11 : decode (mC M_R_load) 11 = .ok (.iconst 0, 1) := by decide +kernel
theorem d_R_load_12 : decode (mC M_R_load) 12 = .ok (.invokevirtual 187, 3) := by decide +kernel
theorem d_R_load_15 : decode (mC M_R_load) 15 = .ok (.ireturn, 1) := by decide +kernel
def vc_R_load_15 (r : Option Value) (hf : hc_H) (J : Nat → hc_K) (lv : hc_L) (st : List Value) (h : hc_H) : Prop := (qi_iret r hf) lv st h
theorem sn_R_load_15 {Ph : Nat → State → Prop} {h0 hf : hc_H} {r : Option Value} : qk Ph M_R_load h0 hf r 15 (vc_R_load_15 r hf (cx Ph M_R_load h0 hf r)) := (qs_iret d_R_load_15 rfl)
def vc_R_load_9 (r : Option Value) (hf : hc_H) (J : Nat → hc_K) (lv : hc_L) (st : List Value) (h : hc_H) : Prop := (qi_aload 0 (qi_iload 1 (qi_push (nI 0) (qi_invV hc_tt M_R_loads 2 6 (vc_R_load_15 r hf J))))) lv st h
theorem sn_R_load_9 {Ph : Nat → State → Prop} {h0 hf : hc_H} {r : Option Value} : qk Ph M_R_load h0 hf r 9 (vc_R_load_9 r hf (cx Ph M_R_load h0 hf r)) := (qs_aload_n d_R_load_9 rfl (qs_iload_n d_R_load_10 rfl (qs_iconst d_R_load_11 (by decide) (qs_invV hc_Ph_tt (fun _ _ _ => trivial) d_R_load_12 zz_R_loads wk_1127 ⟨wk_1129, wk_49⟩ ⟨_, rfl, rfl⟩ ⟨by decide, by decide⟩ sn_R_load_15))))
def vc_R_load_0 (r : Option Value) (hf : hc_H) (J : Nat → hc_K) (lv : hc_L) (st : List Value) (h : hc_H) : Prop := (qi_iload 1 (qi_push (-1) (qi_icmp_ge (vc_R_load_9 r hf J) (qi_push (-1) (vc_R_load_15 r hf J))))) lv st h
theorem sn_R_load_0 {Ph : Nat → State → Prop} {h0 hf : hc_H} {r : Option Value} : qk Ph M_R_load h0 hf r 0 (vc_R_load_0 r hf (cx Ph M_R_load h0 hf r)) := (qs_iload_n d_R_load_0 rfl (qs_iconst d_R_load_1 (by decide) (qs_icmp_ge (tgt := 9) d_R_load_2 (by decide) sn_R_load_9 (qs_iconst d_R_load_5 (by decide) (qs_goto (tgt := 15) d_R_load_6 (by decide) sn_R_load_15)))))
/-! BalancedLineModel.full(I)I -/
abbrev M_R_full : hc_M := (⟨"BalancedLineModel", "full", "(I)I"⟩, prog_8_method_61_code, 2, (some .int), 5, 115)
theorem d_R_full_0 : decode (mC M_R_full) 0 = .ok (.iload_n 1, 1) := by decide +kernel
theorem d_R_full_1 : decode (mC M_R_full) 1 = .ok (.iconst (-1), 1) := by decide +kernel
theorem d_R_full_2 : decode (mC M_R_full) 2 = .ok (.if_icmp .ge 7, 3) := by decide +kernel
theorem d_R_full_5 : decode (mC M_R_full) 5 = .ok (.iconst (-1), 1) := by decide +kernel
theorem d_R_full_6 : decode (mC M_R_full) 6 = .ok (.goto 9, 3) := by decide +kernel
theorem d_R_full_9 : decode (mC M_R_full) 9 = .ok (.aload_n 0, 1) := by decide +kernel
theorem d_R_full_10 : decode (mC M_R_full) 10 = .ok (.iload_n 1, 1) := by decide +kernel
theorem d_R_full_11 : decode (mC M_R_full) 11 = .ok (.iconst 1, 1) := by decide +kernel
theorem d_R_full_12 : decode (mC M_R_full) 12 = .ok (.invokevirtual 187, 3) := by decide +kernel
theorem d_R_full_15 : decode (mC M_R_full) 15 = .ok (.ireturn, 1) := by decide +kernel
def vc_R_full_15 (r : Option Value) (hf : hc_H) (J : Nat → hc_K) (lv : hc_L) (st : List Value) (h : hc_H) : Prop := (qi_iret r hf) lv st h
theorem sn_R_full_15 {Ph : Nat → State → Prop} {h0 hf : hc_H} {r : Option Value} : qk Ph M_R_full h0 hf r 15 (vc_R_full_15 r hf (cx Ph M_R_full h0 hf r)) := (qs_iret d_R_full_15 rfl)
def vc_R_full_9 (r : Option Value) (hf : hc_H) (J : Nat → hc_K) (lv : hc_L) (st : List Value) (h : hc_H) : Prop := (qi_aload 0 (qi_iload 1 (qi_push (nI 1) (qi_invV hc_tt M_R_loads 2 6 (vc_R_full_15 r hf J))))) lv st h
theorem sn_R_full_9 {Ph : Nat → State → Prop} {h0 hf : hc_H} {r : Option Value} : qk Ph M_R_full h0 hf r 9 (vc_R_full_9 r hf (cx Ph M_R_full h0 hf r)) := (qs_aload_n d_R_full_9 rfl (qs_iload_n d_R_full_10 rfl (qs_iconst d_R_full_11 (by decide) (qs_invV hc_Ph_tt (fun _ _ _ => trivial) d_R_full_12 zz_R_loads wk_1127 ⟨wk_1129, wk_49⟩ ⟨_, rfl, rfl⟩ ⟨by decide, by decide⟩ sn_R_full_15))))
def vc_R_full_0 (r : Option Value) (hf : hc_H) (J : Nat → hc_K) (lv : hc_L) (st : List Value) (h : hc_H) : Prop := (qi_iload 1 (qi_push (-1) (qi_icmp_ge (vc_R_full_9 r hf J) (qi_push (-1) (vc_R_full_15 r hf J))))) lv st h
theorem sn_R_full_0 {Ph : Nat → State → Prop} {h0 hf : hc_H} {r : Option Value} : qk Ph M_R_full h0 hf r 0 (vc_R_full_0 r hf (cx Ph M_R_full h0 hf r)) := (qs_iload_n d_R_full_0 rfl (qs_iconst d_R_full_1 (by decide) (qs_icmp_ge (tgt := 9) d_R_full_2 (by decide) sn_R_full_9 (qs_iconst d_R_full_5 (by decide) (qs_goto (tgt := 15) d_R_full_6 (by decide) sn_R_full_15)))))
/-! BalancedLineModel.binds(I)I -/
abbrev M_R_binds : hc_M := (⟨"BalancedLineModel", "binds", "(I)I"⟩, prog_8_method_62_code, 8, (some .int), 5, 116)
theorem d_R_binds_0 : decode (mC M_R_binds) 0 = .ok (.iload_n 1, 1) := by decide +kernel
theorem d_R_binds_1 : decode (mC M_R_binds) 1 = .ok (.iconst (-1), 1) := by decide +kernel
theorem d_R_binds_2 : decode (mC M_R_binds) 2 = .ok (.if_icmp .ge 5, 3) := by decide +kernel
theorem d_R_binds_5 : decode (mC M_R_binds) 5 = .ok (.iconst (-1), 1) := by decide +kernel
theorem d_R_binds_6 : decode (mC M_R_binds) 6 = .ok (.ireturn, 1) := by decide +kernel
theorem d_R_binds_7 : decode (mC M_R_binds) 7 = .ok (.aload_n 0, 1) := by decide +kernel
theorem d_R_binds_8 : decode (mC M_R_binds) 8 = .ok (.aload_n 0, 1) := by decide +kernel
theorem d_R_binds_9 : decode (mC M_R_binds) 9 = .ok (.getfield 13, 3) := by decide +kernel
theorem d_R_binds_12 : decode (mC M_R_binds) 12 = .ok (.iconst 1, 1) := by decide +kernel
theorem d_R_binds_13 : decode (mC M_R_binds) 13 = .ok (.iaload, 1) := by decide +kernel
theorem d_R_binds_14 : decode (mC M_R_binds) 14 = .ok (.invokevirtual 159, 3) := by decide +kernel
theorem d_R_binds_17 : decode (mC M_R_binds) 17 = .ok (.istore_n 2, 1) := by decide +kernel
theorem d_R_binds_18 : decode (mC M_R_binds) 18 = .ok (.iconst 0, 1) := by decide +kernel
theorem d_R_binds_19 : decode (mC M_R_binds) 19 = .ok (.istore_n 3, 1) := by decide +kernel
theorem d_R_binds_20 : decode (mC M_R_binds) 20 = .ok (.iconst 0, 1) := by decide +kernel
theorem d_R_binds_21 : decode (mC M_R_binds) 21 = .ok (.istore 4, 2) := by decide +kernel
theorem d_R_binds_23 : decode (mC M_R_binds) 23 = .ok (.iload 4, 2) := by decide +kernel
theorem d_R_binds_25 : decode (mC M_R_binds) 25 = .ok (.sipush 144, 3) := by decide +kernel
theorem d_R_binds_28 : decode (mC M_R_binds) 28 = .ok (.if_icmp .ge 139, 3) := by decide +kernel
theorem d_R_binds_31 : decode (mC M_R_binds) 31 = .ok (.iload 4, 2) := by decide +kernel
theorem d_R_binds_33 : decode (mC M_R_binds) 33 = .ok (.bipush 12, 2) := by decide +kernel
theorem d_R_binds_35 : decode (mC M_R_binds) 35 = .ok (.idiv, 1) := by decide +kernel
theorem d_R_binds_36 : decode (mC M_R_binds) 36 = .ok (.istore 5, 2) := by decide +kernel
theorem d_R_binds_38 : decode (mC M_R_binds) 38 = .ok (.iload 4, 2) := by decide +kernel
theorem d_R_binds_40 : decode (mC M_R_binds) 40 = .ok (.bipush 12, 2) := by decide +kernel
theorem d_R_binds_42 : decode (mC M_R_binds) 42 = .ok (.irem, 1) := by decide +kernel
theorem d_R_binds_43 : decode (mC M_R_binds) 43 = .ok (.istore 6, 2) := by decide +kernel
theorem d_R_binds_45 : decode (mC M_R_binds) 45 = .ok (.aload_n 0, 1) := by decide +kernel
theorem d_R_binds_46 : decode (mC M_R_binds) 46 = .ok (.iload 5, 2) := by decide +kernel
theorem d_R_binds_48 : decode (mC M_R_binds) 48 = .ok (.iload 6, 2) := by decide +kernel
theorem d_R_binds_50 : decode (mC M_R_binds) 50 = .ok (.invokevirtual 121, 3) := by decide +kernel
theorem d_R_binds_53 : decode (mC M_R_binds) 53 = .ok (.ifCond .eq 108, 3) := by decide +kernel
theorem d_R_binds_56 : decode (mC M_R_binds) 56 = .ok (.aload_n 0, 1) := by decide +kernel
theorem d_R_binds_57 : decode (mC M_R_binds) 57 = .ok (.getfield 13, 3) := by decide +kernel
theorem d_R_binds_60 : decode (mC M_R_binds) 60 = .ok (.bipush 14, 2) := by decide +kernel
theorem d_R_binds_62 : decode (mC M_R_binds) 62 = .ok (.iload 6, 2) := by decide +kernel
theorem d_R_binds_64 : decode (mC M_R_binds) 64 = .ok (.iadd, 1) := by decide +kernel
theorem d_R_binds_65 : decode (mC M_R_binds) 65 = .ok (.iaload, 1) := by decide +kernel
theorem d_R_binds_66 : decode (mC M_R_binds) 66 = .ok (.iload 5, 2) := by decide +kernel
theorem d_R_binds_68 : decode (mC M_R_binds) 68 = .ok (.invokestatic 48, 3) := by decide +kernel
theorem d_R_binds_71 : decode (mC M_R_binds) 71 = .ok (.ifCond .eq 90, 3) := by decide +kernel
theorem d_R_binds_74 : decode (mC M_R_binds) 74 = .ok (.aload_n 0, 1) := by decide +kernel
theorem d_R_binds_75 : decode (mC M_R_binds) 75 = .ok (.getfield 13, 3) := by decide +kernel
theorem d_R_binds_78 : decode (mC M_R_binds) 78 = .ok (.bipush 14, 2) := by decide +kernel
theorem d_R_binds_80 : decode (mC M_R_binds) 80 = .ok (.iload 6, 2) := by decide +kernel
theorem d_R_binds_82 : decode (mC M_R_binds) 82 = .ok (.iadd, 1) := by decide +kernel
theorem d_R_binds_83 : decode (mC M_R_binds) 83 = .ok (.dup2, 1) := by decide +kernel
theorem d_R_binds_84 : decode (mC M_R_binds) 84 = .ok (.iaload, 1) := by decide +kernel
theorem d_R_binds_85 : decode (mC M_R_binds) 85 = .ok (.iconst 1, 1) := by decide +kernel
theorem d_R_binds_86 : decode (mC M_R_binds) 86 = .ok (.iload 5, 2) := by decide +kernel
theorem d_R_binds_88 : decode (mC M_R_binds) 88 = .ok (.ishl, 1) := by decide +kernel
theorem d_R_binds_89 : decode (mC M_R_binds) 89 = .ok (.ixor, 1) := by decide +kernel
theorem d_R_binds_90 : decode (mC M_R_binds) 90 = .ok (.iastore, 1) := by decide +kernel
theorem d_R_binds_91 : decode (mC M_R_binds) 91 = .ok (.aload_n 0, 1) := by decide +kernel
theorem d_R_binds_92 : decode (mC M_R_binds) 92 = .ok (.aload_n 0, 1) := by decide +kernel
theorem d_R_binds_93 : decode (mC M_R_binds) 93 = .ok (.getfield 13, 3) := by decide +kernel
theorem d_R_binds_96 : decode (mC M_R_binds) 96 = .ok (.iconst 1, 1) := by decide +kernel
theorem d_R_binds_97 : decode (mC M_R_binds) 97 = .ok (.iaload, 1) := by decide +kernel
theorem d_R_binds_98 : decode (mC M_R_binds) 98 = .ok (.invokevirtual 159, 3) := by decide +kernel
theorem d_R_binds_101 : decode (mC M_R_binds) 101 = .ok (.iload_n 2, 1) := by decide +kernel
theorem d_R_binds_102 : decode (mC M_R_binds) 102 = .ok (.if_icmp .ge 7, 3) := by decide +kernel
theorem d_R_binds_105 : decode (mC M_R_binds) 105 = .ok (.iconst 1, 1) := by decide +kernel
theorem d_R_binds_106 : decode (mC M_R_binds) 106 = .ok (.goto 4, 3) := by decide +kernel
theorem d_R_binds_109 : decode (mC M_R_binds) 109 = .ok (.iconst 0, 1) := by decide +kernel
theorem d_R_binds_110 : decode (mC M_R_binds) 110 = .ok (.istore 7, 2) := by decide +kernel
theorem d_R_binds_112 : decode (mC M_R_binds) 112 = .ok (.aload_n 0, 1) := by decide +kernel
theorem d_R_binds_113 : decode (mC M_R_binds) 113 = .ok (.getfield 13, 3) := by decide +kernel
theorem d_R_binds_116 : decode (mC M_R_binds) 116 = .ok (.bipush 14, 2) := by decide +kernel
theorem d_R_binds_118 : decode (mC M_R_binds) 118 = .ok (.iload 6, 2) := by decide +kernel
theorem d_R_binds_120 : decode (mC M_R_binds) 120 = .ok (.iadd, 1) := by decide +kernel
theorem d_R_binds_121 : decode (mC M_R_binds) 121 = .ok (.dup2, 1) := by decide +kernel
theorem d_R_binds_122 : decode (mC M_R_binds) 122 = .ok (.iaload, 1) := by decide +kernel
theorem d_R_binds_123 : decode (mC M_R_binds) 123 = .ok (.iconst 1, 1) := by decide +kernel
theorem d_R_binds_124 : decode (mC M_R_binds) 124 = .ok (.iload 5, 2) := by decide +kernel
theorem d_R_binds_126 : decode (mC M_R_binds) 126 = .ok (.ishl, 1) := by decide +kernel
theorem d_R_binds_127 : decode (mC M_R_binds) 127 = .ok (.ixor, 1) := by decide +kernel
theorem d_R_binds_128 : decode (mC M_R_binds) 128 = .ok (.iastore, 1) := by decide +kernel
theorem d_R_binds_129 : decode (mC M_R_binds) 129 = .ok (.iload 7, 2) := by decide +kernel
theorem d_R_binds_131 : decode (mC M_R_binds) 131 = .ok (.ifCond .eq 17, 3) := by decide +kernel
theorem d_R_binds_134 : decode (mC M_R_binds) 134 = .ok (.iload_n 3, 1) := by decide +kernel
theorem d_R_binds_135 : decode (mC M_R_binds) 135 = .ok (.iload_n 1, 1) := by decide +kernel
theorem d_R_binds_136 : decode (mC M_R_binds) 136 = .ok (.if_icmp .ne 12, 3) := by decide +kernel
theorem d_R_binds_139 : decode (mC M_R_binds) 139 = .ok (.bipush 100, 2) := by decide +kernel
theorem d_R_binds_141 : decode (mC M_R_binds) 141 = .ok (.iload 5, 2) := by decide +kernel
theorem d_R_binds_143 : decode (mC M_R_binds) 143 = .ok (.imul, 1) := by decide +kernel
theorem d_R_binds_144 : decode (mC M_R_binds) 144 = .ok (.iload 6, 2) := by decide +kernel
theorem d_R_binds_146 : decode (mC M_R_binds) 146 = .ok (.iadd, 1) := by decide +kernel
theorem d_R_binds_147 : decode (mC M_R_binds) 147 = .ok (.ireturn, 1) := by decide +kernel
theorem d_R_binds_148 : decode (mC M_R_binds) 148 = .ok (.iload_n 3, 1) := by decide +kernel
theorem d_R_binds_149 : decode (mC M_R_binds) 149 = .ok (.iload 7, 2) := by decide +kernel
theorem d_R_binds_151 : decode (mC M_R_binds) 151 = .ok (.ifCond .eq 7, 3) := by decide +kernel
theorem d_R_binds_154 : decode (mC M_R_binds) 154 = .ok (.iconst 1, 1) := by decide +kernel
theorem d_R_binds_155 : decode (mC M_R_binds) 155 = .ok (.goto 4, 3) := by decide +kernel
theorem d_R_binds_158 : decode (mC M_R_binds) 158 = .ok (.iconst 0, 1) := by decide +kernel
theorem d_R_binds_159 : decode (mC M_R_binds) 159 = .ok (.iadd, 1) := by decide +kernel
theorem d_R_binds_160 : decode (mC M_R_binds) 160 = .ok (.istore_n 3, 1) := by decide +kernel
theorem d_R_binds_161 : decode (mC M_R_binds) 161 = .ok (.iinc 4 1, 3) := by decide +kernel
theorem d_R_binds_164 : decode (mC M_R_binds) 164 = .ok (.goto (-141), 3) := by decide +kernel
theorem d_R_binds_167 : decode (mC M_R_binds) 167 = .ok (.iload_n 1, 1) := by decide +kernel
theorem d_R_binds_168 : decode (mC M_R_binds) 168 = .ok (.ifCond .ge 7, 3) := by decide +kernel
theorem d_R_binds_171 : decode (mC M_R_binds) 171 = .ok (.iload_n 3, 1) := by decide +kernel
theorem d_R_binds_172 : decode (mC M_R_binds) 172 = .ok (.goto 5, 3) := by decide +kernel
theorem d_R_binds_175 : decode (mC M_R_binds) 175 = .ok (.bipush (-4), 2) := by decide +kernel
theorem d_R_binds_177 : decode (mC M_R_binds) 177 = .ok (.ireturn, 1) := by decide +kernel
def vc_R_binds_177 (r : Option Value) (hf : hc_H) (J : Nat → hc_K) (lv : hc_L) (st : List Value) (h : hc_H) : Prop := (qi_iret r hf) lv st h
theorem sn_R_binds_177 {Ph : Nat → State → Prop} {h0 hf : hc_H} {r : Option Value} : qk Ph M_R_binds h0 hf r 177 (vc_R_binds_177 r hf (cx Ph M_R_binds h0 hf r)) := (qs_iret d_R_binds_177 rfl)
def vc_R_binds_175 (r : Option Value) (hf : hc_H) (J : Nat → hc_K) (lv : hc_L) (st : List Value) (h : hc_H) : Prop := (qi_push (-4) (vc_R_binds_177 r hf J)) lv st h
theorem sn_R_binds_175 {Ph : Nat → State → Prop} {h0 hf : hc_H} {r : Option Value} : qk Ph M_R_binds h0 hf r 175 (vc_R_binds_175 r hf (cx Ph M_R_binds h0 hf r)) := (qs_bipush d_R_binds_175 (by decide) sn_R_binds_177)
def vc_R_binds_167 (r : Option Value) (hf : hc_H) (J : Nat → hc_K) (lv : hc_L) (st : List Value) (h : hc_H) : Prop := (qi_iload 1 (qi_if_ge (vc_R_binds_175 r hf J) (qi_iload 3 (vc_R_binds_177 r hf J)))) lv st h
theorem sn_R_binds_167 {Ph : Nat → State → Prop} {h0 hf : hc_H} {r : Option Value} : qk Ph M_R_binds h0 hf r 167 (vc_R_binds_167 r hf (cx Ph M_R_binds h0 hf r)) := (qs_iload_n d_R_binds_167 rfl (qs_if_ge (tgt := 175) d_R_binds_168 (by decide) sn_R_binds_175 (qs_iload_n d_R_binds_171 rfl (qs_goto (tgt := 177) d_R_binds_172 (by decide) sn_R_binds_177))))
def vc_R_binds_161 (r : Option Value) (hf : hc_H) (J : Nat → hc_K) (lv : hc_L) (st : List Value) (h : hc_H) : Prop := (qi_iinc 4 (nI 1) (J 23)) lv st h
theorem sn_R_binds_161 {Ph : Nat → State → Prop} {h0 hf : hc_H} {r : Option Value} : qk Ph M_R_binds h0 hf r 161 (vc_R_binds_161 r hf (cx Ph M_R_binds h0 hf r)) := (qs_iinc d_R_binds_161 (by decide) (by decide) (qs_goto (tgt := 23) d_R_binds_164 (by decide) (fun _ _ _ h9 => h9)))
def vc_R_binds_159 (r : Option Value) (hf : hc_H) (J : Nat → hc_K) (lv : hc_L) (st : List Value) (h : hc_H) : Prop := (qi_iadd (qi_istore 3 (vc_R_binds_161 r hf J))) lv st h
theorem sn_R_binds_159 {Ph : Nat → State → Prop} {h0 hf : hc_H} {r : Option Value} : qk Ph M_R_binds h0 hf r 159 (vc_R_binds_159 r hf (cx Ph M_R_binds h0 hf r)) := (qs_iadd d_R_binds_159 (qs_istore_n d_R_binds_160 rfl (by decide) sn_R_binds_161))
def vc_R_binds_158 (r : Option Value) (hf : hc_H) (J : Nat → hc_K) (lv : hc_L) (st : List Value) (h : hc_H) : Prop := (qi_push (nI 0) (vc_R_binds_159 r hf J)) lv st h
theorem sn_R_binds_158 {Ph : Nat → State → Prop} {h0 hf : hc_H} {r : Option Value} : qk Ph M_R_binds h0 hf r 158 (vc_R_binds_158 r hf (cx Ph M_R_binds h0 hf r)) := (qs_iconst d_R_binds_158 (by decide) sn_R_binds_159)
def vc_R_binds_148 (r : Option Value) (hf : hc_H) (J : Nat → hc_K) (lv : hc_L) (st : List Value) (h : hc_H) : Prop := (qi_iload 3 (qi_iload 7 (qi_if_eq (vc_R_binds_158 r hf J) (qi_push (nI 1) (vc_R_binds_159 r hf J))))) lv st h
theorem sn_R_binds_148 {Ph : Nat → State → Prop} {h0 hf : hc_H} {r : Option Value} : qk Ph M_R_binds h0 hf r 148 (vc_R_binds_148 r hf (cx Ph M_R_binds h0 hf r)) := (qs_iload_n d_R_binds_148 rfl (qs_iload d_R_binds_149 (qs_if_eq (tgt := 158) d_R_binds_151 (by decide) sn_R_binds_158 (qs_iconst d_R_binds_154 (by decide) (qs_goto (tgt := 159) d_R_binds_155 (by decide) sn_R_binds_159)))))
def vc_R_binds_110 (r : Option Value) (hf : hc_H) (J : Nat → hc_K) (lv : hc_L) (st : List Value) (h : hc_H) : Prop := (qi_istore 7 (qi_aload 0 (qi_get 6 2 (qi_push (nI 14) (qi_iload 6 (qi_iadd (qi_dup2 (qi_iald 0 (qi_push (nI 1) (qi_iload 5 (qi_ishl (qi_ixor (qi_iast (qi_iload 7 (qi_if_eq (vc_R_binds_148 r hf J) (qi_iload 3 (qi_iload 1 (qi_icmp_ne (vc_R_binds_148 r hf J) (qi_push (nI 100) (qi_iload 5 (qi_imul (qi_iload 6 (qi_iadd (qi_iret r hf)))))))))))))))))))))))) lv st h
theorem sn_R_binds_110 {Ph : Nat → State → Prop} {h0 hf : hc_H} {r : Option Value} : qk Ph M_R_binds h0 hf r 110 (vc_R_binds_110 r hf (cx Ph M_R_binds h0 hf r)) := (qs_istore d_R_binds_110 (by decide) (qs_aload_n d_R_binds_112 rfl (qs_get d_R_binds_113 ff_R_13 (qs_bipush d_R_binds_116 (by decide) (qs_iload d_R_binds_118 (qs_iadd d_R_binds_120 (qs_dup2 d_R_binds_121 (qs_iaload d_R_binds_122 (qs_iconst d_R_binds_123 (by decide) (qs_iload d_R_binds_124 (qs_ishl d_R_binds_126 (qs_ixor d_R_binds_127 (qs_iastore d_R_binds_128 (qs_iload d_R_binds_129 (qs_if_eq (tgt := 148) d_R_binds_131 (by decide) sn_R_binds_148 (qs_iload_n d_R_binds_134 rfl (qs_iload_n d_R_binds_135 rfl (qs_icmp_ne (tgt := 148) d_R_binds_136 (by decide) sn_R_binds_148 (qs_bipush d_R_binds_139 (by decide) (qs_iload d_R_binds_141 (qs_imul d_R_binds_143 (qs_iload d_R_binds_144 (qs_iadd d_R_binds_146 (qs_iret d_R_binds_147 rfl))))))))))))))))))))))))
def vc_R_binds_109 (r : Option Value) (hf : hc_H) (J : Nat → hc_K) (lv : hc_L) (st : List Value) (h : hc_H) : Prop := (qi_push (nI 0) (vc_R_binds_110 r hf J)) lv st h
theorem sn_R_binds_109 {Ph : Nat → State → Prop} {h0 hf : hc_H} {r : Option Value} : qk Ph M_R_binds h0 hf r 109 (vc_R_binds_109 r hf (cx Ph M_R_binds h0 hf r)) := (qs_iconst d_R_binds_109 (by decide) sn_R_binds_110)
def vc_R_binds_23 (r : Option Value) (hf : hc_H) (J : Nat → hc_K) (lv : hc_L) (st : List Value) (h : hc_H) : Prop := (qi_iload 4 (qi_push (nI 144) (qi_icmp_ge (vc_R_binds_167 r hf J) (qi_iload 4 (qi_push (nI 12) (qi_idiv (qi_istore 5 (qi_iload 4 (qi_push (nI 12) (qi_irem (qi_istore 6 (qi_aload 0 (qi_iload 5 (qi_iload 6 (qi_invV hc_tt M_R_isPair 2 6 (qi_if_eq (vc_R_binds_161 r hf J) (qi_aload 0 (qi_get 6 2 (qi_push (nI 14) (qi_iload 6 (qi_iadd (qi_iald 0 (qi_iload 5 (qi_invS hc_tt M_R_has 2 (qi_if_eq (vc_R_binds_161 r hf J) (qi_aload 0 (qi_get 6 2 (qi_push (nI 14) (qi_iload 6 (qi_iadd (qi_dup2 (qi_iald 0 (qi_push (nI 1) (qi_iload 5 (qi_ishl (qi_ixor (qi_iast (qi_aload 0 (qi_aload 0 (qi_get 6 2 (qi_push (nI 1) (qi_iald 0 (qi_invV hc_tt M_R_findRest 1 6 (qi_iload 2 (qi_icmp_ge (vc_R_binds_109 r hf J) (qi_push (nI 1) (vc_R_binds_110 r hf J))))))))))))))))))))))))))))))))))))))))))))))) lv st h
theorem sn_R_binds_23 {Ph : Nat → State → Prop} {h0 hf : hc_H} {r : Option Value} : qk Ph M_R_binds h0 hf r 23 (vc_R_binds_23 r hf (cx Ph M_R_binds h0 hf r)) := (qs_iload d_R_binds_23 (qs_sipush d_R_binds_25 (by decide) (qs_icmp_ge (tgt := 167) d_R_binds_28 (by decide) sn_R_binds_167 (qs_iload d_R_binds_31 (qs_bipush d_R_binds_33 (by decide) (qs_idiv d_R_binds_35 (qs_istore d_R_binds_36 (by decide) (qs_iload d_R_binds_38 (qs_bipush d_R_binds_40 (by decide) (qs_irem d_R_binds_42 (qs_istore d_R_binds_43 (by decide) (qs_aload_n d_R_binds_45 rfl (qs_iload d_R_binds_46 (qs_iload d_R_binds_48 (qs_invV hc_Ph_tt (fun _ _ _ => trivial) d_R_binds_50 zz_R_isPair wk_997 ⟨wk_999, wk_37⟩ ⟨_, rfl, rfl⟩ ⟨by decide, by decide⟩ (qs_if_eq (tgt := 161) d_R_binds_53 (by decide) sn_R_binds_161 (qs_aload_n d_R_binds_56 rfl (qs_get d_R_binds_57 ff_R_13 (qs_bipush d_R_binds_60 (by decide) (qs_iload d_R_binds_62 (qs_iadd d_R_binds_64 (qs_iaload d_R_binds_65 (qs_iload d_R_binds_66 (qs_invS hc_Ph_tt (fun _ _ _ => trivial) d_R_binds_68 zz_R_has wk_932 wk_933 ⟨by decide, by decide⟩ (qs_if_eq (tgt := 161) d_R_binds_71 (by decide) sn_R_binds_161 (qs_aload_n d_R_binds_74 rfl (qs_get d_R_binds_75 ff_R_13 (qs_bipush d_R_binds_78 (by decide) (qs_iload d_R_binds_80 (qs_iadd d_R_binds_82 (qs_dup2 d_R_binds_83 (qs_iaload d_R_binds_84 (qs_iconst d_R_binds_85 (by decide) (qs_iload d_R_binds_86 (qs_ishl d_R_binds_88 (qs_ixor d_R_binds_89 (qs_iastore d_R_binds_90 (qs_aload_n d_R_binds_91 rfl (qs_aload_n d_R_binds_92 rfl (qs_get d_R_binds_93 ff_R_13 (qs_iconst d_R_binds_96 (by decide) (qs_iaload d_R_binds_97 (qs_invV hc_Ph_tt (fun _ _ _ => trivial) d_R_binds_98 zz_R_findRest wk_1050 ⟨wk_1052, wk_41⟩ ⟨_, rfl, rfl⟩ ⟨by decide, by decide⟩ (qs_iload_n d_R_binds_101 rfl (qs_icmp_ge (tgt := 109) d_R_binds_102 (by decide) sn_R_binds_109 (qs_iconst d_R_binds_105 (by decide) (qs_goto (tgt := 110) d_R_binds_106 (by decide) sn_R_binds_110)))))))))))))))))))))))))))))))))))))))))))))))
def vc_R_binds_7 (r : Option Value) (hf : hc_H) (J : Nat → hc_K) (lv : hc_L) (st : List Value) (h : hc_H) : Prop := (qi_aload 0 (qi_aload 0 (qi_get 6 2 (qi_push (nI 1) (qi_iald 0 (qi_invV hc_tt M_R_findRest 1 6 (qi_istore 2 (qi_push (nI 0) (qi_istore 3 (qi_push (nI 0) (qi_istore 4 (J 23)))))))))))) lv st h
theorem sn_R_binds_7 {Ph : Nat → State → Prop} {h0 hf : hc_H} {r : Option Value} : qk Ph M_R_binds h0 hf r 7 (vc_R_binds_7 r hf (cx Ph M_R_binds h0 hf r)) := (qs_aload_n d_R_binds_7 rfl (qs_aload_n d_R_binds_8 rfl (qs_get d_R_binds_9 ff_R_13 (qs_iconst d_R_binds_12 (by decide) (qs_iaload d_R_binds_13 (qs_invV hc_Ph_tt (fun _ _ _ => trivial) d_R_binds_14 zz_R_findRest wk_1050 ⟨wk_1052, wk_41⟩ ⟨_, rfl, rfl⟩ ⟨by decide, by decide⟩ (qs_istore_n d_R_binds_17 rfl (by decide) (qs_iconst d_R_binds_18 (by decide) (qs_istore_n d_R_binds_19 rfl (by decide) (qs_iconst d_R_binds_20 (by decide) (qs_istore d_R_binds_21 (by decide) (fun _ _ _ h9 => h9))))))))))))
def vc_R_binds_0 (r : Option Value) (hf : hc_H) (J : Nat → hc_K) (lv : hc_L) (st : List Value) (h : hc_H) : Prop := (qi_iload 1 (qi_push (-1) (qi_icmp_ge (vc_R_binds_7 r hf J) (qi_push (-1) (qi_iret r hf))))) lv st h
theorem sn_R_binds_0 {Ph : Nat → State → Prop} {h0 hf : hc_H} {r : Option Value} : qk Ph M_R_binds h0 hf r 0 (vc_R_binds_0 r hf (cx Ph M_R_binds h0 hf r)) := (qs_iload_n d_R_binds_0 rfl (qs_iconst d_R_binds_1 (by decide) (qs_icmp_ge (tgt := 7) d_R_binds_2 (by decide) sn_R_binds_7 (qs_iconst d_R_binds_5 (by decide) (qs_iret d_R_binds_6 rfl)))))
/-! BalancedLineModel.pairsOf(I)I -/
abbrev M_R_pairsOf : hc_M := (⟨"BalancedLineModel", "pairsOf", "(I)I"⟩, prog_8_method_63_code, 4, (some .int), 1, 22)
theorem d_R_pairsOf_0 : decode (mC M_R_pairsOf) 0 = .ok (.iconst 0, 1) := by decide +kernel
theorem d_R_pairsOf_1 : decode (mC M_R_pairsOf) 1 = .ok (.istore_n 2, 1) := by decide +kernel
theorem d_R_pairsOf_2 : decode (mC M_R_pairsOf) 2 = .ok (.iconst 0, 1) := by decide +kernel
theorem d_R_pairsOf_3 : decode (mC M_R_pairsOf) 3 = .ok (.istore_n 3, 1) := by decide +kernel
theorem d_R_pairsOf_4 : decode (mC M_R_pairsOf) 4 = .ok (.iload_n 3, 1) := by decide +kernel
theorem d_R_pairsOf_5 : decode (mC M_R_pairsOf) 5 = .ok (.aload_n 0, 1) := by decide +kernel
theorem d_R_pairsOf_6 : decode (mC M_R_pairsOf) 6 = .ok (.getfield 13, 3) := by decide +kernel
theorem d_R_pairsOf_9 : decode (mC M_R_pairsOf) 9 = .ok (.iconst 0, 1) := by decide +kernel
theorem d_R_pairsOf_10 : decode (mC M_R_pairsOf) 10 = .ok (.iaload, 1) := by decide +kernel
theorem d_R_pairsOf_11 : decode (mC M_R_pairsOf) 11 = .ok (.if_icmp .ge 23, 3) := by decide +kernel
theorem d_R_pairsOf_14 : decode (mC M_R_pairsOf) 14 = .ok (.iload_n 2, 1) := by decide +kernel
theorem d_R_pairsOf_15 : decode (mC M_R_pairsOf) 15 = .ok (.aload_n 0, 1) := by decide +kernel
theorem d_R_pairsOf_16 : decode (mC M_R_pairsOf) 16 = .ok (.getfield 13, 3) := by decide +kernel
theorem d_R_pairsOf_19 : decode (mC M_R_pairsOf) 19 = .ok (.iload_n 1, 1) := by decide +kernel
theorem d_R_pairsOf_20 : decode (mC M_R_pairsOf) 20 = .ok (.iload_n 3, 1) := by decide +kernel
theorem d_R_pairsOf_21 : decode (mC M_R_pairsOf) 21 = .ok (.iadd, 1) := by decide +kernel
theorem d_R_pairsOf_22 : decode (mC M_R_pairsOf) 22 = .ok (.iaload, 1) := by decide +kernel
theorem d_R_pairsOf_23 : decode (mC M_R_pairsOf) 23 = .ok (.invokestatic 118, 3) := by decide +kernel
theorem d_R_pairsOf_26 : decode (mC M_R_pairsOf) 26 = .ok (.iadd, 1) := by decide +kernel
theorem d_R_pairsOf_27 : decode (mC M_R_pairsOf) 27 = .ok (.istore_n 2, 1) := by decide +kernel
theorem d_R_pairsOf_28 : decode (mC M_R_pairsOf) 28 = .ok (.iinc 3 1, 3) := by decide +kernel
theorem d_R_pairsOf_31 : decode (mC M_R_pairsOf) 31 = .ok (.goto (-27), 3) := by decide +kernel
theorem d_R_pairsOf_34 : decode (mC M_R_pairsOf) 34 = .ok (.iload_n 2, 1) := by decide +kernel
theorem d_R_pairsOf_35 : decode (mC M_R_pairsOf) 35 = .ok (.iconst 2, 1) := by decide +kernel
theorem d_R_pairsOf_36 : decode (mC M_R_pairsOf) 36 = .ok (.idiv, 1) := by decide +kernel
theorem d_R_pairsOf_37 : decode (mC M_R_pairsOf) 37 = .ok (.ireturn, 1) := by decide +kernel
def vc_R_pairsOf_34 (r : Option Value) (hf : hc_H) (J : Nat → hc_K) (lv : hc_L) (st : List Value) (h : hc_H) : Prop := (qi_iload 2 (qi_push (nI 2) (qi_idiv (qi_iret r hf)))) lv st h
theorem sn_R_pairsOf_34 {Ph : Nat → State → Prop} {h0 hf : hc_H} {r : Option Value} : qk Ph M_R_pairsOf h0 hf r 34 (vc_R_pairsOf_34 r hf (cx Ph M_R_pairsOf h0 hf r)) := (qs_iload_n d_R_pairsOf_34 rfl (qs_iconst d_R_pairsOf_35 (by decide) (qs_idiv d_R_pairsOf_36 (qs_iret d_R_pairsOf_37 rfl))))
def vc_R_pairsOf_4 (r : Option Value) (hf : hc_H) (J : Nat → hc_K) (lv : hc_L) (st : List Value) (h : hc_H) : Prop := (qi_iload 3 (qi_aload 0 (qi_get 6 2 (qi_push (nI 0) (qi_iald 0 (qi_icmp_ge (vc_R_pairsOf_34 r hf J) (qi_iload 2 (qi_aload 0 (qi_get 6 2 (qi_iload 1 (qi_iload 3 (qi_iadd (qi_iald 0 (qi_invS hc_tt M_R_ones 1 (qi_iadd (qi_istore 2 (qi_iinc 3 (nI 1) (J 4)))))))))))))))))) lv st h
theorem sn_R_pairsOf_4 {Ph : Nat → State → Prop} {h0 hf : hc_H} {r : Option Value} : qk Ph M_R_pairsOf h0 hf r 4 (vc_R_pairsOf_4 r hf (cx Ph M_R_pairsOf h0 hf r)) := (qs_iload_n d_R_pairsOf_4 rfl (qs_aload_n d_R_pairsOf_5 rfl (qs_get d_R_pairsOf_6 ff_R_13 (qs_iconst d_R_pairsOf_9 (by decide) (qs_iaload d_R_pairsOf_10 (qs_icmp_ge (tgt := 34) d_R_pairsOf_11 (by decide) sn_R_pairsOf_34 (qs_iload_n d_R_pairsOf_14 rfl (qs_aload_n d_R_pairsOf_15 rfl (qs_get d_R_pairsOf_16 ff_R_13 (qs_iload_n d_R_pairsOf_19 rfl (qs_iload_n d_R_pairsOf_20 rfl (qs_iadd d_R_pairsOf_21 (qs_iaload d_R_pairsOf_22 (qs_invS hc_Ph_tt (fun _ _ _ => trivial) d_R_pairsOf_23 zz_R_ones wk_1005 wk_1006 ⟨by decide, by decide⟩ (qs_iadd d_R_pairsOf_26 (qs_istore_n d_R_pairsOf_27 rfl (by decide) (qs_iinc d_R_pairsOf_28 (by decide) (by decide) (qs_goto (tgt := 4) d_R_pairsOf_31 (by decide) (fun _ _ _ h9 => h9)))))))))))))))))))
def vc_R_pairsOf_0 (r : Option Value) (hf : hc_H) (J : Nat → hc_K) (lv : hc_L) (st : List Value) (h : hc_H) : Prop := (qi_push (nI 0) (qi_istore 2 (qi_push (nI 0) (qi_istore 3 (J 4))))) lv st h
theorem sn_R_pairsOf_0 {Ph : Nat → State → Prop} {h0 hf : hc_H} {r : Option Value} : qk Ph M_R_pairsOf h0 hf r 0 (vc_R_pairsOf_0 r hf (cx Ph M_R_pairsOf h0 hf r)) := (qs_iconst d_R_pairsOf_0 (by decide) (qs_istore_n d_R_pairsOf_1 rfl (by decide) (qs_iconst d_R_pairsOf_2 (by decide) (qs_istore_n d_R_pairsOf_3 rfl (by decide) (fun _ _ _ h9 => h9)))))
/-! BalancedLineModel.hand(I)I -/
abbrev M_R_hand : hc_M := (⟨"BalancedLineModel", "hand", "(I)I"⟩, prog_8_method_64_code, 6, (some .int), 2, 44)
theorem d_R_hand_0 : decode (mC M_R_hand) 0 = .ok (.iconst 0, 1) := by decide +kernel
theorem d_R_hand_1 : decode (mC M_R_hand) 1 = .ok (.istore_n 2, 1) := by decide +kernel
theorem d_R_hand_2 : decode (mC M_R_hand) 2 = .ok (.iconst 0, 1) := by decide +kernel
theorem d_R_hand_3 : decode (mC M_R_hand) 3 = .ok (.istore_n 3, 1) := by decide +kernel
theorem d_R_hand_4 : decode (mC M_R_hand) 4 = .ok (.iconst 1, 1) := by decide +kernel
theorem d_R_hand_5 : decode (mC M_R_hand) 5 = .ok (.istore 4, 2) := by decide +kernel
theorem d_R_hand_7 : decode (mC M_R_hand) 7 = .ok (.iload 4, 2) := by decide +kernel
theorem d_R_hand_9 : decode (mC M_R_hand) 9 = .ok (.bipush 12, 2) := by decide +kernel
theorem d_R_hand_11 : decode (mC M_R_hand) 11 = .ok (.if_icmp .gt 55, 3) := by decide +kernel
theorem d_R_hand_14 : decode (mC M_R_hand) 14 = .ok (.aload_n 0, 1) := by decide +kernel
theorem d_R_hand_15 : decode (mC M_R_hand) 15 = .ok (.iload 4, 2) := by decide +kernel
theorem d_R_hand_17 : decode (mC M_R_hand) 17 = .ok (.invokevirtual 138, 3) := by decide +kernel
theorem d_R_hand_20 : decode (mC M_R_hand) 20 = .ok (.istore 5, 2) := by decide +kernel
theorem d_R_hand_22 : decode (mC M_R_hand) 22 = .ok (.iload_n 2, 1) := by decide +kernel
theorem d_R_hand_23 : decode (mC M_R_hand) 23 = .ok (.iload 5, 2) := by decide +kernel
theorem d_R_hand_25 : decode (mC M_R_hand) 25 = .ok (.ifCond .eq 7, 3) := by decide +kernel
theorem d_R_hand_28 : decode (mC M_R_hand) 28 = .ok (.iconst 1, 1) := by decide +kernel
theorem d_R_hand_29 : decode (mC M_R_hand) 29 = .ok (.goto 4, 3) := by decide +kernel
theorem d_R_hand_32 : decode (mC M_R_hand) 32 = .ok (.iconst 0, 1) := by decide +kernel
theorem d_R_hand_33 : decode (mC M_R_hand) 33 = .ok (.iadd, 1) := by decide +kernel
theorem d_R_hand_34 : decode (mC M_R_hand) 34 = .ok (.istore_n 2, 1) := by decide +kernel
theorem d_R_hand_35 : decode (mC M_R_hand) 35 = .ok (.iload_n 3, 1) := by decide +kernel
theorem d_R_hand_36 : decode (mC M_R_hand) 36 = .ok (.iload 5, 2) := by decide +kernel
theorem d_R_hand_38 : decode (mC M_R_hand) 38 = .ok (.ifCond .eq 19, 3) := by decide +kernel
theorem d_R_hand_41 : decode (mC M_R_hand) 41 = .ok (.aload_n 0, 1) := by decide +kernel
theorem d_R_hand_42 : decode (mC M_R_hand) 42 = .ok (.getfield 13, 3) := by decide +kernel
theorem d_R_hand_45 : decode (mC M_R_hand) 45 = .ok (.iconst 1, 1) := by decide +kernel
theorem d_R_hand_46 : decode (mC M_R_hand) 46 = .ok (.iaload, 1) := by decide +kernel
theorem d_R_hand_47 : decode (mC M_R_hand) 47 = .ok (.aload_n 0, 1) := by decide +kernel
theorem d_R_hand_48 : decode (mC M_R_hand) 48 = .ok (.iload 5, 2) := by decide +kernel
theorem d_R_hand_50 : decode (mC M_R_hand) 50 = .ok (.invokevirtual 141, 3) := by decide +kernel
theorem d_R_hand_53 : decode (mC M_R_hand) 53 = .ok (.isub, 1) := by decide +kernel
theorem d_R_hand_54 : decode (mC M_R_hand) 54 = .ok (.goto 4, 3) := by decide +kernel
theorem d_R_hand_57 : decode (mC M_R_hand) 57 = .ok (.iconst 0, 1) := by decide +kernel
theorem d_R_hand_58 : decode (mC M_R_hand) 58 = .ok (.iadd, 1) := by decide +kernel
theorem d_R_hand_59 : decode (mC M_R_hand) 59 = .ok (.istore_n 3, 1) := by decide +kernel
theorem d_R_hand_60 : decode (mC M_R_hand) 60 = .ok (.iinc 4 1, 3) := by decide +kernel
theorem d_R_hand_63 : decode (mC M_R_hand) 63 = .ok (.goto (-56), 3) := by decide +kernel
theorem d_R_hand_66 : decode (mC M_R_hand) 66 = .ok (.iload_n 1, 1) := by decide +kernel
theorem d_R_hand_67 : decode (mC M_R_hand) 67 = .ok (.bipush 6, 2) := by decide +kernel
theorem d_R_hand_69 : decode (mC M_R_hand) 69 = .ok (.if_icmp .ne 7, 3) := by decide +kernel
theorem d_R_hand_72 : decode (mC M_R_hand) 72 = .ok (.iload_n 2, 1) := by decide +kernel
theorem d_R_hand_73 : decode (mC M_R_hand) 73 = .ok (.goto 4, 3) := by decide +kernel
theorem d_R_hand_76 : decode (mC M_R_hand) 76 = .ok (.iload_n 3, 1) := by decide +kernel
theorem d_R_hand_77 : decode (mC M_R_hand) 77 = .ok (.ireturn, 1) := by decide +kernel
def vc_R_hand_77 (r : Option Value) (hf : hc_H) (J : Nat → hc_K) (lv : hc_L) (st : List Value) (h : hc_H) : Prop := (qi_iret r hf) lv st h
theorem sn_R_hand_77 {Ph : Nat → State → Prop} {h0 hf : hc_H} {r : Option Value} : qk Ph M_R_hand h0 hf r 77 (vc_R_hand_77 r hf (cx Ph M_R_hand h0 hf r)) := (qs_iret d_R_hand_77 rfl)
def vc_R_hand_76 (r : Option Value) (hf : hc_H) (J : Nat → hc_K) (lv : hc_L) (st : List Value) (h : hc_H) : Prop := (qi_iload 3 (vc_R_hand_77 r hf J)) lv st h
theorem sn_R_hand_76 {Ph : Nat → State → Prop} {h0 hf : hc_H} {r : Option Value} : qk Ph M_R_hand h0 hf r 76 (vc_R_hand_76 r hf (cx Ph M_R_hand h0 hf r)) := (qs_iload_n d_R_hand_76 rfl sn_R_hand_77)
def vc_R_hand_66 (r : Option Value) (hf : hc_H) (J : Nat → hc_K) (lv : hc_L) (st : List Value) (h : hc_H) : Prop := (qi_iload 1 (qi_push (nI 6) (qi_icmp_ne (vc_R_hand_76 r hf J) (qi_iload 2 (vc_R_hand_77 r hf J))))) lv st h
theorem sn_R_hand_66 {Ph : Nat → State → Prop} {h0 hf : hc_H} {r : Option Value} : qk Ph M_R_hand h0 hf r 66 (vc_R_hand_66 r hf (cx Ph M_R_hand h0 hf r)) := (qs_iload_n d_R_hand_66 rfl (qs_bipush d_R_hand_67 (by decide) (qs_icmp_ne (tgt := 76) d_R_hand_69 (by decide) sn_R_hand_76 (qs_iload_n d_R_hand_72 rfl (qs_goto (tgt := 77) d_R_hand_73 (by decide) sn_R_hand_77)))))
def vc_R_hand_58 (r : Option Value) (hf : hc_H) (J : Nat → hc_K) (lv : hc_L) (st : List Value) (h : hc_H) : Prop := (qi_iadd (qi_istore 3 (qi_iinc 4 (nI 1) (J 7)))) lv st h
theorem sn_R_hand_58 {Ph : Nat → State → Prop} {h0 hf : hc_H} {r : Option Value} : qk Ph M_R_hand h0 hf r 58 (vc_R_hand_58 r hf (cx Ph M_R_hand h0 hf r)) := (qs_iadd d_R_hand_58 (qs_istore_n d_R_hand_59 rfl (by decide) (qs_iinc d_R_hand_60 (by decide) (by decide) (qs_goto (tgt := 7) d_R_hand_63 (by decide) (fun _ _ _ h9 => h9)))))
def vc_R_hand_57 (r : Option Value) (hf : hc_H) (J : Nat → hc_K) (lv : hc_L) (st : List Value) (h : hc_H) : Prop := (qi_push (nI 0) (vc_R_hand_58 r hf J)) lv st h
theorem sn_R_hand_57 {Ph : Nat → State → Prop} {h0 hf : hc_H} {r : Option Value} : qk Ph M_R_hand h0 hf r 57 (vc_R_hand_57 r hf (cx Ph M_R_hand h0 hf r)) := (qs_iconst d_R_hand_57 (by decide) sn_R_hand_58)
def vc_R_hand_33 (r : Option Value) (hf : hc_H) (J : Nat → hc_K) (lv : hc_L) (st : List Value) (h : hc_H) : Prop := (qi_iadd (qi_istore 2 (qi_iload 3 (qi_iload 5 (qi_if_eq (vc_R_hand_57 r hf J) (qi_aload 0 (qi_get 6 2 (qi_push (nI 1) (qi_iald 0 (qi_aload 0 (qi_iload 5 (qi_invV hc_tt M_R_timesOf 1 6 (qi_isub (vc_R_hand_58 r hf J)))))))))))))) lv st h
theorem sn_R_hand_33 {Ph : Nat → State → Prop} {h0 hf : hc_H} {r : Option Value} : qk Ph M_R_hand h0 hf r 33 (vc_R_hand_33 r hf (cx Ph M_R_hand h0 hf r)) := (qs_iadd d_R_hand_33 (qs_istore_n d_R_hand_34 rfl (by decide) (qs_iload_n d_R_hand_35 rfl (qs_iload d_R_hand_36 (qs_if_eq (tgt := 57) d_R_hand_38 (by decide) sn_R_hand_57 (qs_aload_n d_R_hand_41 rfl (qs_get d_R_hand_42 ff_R_13 (qs_iconst d_R_hand_45 (by decide) (qs_iaload d_R_hand_46 (qs_aload_n d_R_hand_47 rfl (qs_iload d_R_hand_48 (qs_invV hc_Ph_tt (fun _ _ _ => trivial) d_R_hand_50 zz_R_timesOf wk_980 ⟨wk_982, wk_35⟩ ⟨_, rfl, rfl⟩ ⟨by decide, by decide⟩ (qs_isub d_R_hand_53 (qs_goto (tgt := 58) d_R_hand_54 (by decide) sn_R_hand_58))))))))))))))
def vc_R_hand_32 (r : Option Value) (hf : hc_H) (J : Nat → hc_K) (lv : hc_L) (st : List Value) (h : hc_H) : Prop := (qi_push (nI 0) (vc_R_hand_33 r hf J)) lv st h
theorem sn_R_hand_32 {Ph : Nat → State → Prop} {h0 hf : hc_H} {r : Option Value} : qk Ph M_R_hand h0 hf r 32 (vc_R_hand_32 r hf (cx Ph M_R_hand h0 hf r)) := (qs_iconst d_R_hand_32 (by decide) sn_R_hand_33)
def vc_R_hand_7 (r : Option Value) (hf : hc_H) (J : Nat → hc_K) (lv : hc_L) (st : List Value) (h : hc_H) : Prop := (qi_iload 4 (qi_push (nI 12) (qi_icmp_gt (vc_R_hand_66 r hf J) (qi_aload 0 (qi_iload 4 (qi_invV hc_tt M_R_putIn 1 6 (qi_istore 5 (qi_iload 2 (qi_iload 5 (qi_if_eq (vc_R_hand_32 r hf J) (qi_push (nI 1) (vc_R_hand_33 r hf J)))))))))))) lv st h
theorem sn_R_hand_7 {Ph : Nat → State → Prop} {h0 hf : hc_H} {r : Option Value} : qk Ph M_R_hand h0 hf r 7 (vc_R_hand_7 r hf (cx Ph M_R_hand h0 hf r)) := (qs_iload d_R_hand_7 (qs_bipush d_R_hand_9 (by decide) (qs_icmp_gt (tgt := 66) d_R_hand_11 (by decide) sn_R_hand_66 (qs_aload_n d_R_hand_14 rfl (qs_iload d_R_hand_15 (qs_invV hc_Ph_tt (fun _ _ _ => trivial) d_R_hand_17 zz_R_putIn wk_976 ⟨wk_978, wk_34⟩ ⟨_, rfl, rfl⟩ ⟨by decide, by decide⟩ (qs_istore d_R_hand_20 (by decide) (qs_iload_n d_R_hand_22 rfl (qs_iload d_R_hand_23 (qs_if_eq (tgt := 32) d_R_hand_25 (by decide) sn_R_hand_32 (qs_iconst d_R_hand_28 (by decide) (qs_goto (tgt := 33) d_R_hand_29 (by decide) sn_R_hand_33))))))))))))
def vc_R_hand_0 (r : Option Value) (hf : hc_H) (J : Nat → hc_K) (lv : hc_L) (st : List Value) (h : hc_H) : Prop := (qi_push (nI 0) (qi_istore 2 (qi_push (nI 0) (qi_istore 3 (qi_push (nI 1) (qi_istore 4 (J 7))))))) lv st h
theorem sn_R_hand_0 {Ph : Nat → State → Prop} {h0 hf : hc_H} {r : Option Value} : qk Ph M_R_hand h0 hf r 0 (vc_R_hand_0 r hf (cx Ph M_R_hand h0 hf r)) := (qs_iconst d_R_hand_0 (by decide) (qs_istore_n d_R_hand_1 rfl (by decide) (qs_iconst d_R_hand_2 (by decide) (qs_istore_n d_R_hand_3 rfl (by decide) (qs_iconst d_R_hand_4 (by decide) (qs_istore d_R_hand_5 (by decide) (fun _ _ _ h9 => h9)))))))
theorem zz_R_hand : hc_z M_R_hand 1 := ⟨wk_1154, wk_66, by decide +kernel⟩
theorem zz_R_pairsOf : hc_z M_R_pairsOf 1 := ⟨wk_1150, wk_66, by decide +kernel⟩
/-! BalancedLineModel.count(I)I -/
abbrev M_R_count : hc_M := (⟨"BalancedLineModel", "count", "(I)I"⟩, prog_8_method_65_code, 3, (some .int), 7, 158)
theorem d_R_count_0 : decode (mC M_R_count) 0 = .ok (.iload_n 1, 1) := by decide +kernel
theorem d_R_count_1 : decode (mC M_R_count) 1 = .ok (.tableswitch 158 0 11 #[63, 63, 70, 75, 82, 89, 99, 105, 114, 119, 124, 99], 63) := by decide +kernel
theorem d_R_count_64 : decode (mC M_R_count) 64 = .ok (.aload_n 0, 1) := by decide +kernel
theorem d_R_count_65 : decode (mC M_R_count) 65 = .ok (.getfield 13, 3) := by decide +kernel
theorem d_R_count_68 : decode (mC M_R_count) 68 = .ok (.iload_n 1, 1) := by decide +kernel
theorem d_R_count_69 : decode (mC M_R_count) 69 = .ok (.iaload, 1) := by decide +kernel
theorem d_R_count_70 : decode (mC M_R_count) 70 = .ok (.ireturn, 1) := by decide +kernel
theorem d_R_count_71 : decode (mC M_R_count) 71 = .ok (.aload_n 0, 1) := by decide +kernel
theorem d_R_count_72 : decode (mC M_R_count) 72 = .ok (.invokevirtual 124, 3) := by decide +kernel
theorem d_R_count_75 : decode (mC M_R_count) 75 = .ok (.ireturn, 1) := by decide +kernel
theorem d_R_count_76 : decode (mC M_R_count) 76 = .ok (.aload_n 0, 1) := by decide +kernel
theorem d_R_count_77 : decode (mC M_R_count) 77 = .ok (.bipush 26, 2) := by decide +kernel
theorem d_R_count_79 : decode (mC M_R_count) 79 = .ok (.invokevirtual 191, 3) := by decide +kernel
theorem d_R_count_82 : decode (mC M_R_count) 82 = .ok (.ireturn, 1) := by decide +kernel
theorem d_R_count_83 : decode (mC M_R_count) 83 = .ok (.aload_n 0, 1) := by decide +kernel
theorem d_R_count_84 : decode (mC M_R_count) 84 = .ok (.bipush 38, 2) := by decide +kernel
theorem d_R_count_86 : decode (mC M_R_count) 86 = .ok (.invokevirtual 191, 3) := by decide +kernel
theorem d_R_count_89 : decode (mC M_R_count) 89 = .ok (.ireturn, 1) := by decide +kernel
theorem d_R_count_90 : decode (mC M_R_count) 90 = .ok (.aload_n 0, 1) := by decide +kernel
theorem d_R_count_91 : decode (mC M_R_count) 91 = .ok (.iconst 0, 1) := by decide +kernel
theorem d_R_count_92 : decode (mC M_R_count) 92 = .ok (.iconst 1, 1) := by decide +kernel
theorem d_R_count_93 : decode (mC M_R_count) 93 = .ok (.invokevirtual 135, 3) := by decide +kernel
theorem d_R_count_96 : decode (mC M_R_count) 96 = .ok (.invokestatic 118, 3) := by decide +kernel
theorem d_R_count_99 : decode (mC M_R_count) 99 = .ok (.ireturn, 1) := by decide +kernel
theorem d_R_count_100 : decode (mC M_R_count) 100 = .ok (.aload_n 0, 1) := by decide +kernel
theorem d_R_count_101 : decode (mC M_R_count) 101 = .ok (.iload_n 1, 1) := by decide +kernel
theorem d_R_count_102 : decode (mC M_R_count) 102 = .ok (.invokevirtual 194, 3) := by decide +kernel
theorem d_R_count_105 : decode (mC M_R_count) 105 = .ok (.ireturn, 1) := by decide +kernel
theorem d_R_count_106 : decode (mC M_R_count) 106 = .ok (.aload_n 0, 1) := by decide +kernel
theorem d_R_count_107 : decode (mC M_R_count) 107 = .ok (.aload_n 0, 1) := by decide +kernel
theorem d_R_count_108 : decode (mC M_R_count) 108 = .ok (.invokevirtual 146, 3) := by decide +kernel
theorem d_R_count_111 : decode (mC M_R_count) 111 = .ok (.invokevirtual 141, 3) := by decide +kernel
theorem d_R_count_114 : decode (mC M_R_count) 114 = .ok (.ireturn, 1) := by decide +kernel
theorem d_R_count_115 : decode (mC M_R_count) 115 = .ok (.aload_n 0, 1) := by decide +kernel
theorem d_R_count_116 : decode (mC M_R_count) 116 = .ok (.getfield 95, 3) := by decide +kernel
theorem d_R_count_119 : decode (mC M_R_count) 119 = .ok (.ireturn, 1) := by decide +kernel
theorem d_R_count_120 : decode (mC M_R_count) 120 = .ok (.aload_n 0, 1) := by decide +kernel
theorem d_R_count_121 : decode (mC M_R_count) 121 = .ok (.getfield 60, 3) := by decide +kernel
theorem d_R_count_124 : decode (mC M_R_count) 124 = .ok (.ireturn, 1) := by decide +kernel
theorem d_R_count_125 : decode (mC M_R_count) 125 = .ok (.aload_n 0, 1) := by decide +kernel
theorem d_R_count_126 : decode (mC M_R_count) 126 = .ok (.invokevirtual 165, 3) := by decide +kernel
theorem d_R_count_129 : decode (mC M_R_count) 129 = .ok (.istore_n 2, 1) := by decide +kernel
theorem d_R_count_130 : decode (mC M_R_count) 130 = .ok (.iload_n 2, 1) := by decide +kernel
theorem d_R_count_131 : decode (mC M_R_count) 131 = .ok (.bipush (-4), 2) := by decide +kernel
theorem d_R_count_133 : decode (mC M_R_count) 133 = .ok (.if_icmp .ne 8, 3) := by decide +kernel
theorem d_R_count_136 : decode (mC M_R_count) 136 = .ok (.bipush (-4), 2) := by decide +kernel
theorem d_R_count_138 : decode (mC M_R_count) 138 = .ok (.goto 20, 3) := by decide +kernel
theorem d_R_count_141 : decode (mC M_R_count) 141 = .ok (.iload_n 2, 1) := by decide +kernel
theorem d_R_count_142 : decode (mC M_R_count) 142 = .ok (.aload_n 0, 1) := by decide +kernel
theorem d_R_count_143 : decode (mC M_R_count) 143 = .ok (.getfield 13, 3) := by decide +kernel
theorem d_R_count_146 : decode (mC M_R_count) 146 = .ok (.iconst 1, 1) := by decide +kernel
theorem d_R_count_147 : decode (mC M_R_count) 147 = .ok (.iaload, 1) := by decide +kernel
theorem d_R_count_148 : decode (mC M_R_count) 148 = .ok (.imul, 1) := by decide +kernel
theorem d_R_count_149 : decode (mC M_R_count) 149 = .ok (.aload_n 0, 1) := by decide +kernel
theorem d_R_count_150 : decode (mC M_R_count) 150 = .ok (.aload_n 0, 1) := by decide +kernel
theorem d_R_count_151 : decode (mC M_R_count) 151 = .ok (.invokevirtual 146, 3) := by decide +kernel
theorem d_R_count_154 : decode (mC M_R_count) 154 = .ok (.invokevirtual 141, 3) := by decide +kernel
theorem d_R_count_157 : decode (mC M_R_count) 157 = .ok (.isub, 1) := by decide +kernel
theorem d_R_count_158 : decode (mC M_R_count) 158 = .ok (.ireturn, 1) := by decide +kernel
theorem d_R_count_159 : decode (mC M_R_count) 159 = .ok (.iconst (-1), 1) := by decide +kernel
theorem d_R_count_160 : decode (mC M_R_count) 160 = .ok (.ireturn, 1) := by decide +kernel
def vc_R_count_159 (r : Option Value) (hf : hc_H) (J : Nat → hc_K) (lv : hc_L) (st : List Value) (h : hc_H) : Prop := (qi_push (-1) (qi_iret r hf)) lv st h
theorem sn_R_count_159 {Ph : Nat → State → Prop} {h0 hf : hc_H} {r : Option Value} : qk Ph M_R_count h0 hf r 159 (vc_R_count_159 r hf (cx Ph M_R_count h0 hf r)) := (qs_iconst d_R_count_159 (by decide) (qs_iret d_R_count_160 rfl))
def vc_R_count_158 (r : Option Value) (hf : hc_H) (J : Nat → hc_K) (lv : hc_L) (st : List Value) (h : hc_H) : Prop := (qi_iret r hf) lv st h
theorem sn_R_count_158 {Ph : Nat → State → Prop} {h0 hf : hc_H} {r : Option Value} : qk Ph M_R_count h0 hf r 158 (vc_R_count_158 r hf (cx Ph M_R_count h0 hf r)) := (qs_iret d_R_count_158 rfl)
def vc_R_count_141 (r : Option Value) (hf : hc_H) (J : Nat → hc_K) (lv : hc_L) (st : List Value) (h : hc_H) : Prop := (qi_iload 2 (qi_aload 0 (qi_get 6 2 (qi_push (nI 1) (qi_iald 0 (qi_imul (qi_aload 0 (qi_aload 0 (qi_invV hc_tt M_R_all 0 6 (qi_invV hc_tt M_R_timesOf 1 6 (qi_isub (vc_R_count_158 r hf J)))))))))))) lv st h
theorem sn_R_count_141 {Ph : Nat → State → Prop} {h0 hf : hc_H} {r : Option Value} : qk Ph M_R_count h0 hf r 141 (vc_R_count_141 r hf (cx Ph M_R_count h0 hf r)) := (qs_iload_n d_R_count_141 rfl (qs_aload_n d_R_count_142 rfl (qs_get d_R_count_143 ff_R_13 (qs_iconst d_R_count_146 (by decide) (qs_iaload d_R_count_147 (qs_imul d_R_count_148 (qs_aload_n d_R_count_149 rfl (qs_aload_n d_R_count_150 rfl (qs_invV hc_Ph_tt (fun _ _ _ => trivial) d_R_count_151 zz_R_all wk_1058 ⟨wk_1060, wk_43⟩ ⟨_, rfl, rfl⟩ ⟨by decide, by decide⟩ (qs_invV hc_Ph_tt (fun _ _ _ => trivial) d_R_count_154 zz_R_timesOf wk_980 ⟨wk_982, wk_35⟩ ⟨_, rfl, rfl⟩ ⟨by decide, by decide⟩ (qs_isub d_R_count_157 sn_R_count_158)))))))))))
def vc_R_count_125 (r : Option Value) (hf : hc_H) (J : Nat → hc_K) (lv : hc_L) (st : List Value) (h : hc_H) : Prop := (qi_aload 0 (qi_invV hc_tt M_R_fewest 0 6 (qi_istore 2 (qi_iload 2 (qi_push (-4) (qi_icmp_ne (vc_R_count_141 r hf J) (qi_push (-4) (vc_R_count_158 r hf J)))))))) lv st h
theorem sn_R_count_125 {Ph : Nat → State → Prop} {h0 hf : hc_H} {r : Option Value} : qk Ph M_R_count h0 hf r 125 (vc_R_count_125 r hf (cx Ph M_R_count h0 hf r)) := (qs_aload_n d_R_count_125 rfl (qs_invV hc_Ph_tt (fun _ _ _ => trivial) d_R_count_126 zz_R_fewest wk_1078 ⟨wk_1043, wk_1044⟩ ⟨_, rfl, rfl⟩ ⟨by decide, by decide⟩ (qs_istore_n d_R_count_129 rfl (by decide) (qs_iload_n d_R_count_130 rfl (qs_bipush d_R_count_131 (by decide) (qs_icmp_ne (tgt := 141) d_R_count_133 (by decide) sn_R_count_141 (qs_bipush d_R_count_136 (by decide) (qs_goto (tgt := 158) d_R_count_138 (by decide) sn_R_count_158))))))))
def vc_R_count_120 (r : Option Value) (hf : hc_H) (J : Nat → hc_K) (lv : hc_L) (st : List Value) (h : hc_H) : Prop := (qi_aload 0 (qi_get 6 0 (qi_iret r hf))) lv st h
theorem sn_R_count_120 {Ph : Nat → State → Prop} {h0 hf : hc_H} {r : Option Value} : qk Ph M_R_count h0 hf r 120 (vc_R_count_120 r hf (cx Ph M_R_count h0 hf r)) := (qs_aload_n d_R_count_120 rfl (qs_get d_R_count_121 ff_R_60 (qs_iret d_R_count_124 rfl)))
def vc_R_count_115 (r : Option Value) (hf : hc_H) (J : Nat → hc_K) (lv : hc_L) (st : List Value) (h : hc_H) : Prop := (qi_aload 0 (qi_get 6 4 (qi_iret r hf))) lv st h
theorem sn_R_count_115 {Ph : Nat → State → Prop} {h0 hf : hc_H} {r : Option Value} : qk Ph M_R_count h0 hf r 115 (vc_R_count_115 r hf (cx Ph M_R_count h0 hf r)) := (qs_aload_n d_R_count_115 rfl (qs_get d_R_count_116 ff_R_95 (qs_iret d_R_count_119 rfl)))
def vc_R_count_106 (r : Option Value) (hf : hc_H) (J : Nat → hc_K) (lv : hc_L) (st : List Value) (h : hc_H) : Prop := (qi_aload 0 (qi_aload 0 (qi_invV hc_tt M_R_all 0 6 (qi_invV hc_tt M_R_timesOf 1 6 (qi_iret r hf))))) lv st h
theorem sn_R_count_106 {Ph : Nat → State → Prop} {h0 hf : hc_H} {r : Option Value} : qk Ph M_R_count h0 hf r 106 (vc_R_count_106 r hf (cx Ph M_R_count h0 hf r)) := (qs_aload_n d_R_count_106 rfl (qs_aload_n d_R_count_107 rfl (qs_invV hc_Ph_tt (fun _ _ _ => trivial) d_R_count_108 zz_R_all wk_1058 ⟨wk_1060, wk_43⟩ ⟨_, rfl, rfl⟩ ⟨by decide, by decide⟩ (qs_invV hc_Ph_tt (fun _ _ _ => trivial) d_R_count_111 zz_R_timesOf wk_980 ⟨wk_982, wk_35⟩ ⟨_, rfl, rfl⟩ ⟨by decide, by decide⟩ (qs_iret d_R_count_114 rfl)))))
def vc_R_count_100 (r : Option Value) (hf : hc_H) (J : Nat → hc_K) (lv : hc_L) (st : List Value) (h : hc_H) : Prop := (qi_aload 0 (qi_iload 1 (qi_invV hc_tt M_R_hand 1 6 (qi_iret r hf)))) lv st h
theorem sn_R_count_100 {Ph : Nat → State → Prop} {h0 hf : hc_H} {r : Option Value} : qk Ph M_R_count h0 hf r 100 (vc_R_count_100 r hf (cx Ph M_R_count h0 hf r)) := (qs_aload_n d_R_count_100 rfl (qs_iload_n d_R_count_101 rfl (qs_invV hc_Ph_tt (fun _ _ _ => trivial) d_R_count_102 zz_R_hand wk_1151 ⟨wk_1153, wk_52⟩ ⟨_, rfl, rfl⟩ ⟨by decide, by decide⟩ (qs_iret d_R_count_105 rfl))))
def vc_R_count_90 (r : Option Value) (hf : hc_H) (J : Nat → hc_K) (lv : hc_L) (st : List Value) (h : hc_H) : Prop := (qi_aload 0 (qi_push (nI 0) (qi_push (nI 1) (qi_invV hc_tt M_R_putBy 2 6 (qi_invS hc_tt M_R_ones 1 (qi_iret r hf)))))) lv st h
theorem sn_R_count_90 {Ph : Nat → State → Prop} {h0 hf : hc_H} {r : Option Value} : qk Ph M_R_count h0 hf r 90 (vc_R_count_90 r hf (cx Ph M_R_count h0 hf r)) := (qs_aload_n d_R_count_90 rfl (qs_iconst d_R_count_91 (by decide) (qs_iconst d_R_count_92 (by decide) (qs_invV hc_Ph_tt (fun _ _ _ => trivial) d_R_count_93 zz_R_putBy wk_968 ⟨wk_970, wk_32⟩ ⟨_, rfl, rfl⟩ ⟨by decide, by decide⟩ (qs_invS hc_Ph_tt (fun _ _ _ => trivial) d_R_count_96 zz_R_ones wk_1005 wk_1006 ⟨by decide, by decide⟩ (qs_iret d_R_count_99 rfl))))))
def vc_R_count_83 (r : Option Value) (hf : hc_H) (J : Nat → hc_K) (lv : hc_L) (st : List Value) (h : hc_H) : Prop := (qi_aload 0 (qi_push (nI 38) (qi_invV hc_tt M_R_pairsOf 1 6 (qi_iret r hf)))) lv st h
theorem sn_R_count_83 {Ph : Nat → State → Prop} {h0 hf : hc_H} {r : Option Value} : qk Ph M_R_count h0 hf r 83 (vc_R_count_83 r hf (cx Ph M_R_count h0 hf r)) := (qs_aload_n d_R_count_83 rfl (qs_bipush d_R_count_84 (by decide) (qs_invV hc_Ph_tt (fun _ _ _ => trivial) d_R_count_86 zz_R_pairsOf wk_1147 ⟨wk_1149, wk_51⟩ ⟨_, rfl, rfl⟩ ⟨by decide, by decide⟩ (qs_iret d_R_count_89 rfl))))
def vc_R_count_76 (r : Option Value) (hf : hc_H) (J : Nat → hc_K) (lv : hc_L) (st : List Value) (h : hc_H) : Prop := (qi_aload 0 (qi_push (nI 26) (qi_invV hc_tt M_R_pairsOf 1 6 (qi_iret r hf)))) lv st h
theorem sn_R_count_76 {Ph : Nat → State → Prop} {h0 hf : hc_H} {r : Option Value} : qk Ph M_R_count h0 hf r 76 (vc_R_count_76 r hf (cx Ph M_R_count h0 hf r)) := (qs_aload_n d_R_count_76 rfl (qs_bipush d_R_count_77 (by decide) (qs_invV hc_Ph_tt (fun _ _ _ => trivial) d_R_count_79 zz_R_pairsOf wk_1147 ⟨wk_1149, wk_51⟩ ⟨_, rfl, rfl⟩ ⟨by decide, by decide⟩ (qs_iret d_R_count_82 rfl))))
def vc_R_count_71 (r : Option Value) (hf : hc_H) (J : Nat → hc_K) (lv : hc_L) (st : List Value) (h : hc_H) : Prop := (qi_aload 0 (qi_invV hc_tt M_R_ordersMany 0 6 (qi_iret r hf))) lv st h
theorem sn_R_count_71 {Ph : Nat → State → Prop} {h0 hf : hc_H} {r : Option Value} : qk Ph M_R_count h0 hf r 71 (vc_R_count_71 r hf (cx Ph M_R_count h0 hf r)) := (qs_aload_n d_R_count_71 rfl (qs_invV hc_Ph_tt (fun _ _ _ => trivial) d_R_count_72 zz_R_ordersMany wk_1001 ⟨wk_1003, wk_38⟩ ⟨_, rfl, rfl⟩ ⟨by decide, by decide⟩ (qs_iret d_R_count_75 rfl)))
def vc_R_count_64 (r : Option Value) (hf : hc_H) (J : Nat → hc_K) (lv : hc_L) (st : List Value) (h : hc_H) : Prop := (qi_aload 0 (qi_get 6 2 (qi_iload 1 (qi_iald 0 (qi_iret r hf))))) lv st h
theorem sn_R_count_64 {Ph : Nat → State → Prop} {h0 hf : hc_H} {r : Option Value} : qk Ph M_R_count h0 hf r 64 (vc_R_count_64 r hf (cx Ph M_R_count h0 hf r)) := (qs_aload_n d_R_count_64 rfl (qs_get d_R_count_65 ff_R_13 (qs_iload_n d_R_count_68 rfl (qs_iaload d_R_count_69 (qs_iret d_R_count_70 rfl)))))
def vc_R_count_0 (r : Option Value) (hf : hc_H) (J : Nat → hc_K) (lv : hc_L) (st : List Value) (h : hc_H) : Prop := (qi_iload 1 (qi_sw (vc_R_count_159 r hf J) [((nI 0), (vc_R_count_64 r hf J)), ((nI 1), (vc_R_count_64 r hf J)), ((nI 2), (vc_R_count_71 r hf J)), ((nI 3), (vc_R_count_76 r hf J)), ((nI 4), (vc_R_count_83 r hf J)), ((nI 5), (vc_R_count_90 r hf J)), ((nI 6), (vc_R_count_100 r hf J)), ((nI 7), (vc_R_count_106 r hf J)), ((nI 8), (vc_R_count_115 r hf J)), ((nI 9), (vc_R_count_120 r hf J)), ((nI 10), (vc_R_count_125 r hf J)), ((nI 11), (vc_R_count_100 r hf J))])) lv st h
theorem sn_R_count_0 {Ph : Nat → State → Prop} {h0 hf : hc_H} {r : Option Value} : qk Ph M_R_count h0 hf r 0 (vc_R_count_0 r hf (cx Ph M_R_count h0 hf r)) := (qs_iload_n d_R_count_0 rfl (qs_table (tgt := 159) d_R_count_1 rfl (by decide) ⟨by decide, ⟨64, by decide, sn_R_count_64⟩, ⟨by decide, ⟨64, by decide, sn_R_count_64⟩, ⟨by decide, ⟨71, by decide, sn_R_count_71⟩, ⟨by decide, ⟨76, by decide, sn_R_count_76⟩, ⟨by decide, ⟨83, by decide, sn_R_count_83⟩, ⟨by decide, ⟨90, by decide, sn_R_count_90⟩, ⟨by decide, ⟨100, by decide, sn_R_count_100⟩, ⟨by decide, ⟨106, by decide, sn_R_count_106⟩, ⟨by decide, ⟨115, by decide, sn_R_count_115⟩, ⟨by decide, ⟨120, by decide, sn_R_count_120⟩, ⟨by decide, ⟨125, by decide, sn_R_count_125⟩, ⟨by decide, ⟨100, by decide, sn_R_count_100⟩, trivial⟩⟩⟩⟩⟩⟩⟩⟩⟩⟩⟩⟩ (by decide) sn_R_count_159))
