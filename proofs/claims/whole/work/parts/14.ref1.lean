/-! BalancedLineModel.pairs([IIIIZ)V -/
abbrev M_R_pairs : hc_M := (⟨"BalancedLineModel", "pairs", "([IIIIZ)V"⟩, prog_8_method_5_code, 5, none, 0, 0)
theorem d_R_pairs_0 : decode (mC M_R_pairs) 0 = .ok (.aload_n 0, 1) := by decide +kernel
theorem d_R_pairs_1 : decode (mC M_R_pairs) 1 = .ok (.iload_n 1, 1) := by decide +kernel
theorem d_R_pairs_2 : decode (mC M_R_pairs) 2 = .ok (.iload_n 2, 1) := by decide +kernel
theorem d_R_pairs_3 : decode (mC M_R_pairs) 3 = .ok (.iadd, 1) := by decide +kernel
theorem d_R_pairs_4 : decode (mC M_R_pairs) 4 = .ok (.iload 4, 2) := by decide +kernel
theorem d_R_pairs_6 : decode (mC M_R_pairs) 6 = .ok (.ifCond .eq 15, 3) := by decide +kernel
theorem d_R_pairs_9 : decode (mC M_R_pairs) 9 = .ok (.aload_n 0, 1) := by decide +kernel
theorem d_R_pairs_10 : decode (mC M_R_pairs) 10 = .ok (.iload_n 1, 1) := by decide +kernel
theorem d_R_pairs_11 : decode (mC M_R_pairs) 11 = .ok (.iload_n 2, 1) := by decide +kernel
theorem d_R_pairs_12 : decode (mC M_R_pairs) 12 = .ok (.iadd, 1) := by decide +kernel
theorem d_R_pairs_13 : decode (mC M_R_pairs) 13 = .ok (.iaload, 1) := by decide +kernel
theorem d_R_pairs_14 : decode (mC M_R_pairs) 14 = .ok (.iconst 1, 1) := by decide +kernel
theorem d_R_pairs_15 : decode (mC M_R_pairs) 15 = .ok (.iload_n 3, 1) := by decide +kernel
theorem d_R_pairs_16 : decode (mC M_R_pairs) 16 = .ok (.ishl, 1) := by decide +kernel
theorem d_R_pairs_17 : decode (mC M_R_pairs) 17 = .ok (.ior, 1) := by decide +kernel
theorem d_R_pairs_18 : decode (mC M_R_pairs) 18 = .ok (.goto 14, 3) := by decide +kernel
theorem d_R_pairs_21 : decode (mC M_R_pairs) 21 = .ok (.aload_n 0, 1) := by decide +kernel
theorem d_R_pairs_22 : decode (mC M_R_pairs) 22 = .ok (.iload_n 1, 1) := by decide +kernel
theorem d_R_pairs_23 : decode (mC M_R_pairs) 23 = .ok (.iload_n 2, 1) := by decide +kernel
theorem d_R_pairs_24 : decode (mC M_R_pairs) 24 = .ok (.iadd, 1) := by decide +kernel
theorem d_R_pairs_25 : decode (mC M_R_pairs) 25 = .ok (.iaload, 1) := by decide +kernel
theorem d_R_pairs_26 : decode (mC M_R_pairs) 26 = .ok (.iconst 1, 1) := by decide +kernel
theorem d_R_pairs_27 : decode (mC M_R_pairs) 27 = .ok (.iload_n 3, 1) := by decide +kernel
theorem d_R_pairs_28 : decode (mC M_R_pairs) 28 = .ok (.ishl, 1) := by decide +kernel
theorem d_R_pairs_29 : decode (mC M_R_pairs) 29 = .ok (.iconst (-1), 1) := by decide +kernel
theorem d_R_pairs_30 : decode (mC M_R_pairs) 30 = .ok (.ixor, 1) := by decide +kernel
theorem d_R_pairs_31 : decode (mC M_R_pairs) 31 = .ok (.iand, 1) := by decide +kernel
theorem d_R_pairs_32 : decode (mC M_R_pairs) 32 = .ok (.iastore, 1) := by decide +kernel
theorem d_R_pairs_33 : decode (mC M_R_pairs) 33 = .ok (.aload_n 0, 1) := by decide +kernel
theorem d_R_pairs_34 : decode (mC M_R_pairs) 34 = .ok (.iload_n 1, 1) := by decide +kernel
theorem d_R_pairs_35 : decode (mC M_R_pairs) 35 = .ok (.iload_n 3, 1) := by decide +kernel
theorem d_R_pairs_36 : decode (mC M_R_pairs) 36 = .ok (.iadd, 1) := by decide +kernel
theorem d_R_pairs_37 : decode (mC M_R_pairs) 37 = .ok (.iload 4, 2) := by decide +kernel
theorem d_R_pairs_39 : decode (mC M_R_pairs) 39 = .ok (.ifCond .eq 15, 3) := by decide +kernel
theorem d_R_pairs_42 : decode (mC M_R_pairs) 42 = .ok (.aload_n 0, 1) := by decide +kernel
theorem d_R_pairs_43 : decode (mC M_R_pairs) 43 = .ok (.iload_n 1, 1) := by decide +kernel
theorem d_R_pairs_44 : decode (mC M_R_pairs) 44 = .ok (.iload_n 3, 1) := by decide +kernel
theorem d_R_pairs_45 : decode (mC M_R_pairs) 45 = .ok (.iadd, 1) := by decide +kernel
theorem d_R_pairs_46 : decode (mC M_R_pairs) 46 = .ok (.iaload, 1) := by decide +kernel
theorem d_R_pairs_47 : decode (mC M_R_pairs) 47 = .ok (.iconst 1, 1) := by decide +kernel
theorem d_R_pairs_48 : decode (mC M_R_pairs) 48 = .ok (.iload_n 2, 1) := by decide +kernel
theorem d_R_pairs_49 : decode (mC M_R_pairs) 49 = .ok (.ishl, 1) := by decide +kernel
theorem d_R_pairs_50 : decode (mC M_R_pairs) 50 = .ok (.ior, 1) := by decide +kernel
theorem d_R_pairs_51 : decode (mC M_R_pairs) 51 = .ok (.goto 14, 3) := by decide +kernel
theorem d_R_pairs_54 : decode (mC M_R_pairs) 54 = .ok (.aload_n 0, 1) := by decide +kernel
theorem d_R_pairs_55 : decode (mC M_R_pairs) 55 = .ok (.iload_n 1, 1) := by decide +kernel
theorem d_R_pairs_56 : decode (mC M_R_pairs) 56 = .ok (.iload_n 3, 1) := by decide +kernel
theorem d_R_pairs_57 : decode (mC M_R_pairs) 57 = .ok (.iadd, 1) := by decide +kernel
theorem d_R_pairs_58 : decode (mC M_R_pairs) 58 = .ok (.iaload, 1) := by decide +kernel
theorem d_R_pairs_59 : decode (mC M_R_pairs) 59 = .ok (.iconst 1, 1) := by decide +kernel
theorem d_R_pairs_60 : decode (mC M_R_pairs) 60 = .ok (.iload_n 2, 1) := by decide +kernel
theorem d_R_pairs_61 : decode (mC M_R_pairs) 61 = .ok (.ishl, 1) := by decide +kernel
theorem d_R_pairs_62 : decode (mC M_R_pairs) 62 = .ok (.iconst (-1), 1) := by decide +kernel
theorem d_R_pairs_63 : decode (mC M_R_pairs) 63 = .ok (.ixor, 1) := by decide +kernel
theorem d_R_pairs_64 : decode (mC M_R_pairs) 64 = .ok (.iand, 1) := by decide +kernel
theorem d_R_pairs_65 : decode (mC M_R_pairs) 65 = .ok (.iastore, 1) := by decide +kernel
theorem d_R_pairs_66 : decode (mC M_R_pairs) 66 = .ok (.return_, 1) := by decide +kernel
def vc_R_pairs_65 (r : Option Value) (hf : hc_H) (J : Nat → hc_K) (lv : hc_L) (st : List Value) (h : hc_H) : Prop := (qi_iast (qi_vret r hf)) lv st h
theorem sn_R_pairs_65 {Ph : Nat → State → Prop} {h0 hf : hc_H} {r : Option Value} : qk Ph M_R_pairs h0 hf r 65 (vc_R_pairs_65 r hf (cx Ph M_R_pairs h0 hf r)) := (qs_iastore d_R_pairs_65 (qs_vret d_R_pairs_66 rfl))
def vc_R_pairs_54 (r : Option Value) (hf : hc_H) (J : Nat → hc_K) (lv : hc_L) (st : List Value) (h : hc_H) : Prop := (qi_aload 0 (qi_iload 1 (qi_iload 3 (qi_iadd (qi_iald 0 (qi_push (nI 1) (qi_iload 2 (qi_ishl (qi_push (-1) (qi_ixor (qi_iand (vc_R_pairs_65 r hf J)))))))))))) lv st h
theorem sn_R_pairs_54 {Ph : Nat → State → Prop} {h0 hf : hc_H} {r : Option Value} : qk Ph M_R_pairs h0 hf r 54 (vc_R_pairs_54 r hf (cx Ph M_R_pairs h0 hf r)) := (qs_aload_n d_R_pairs_54 rfl (qs_iload_n d_R_pairs_55 rfl (qs_iload_n d_R_pairs_56 rfl (qs_iadd d_R_pairs_57 (qs_iaload d_R_pairs_58 (qs_iconst d_R_pairs_59 (by decide) (qs_iload_n d_R_pairs_60 rfl (qs_ishl d_R_pairs_61 (qs_iconst d_R_pairs_62 (by decide) (qs_ixor d_R_pairs_63 (qs_iand d_R_pairs_64 sn_R_pairs_65)))))))))))
def vc_R_pairs_32 (r : Option Value) (hf : hc_H) (J : Nat → hc_K) (lv : hc_L) (st : List Value) (h : hc_H) : Prop := (qi_iast (qi_aload 0 (qi_iload 1 (qi_iload 3 (qi_iadd (qi_iload 4 (qi_if_eq (vc_R_pairs_54 r hf J) (qi_aload 0 (qi_iload 1 (qi_iload 3 (qi_iadd (qi_iald 0 (qi_push (nI 1) (qi_iload 2 (qi_ishl (qi_ior (vc_R_pairs_65 r hf J))))))))))))))))) lv st h
theorem sn_R_pairs_32 {Ph : Nat → State → Prop} {h0 hf : hc_H} {r : Option Value} : qk Ph M_R_pairs h0 hf r 32 (vc_R_pairs_32 r hf (cx Ph M_R_pairs h0 hf r)) := (qs_iastore d_R_pairs_32 (qs_aload_n d_R_pairs_33 rfl (qs_iload_n d_R_pairs_34 rfl (qs_iload_n d_R_pairs_35 rfl (qs_iadd d_R_pairs_36 (qs_iload d_R_pairs_37 (qs_if_eq (tgt := 54) d_R_pairs_39 (by decide) sn_R_pairs_54 (qs_aload_n d_R_pairs_42 rfl (qs_iload_n d_R_pairs_43 rfl (qs_iload_n d_R_pairs_44 rfl (qs_iadd d_R_pairs_45 (qs_iaload d_R_pairs_46 (qs_iconst d_R_pairs_47 (by decide) (qs_iload_n d_R_pairs_48 rfl (qs_ishl d_R_pairs_49 (qs_ior d_R_pairs_50 (qs_goto (tgt := 65) d_R_pairs_51 (by decide) sn_R_pairs_65)))))))))))))))))
def vc_R_pairs_21 (r : Option Value) (hf : hc_H) (J : Nat → hc_K) (lv : hc_L) (st : List Value) (h : hc_H) : Prop := (qi_aload 0 (qi_iload 1 (qi_iload 2 (qi_iadd (qi_iald 0 (qi_push (nI 1) (qi_iload 3 (qi_ishl (qi_push (-1) (qi_ixor (qi_iand (vc_R_pairs_32 r hf J)))))))))))) lv st h
theorem sn_R_pairs_21 {Ph : Nat → State → Prop} {h0 hf : hc_H} {r : Option Value} : qk Ph M_R_pairs h0 hf r 21 (vc_R_pairs_21 r hf (cx Ph M_R_pairs h0 hf r)) := (qs_aload_n d_R_pairs_21 rfl (qs_iload_n d_R_pairs_22 rfl (qs_iload_n d_R_pairs_23 rfl (qs_iadd d_R_pairs_24 (qs_iaload d_R_pairs_25 (qs_iconst d_R_pairs_26 (by decide) (qs_iload_n d_R_pairs_27 rfl (qs_ishl d_R_pairs_28 (qs_iconst d_R_pairs_29 (by decide) (qs_ixor d_R_pairs_30 (qs_iand d_R_pairs_31 sn_R_pairs_32)))))))))))
def vc_R_pairs_0 (r : Option Value) (hf : hc_H) (J : Nat → hc_K) (lv : hc_L) (st : List Value) (h : hc_H) : Prop := (qi_aload 0 (qi_iload 1 (qi_iload 2 (qi_iadd (qi_iload 4 (qi_if_eq (vc_R_pairs_21 r hf J) (qi_aload 0 (qi_iload 1 (qi_iload 2 (qi_iadd (qi_iald 0 (qi_push (nI 1) (qi_iload 3 (qi_ishl (qi_ior (vc_R_pairs_32 r hf J)))))))))))))))) lv st h
theorem sn_R_pairs_0 {Ph : Nat → State → Prop} {h0 hf : hc_H} {r : Option Value} : qk Ph M_R_pairs h0 hf r 0 (vc_R_pairs_0 r hf (cx Ph M_R_pairs h0 hf r)) := (qs_aload_n d_R_pairs_0 rfl (qs_iload_n d_R_pairs_1 rfl (qs_iload_n d_R_pairs_2 rfl (qs_iadd d_R_pairs_3 (qs_iload d_R_pairs_4 (qs_if_eq (tgt := 21) d_R_pairs_6 (by decide) sn_R_pairs_21 (qs_aload_n d_R_pairs_9 rfl (qs_iload_n d_R_pairs_10 rfl (qs_iload_n d_R_pairs_11 rfl (qs_iadd d_R_pairs_12 (qs_iaload d_R_pairs_13 (qs_iconst d_R_pairs_14 (by decide) (qs_iload_n d_R_pairs_15 rfl (qs_ishl d_R_pairs_16 (qs_ior d_R_pairs_17 (qs_goto (tgt := 32) d_R_pairs_18 (by decide) sn_R_pairs_32))))))))))))))))
theorem zz_R_pairs : hc_z M_R_pairs 5 := ⟨wk_850, wk_66, by decide +kernel⟩
/-! BalancedLineModel.<init>()V -/
abbrev M_R_init : hc_M := (⟨"BalancedLineModel", "<init>", "()V"⟩, prog_8_method_1_code, 4, none, 1, 24)
theorem d_R_init_0 : decode (mC M_R_init) 0 = .ok (.aload_n 0, 1) := by decide +kernel
theorem d_R_init_1 : decode (mC M_R_init) 1 = .ok (.invokespecial 1, 3) := by decide +kernel
theorem d_R_init_4 : decode (mC M_R_init) 4 = .ok (.aload_n 0, 1) := by decide +kernel
theorem d_R_init_5 : decode (mC M_R_init) 5 = .ok (.sipush 200, 3) := by decide +kernel
theorem d_R_init_8 : decode (mC M_R_init) 8 = .ok (.newarray .int, 2) := by decide +kernel
theorem d_R_init_10 : decode (mC M_R_init) 10 = .ok (.putfield 7, 3) := by decide +kernel
theorem d_R_init_13 : decode (mC M_R_init) 13 = .ok (.aload_n 0, 1) := by decide +kernel
theorem d_R_init_14 : decode (mC M_R_init) 14 = .ok (.bipush 62, 2) := by decide +kernel
theorem d_R_init_16 : decode (mC M_R_init) 16 = .ok (.newarray .int, 2) := by decide +kernel
theorem d_R_init_18 : decode (mC M_R_init) 18 = .ok (.putfield 13, 3) := by decide +kernel
theorem d_R_init_21 : decode (mC M_R_init) 21 = .ok (.aload_n 0, 1) := by decide +kernel
theorem d_R_init_22 : decode (mC M_R_init) 22 = .ok (.sipush 372, 3) := by decide +kernel
theorem d_R_init_25 : decode (mC M_R_init) 25 = .ok (.newarray .int, 2) := by decide +kernel
theorem d_R_init_27 : decode (mC M_R_init) 27 = .ok (.putfield 16, 3) := by decide +kernel
theorem d_R_init_30 : decode (mC M_R_init) 30 = .ok (.aload_n 0, 1) := by decide +kernel
theorem d_R_init_31 : decode (mC M_R_init) 31 = .ok (.bipush 62, 2) := by decide +kernel
theorem d_R_init_33 : decode (mC M_R_init) 33 = .ok (.newarray .int, 2) := by decide +kernel
theorem d_R_init_35 : decode (mC M_R_init) 35 = .ok (.putfield 19, 3) := by decide +kernel
theorem d_R_init_38 : decode (mC M_R_init) 38 = .ok (.aload_n 0, 1) := by decide +kernel
theorem d_R_init_39 : decode (mC M_R_init) 39 = .ok (.sipush 4096, 3) := by decide +kernel
theorem d_R_init_42 : decode (mC M_R_init) 42 = .ok (.newarray .int, 2) := by decide +kernel
theorem d_R_init_44 : decode (mC M_R_init) 44 = .ok (.putfield 22, 3) := by decide +kernel
theorem d_R_init_47 : decode (mC M_R_init) 47 = .ok (.aload_n 0, 1) := by decide +kernel
theorem d_R_init_48 : decode (mC M_R_init) 48 = .ok (.sipush 4096, 3) := by decide +kernel
theorem d_R_init_51 : decode (mC M_R_init) 51 = .ok (.newarray .boolean, 2) := by decide +kernel
theorem d_R_init_53 : decode (mC M_R_init) 53 = .ok (.putfield 25, 3) := by decide +kernel
theorem d_R_init_56 : decode (mC M_R_init) 56 = .ok (.aload_n 0, 1) := by decide +kernel
theorem d_R_init_57 : decode (mC M_R_init) 57 = .ok (.sipush 4096, 3) := by decide +kernel
theorem d_R_init_60 : decode (mC M_R_init) 60 = .ok (.newarray .int, 2) := by decide +kernel
theorem d_R_init_62 : decode (mC M_R_init) 62 = .ok (.putfield 29, 3) := by decide +kernel
theorem d_R_init_65 : decode (mC M_R_init) 65 = .ok (.aload_n 0, 1) := by decide +kernel
theorem d_R_init_66 : decode (mC M_R_init) 66 = .ok (.sipush 4096, 3) := by decide +kernel
theorem d_R_init_69 : decode (mC M_R_init) 69 = .ok (.newarray .int, 2) := by decide +kernel
theorem d_R_init_71 : decode (mC M_R_init) 71 = .ok (.putfield 32, 3) := by decide +kernel
theorem d_R_init_74 : decode (mC M_R_init) 74 = .ok (.aload_n 0, 1) := by decide +kernel
theorem d_R_init_75 : decode (mC M_R_init) 75 = .ok (.sipush 4096, 3) := by decide +kernel
theorem d_R_init_78 : decode (mC M_R_init) 78 = .ok (.newarray .boolean, 2) := by decide +kernel
theorem d_R_init_80 : decode (mC M_R_init) 80 = .ok (.putfield 35, 3) := by decide +kernel
theorem d_R_init_83 : decode (mC M_R_init) 83 = .ok (.aload_n 0, 1) := by decide +kernel
theorem d_R_init_84 : decode (mC M_R_init) 84 = .ok (.sipush 4096, 3) := by decide +kernel
theorem d_R_init_87 : decode (mC M_R_init) 87 = .ok (.newarray .boolean, 2) := by decide +kernel
theorem d_R_init_89 : decode (mC M_R_init) 89 = .ok (.putfield 38, 3) := by decide +kernel
theorem d_R_init_92 : decode (mC M_R_init) 92 = .ok (.aload_n 0, 1) := by decide +kernel
theorem d_R_init_93 : decode (mC M_R_init) 93 = .ok (.bipush 12, 2) := by decide +kernel
theorem d_R_init_95 : decode (mC M_R_init) 95 = .ok (.newarray .int, 2) := by decide +kernel
theorem d_R_init_97 : decode (mC M_R_init) 97 = .ok (.putfield 41, 3) := by decide +kernel
theorem d_R_init_100 : decode (mC M_R_init) 100 = .ok (.bipush 9, 2) := by decide +kernel
theorem d_R_init_102 : decode (mC M_R_init) 102 = .ok (.newarray .int, 2) := by decide +kernel
theorem d_R_init_104 : decode (mC M_R_init) 104 = .ok (.dup, 1) := by decide +kernel
theorem d_R_init_105 : decode (mC M_R_init) 105 = .ok (.iconst 0, 1) := by decide +kernel
theorem d_R_init_106 : decode (mC M_R_init) 106 = .ok (.bipush 6, 2) := by decide +kernel
theorem d_R_init_108 : decode (mC M_R_init) 108 = .ok (.iastore, 1) := by decide +kernel
theorem d_R_init_109 : decode (mC M_R_init) 109 = .ok (.dup, 1) := by decide +kernel
theorem d_R_init_110 : decode (mC M_R_init) 110 = .ok (.iconst 1, 1) := by decide +kernel
theorem d_R_init_111 : decode (mC M_R_init) 111 = .ok (.bipush 9, 2) := by decide +kernel
theorem d_R_init_113 : decode (mC M_R_init) 113 = .ok (.iastore, 1) := by decide +kernel
theorem d_R_init_114 : decode (mC M_R_init) 114 = .ok (.dup, 1) := by decide +kernel
theorem d_R_init_115 : decode (mC M_R_init) 115 = .ok (.iconst 2, 1) := by decide +kernel
theorem d_R_init_116 : decode (mC M_R_init) 116 = .ok (.iconst 4, 1) := by decide +kernel
theorem d_R_init_117 : decode (mC M_R_init) 117 = .ok (.iastore, 1) := by decide +kernel
theorem d_R_init_118 : decode (mC M_R_init) 118 = .ok (.dup, 1) := by decide +kernel
theorem d_R_init_119 : decode (mC M_R_init) 119 = .ok (.iconst 3, 1) := by decide +kernel
theorem d_R_init_120 : decode (mC M_R_init) 120 = .ok (.iconst 5, 1) := by decide +kernel
theorem d_R_init_121 : decode (mC M_R_init) 121 = .ok (.iastore, 1) := by decide +kernel
theorem d_R_init_122 : decode (mC M_R_init) 122 = .ok (.dup, 1) := by decide +kernel
theorem d_R_init_123 : decode (mC M_R_init) 123 = .ok (.iconst 4, 1) := by decide +kernel
theorem d_R_init_124 : decode (mC M_R_init) 124 = .ok (.bipush 11, 2) := by decide +kernel
theorem d_R_init_126 : decode (mC M_R_init) 126 = .ok (.iastore, 1) := by decide +kernel
theorem d_R_init_127 : decode (mC M_R_init) 127 = .ok (.dup, 1) := by decide +kernel
theorem d_R_init_128 : decode (mC M_R_init) 128 = .ok (.iconst 5, 1) := by decide +kernel
theorem d_R_init_129 : decode (mC M_R_init) 129 = .ok (.iconst 3, 1) := by decide +kernel
theorem d_R_init_130 : decode (mC M_R_init) 130 = .ok (.iastore, 1) := by decide +kernel
theorem d_R_init_131 : decode (mC M_R_init) 131 = .ok (.dup, 1) := by decide +kernel
theorem d_R_init_132 : decode (mC M_R_init) 132 = .ok (.bipush 6, 2) := by decide +kernel
theorem d_R_init_134 : decode (mC M_R_init) 134 = .ok (.bipush 8, 2) := by decide +kernel
theorem d_R_init_136 : decode (mC M_R_init) 136 = .ok (.iastore, 1) := by decide +kernel
theorem d_R_init_137 : decode (mC M_R_init) 137 = .ok (.dup, 1) := by decide +kernel
theorem d_R_init_138 : decode (mC M_R_init) 138 = .ok (.bipush 7, 2) := by decide +kernel
theorem d_R_init_140 : decode (mC M_R_init) 140 = .ok (.bipush 7, 2) := by decide +kernel
theorem d_R_init_142 : decode (mC M_R_init) 142 = .ok (.iastore, 1) := by decide +kernel
theorem d_R_init_143 : decode (mC M_R_init) 143 = .ok (.dup, 1) := by decide +kernel
theorem d_R_init_144 : decode (mC M_R_init) 144 = .ok (.bipush 8, 2) := by decide +kernel
theorem d_R_init_146 : decode (mC M_R_init) 146 = .ok (.bipush 10, 2) := by decide +kernel
theorem d_R_init_148 : decode (mC M_R_init) 148 = .ok (.iastore, 1) := by decide +kernel
theorem d_R_init_149 : decode (mC M_R_init) 149 = .ok (.astore_n 1, 1) := by decide +kernel
theorem d_R_init_150 : decode (mC M_R_init) 150 = .ok (.bipush 9, 2) := by decide +kernel
theorem d_R_init_152 : decode (mC M_R_init) 152 = .ok (.newarray .int, 2) := by decide +kernel
theorem d_R_init_154 : decode (mC M_R_init) 154 = .ok (.dup, 1) := by decide +kernel
theorem d_R_init_155 : decode (mC M_R_init) 155 = .ok (.iconst 0, 1) := by decide +kernel
theorem d_R_init_156 : decode (mC M_R_init) 156 = .ok (.iconst 0, 1) := by decide +kernel
theorem d_R_init_157 : decode (mC M_R_init) 157 = .ok (.iastore, 1) := by decide +kernel
theorem d_R_init_158 : decode (mC M_R_init) 158 = .ok (.dup, 1) := by decide +kernel
theorem d_R_init_159 : decode (mC M_R_init) 159 = .ok (.iconst 1, 1) := by decide +kernel
theorem d_R_init_160 : decode (mC M_R_init) 160 = .ok (.iconst 0, 1) := by decide +kernel
theorem d_R_init_161 : decode (mC M_R_init) 161 = .ok (.iastore, 1) := by decide +kernel
theorem d_R_init_162 : decode (mC M_R_init) 162 = .ok (.dup, 1) := by decide +kernel
theorem d_R_init_163 : decode (mC M_R_init) 163 = .ok (.iconst 2, 1) := by decide +kernel
theorem d_R_init_164 : decode (mC M_R_init) 164 = .ok (.iconst 1, 1) := by decide +kernel
theorem d_R_init_165 : decode (mC M_R_init) 165 = .ok (.iastore, 1) := by decide +kernel
theorem d_R_init_166 : decode (mC M_R_init) 166 = .ok (.dup, 1) := by decide +kernel
theorem d_R_init_167 : decode (mC M_R_init) 167 = .ok (.iconst 3, 1) := by decide +kernel
theorem d_R_init_168 : decode (mC M_R_init) 168 = .ok (.iconst 2, 1) := by decide +kernel
theorem d_R_init_169 : decode (mC M_R_init) 169 = .ok (.iastore, 1) := by decide +kernel
theorem d_R_init_170 : decode (mC M_R_init) 170 = .ok (.dup, 1) := by decide +kernel
theorem d_R_init_171 : decode (mC M_R_init) 171 = .ok (.iconst 4, 1) := by decide +kernel
theorem d_R_init_172 : decode (mC M_R_init) 172 = .ok (.bipush 8, 2) := by decide +kernel
theorem d_R_init_174 : decode (mC M_R_init) 174 = .ok (.iastore, 1) := by decide +kernel
theorem d_R_init_175 : decode (mC M_R_init) 175 = .ok (.dup, 1) := by decide +kernel
theorem d_R_init_176 : decode (mC M_R_init) 176 = .ok (.iconst 5, 1) := by decide +kernel
theorem d_R_init_177 : decode (mC M_R_init) 177 = .ok (.iconst 4, 1) := by decide +kernel
theorem d_R_init_178 : decode (mC M_R_init) 178 = .ok (.iastore, 1) := by decide +kernel
theorem d_R_init_179 : decode (mC M_R_init) 179 = .ok (.dup, 1) := by decide +kernel
theorem d_R_init_180 : decode (mC M_R_init) 180 = .ok (.bipush 6, 2) := by decide +kernel
theorem d_R_init_182 : decode (mC M_R_init) 182 = .ok (.bipush 32, 2) := by decide +kernel
theorem d_R_init_184 : decode (mC M_R_init) 184 = .ok (.iastore, 1) := by decide +kernel
theorem d_R_init_185 : decode (mC M_R_init) 185 = .ok (.dup, 1) := by decide +kernel
theorem d_R_init_186 : decode (mC M_R_init) 186 = .ok (.bipush 7, 2) := by decide +kernel
theorem d_R_init_188 : decode (mC M_R_init) 188 = .ok (.bipush 16, 2) := by decide +kernel
theorem d_R_init_190 : decode (mC M_R_init) 190 = .ok (.iastore, 1) := by decide +kernel
theorem d_R_init_191 : decode (mC M_R_init) 191 = .ok (.dup, 1) := by decide +kernel
theorem d_R_init_192 : decode (mC M_R_init) 192 = .ok (.bipush 8, 2) := by decide +kernel
theorem d_R_init_194 : decode (mC M_R_init) 194 = .ok (.sipush 192, 3) := by decide +kernel
theorem d_R_init_197 : decode (mC M_R_init) 197 = .ok (.iastore, 1) := by decide +kernel
theorem d_R_init_198 : decode (mC M_R_init) 198 = .ok (.astore_n 2, 1) := by decide +kernel
theorem d_R_init_199 : decode (mC M_R_init) 199 = .ok (.aload_n 0, 1) := by decide +kernel
theorem d_R_init_200 : decode (mC M_R_init) 200 = .ok (.getfield 13, 3) := by decide +kernel
theorem d_R_init_203 : decode (mC M_R_init) 203 = .ok (.iconst 0, 1) := by decide +kernel
theorem d_R_init_204 : decode (mC M_R_init) 204 = .ok (.bipush 9, 2) := by decide +kernel
theorem d_R_init_206 : decode (mC M_R_init) 206 = .ok (.iastore, 1) := by decide +kernel
theorem d_R_init_207 : decode (mC M_R_init) 207 = .ok (.aload_n 0, 1) := by decide +kernel
theorem d_R_init_208 : decode (mC M_R_init) 208 = .ok (.getfield 13, 3) := by decide +kernel
theorem d_R_init_211 : decode (mC M_R_init) 211 = .ok (.iconst 1, 1) := by decide +kernel
theorem d_R_init_212 : decode (mC M_R_init) 212 = .ok (.bipush 20, 2) := by decide +kernel
theorem d_R_init_214 : decode (mC M_R_init) 214 = .ok (.iastore, 1) := by decide +kernel
theorem d_R_init_215 : decode (mC M_R_init) 215 = .ok (.iconst 0, 1) := by decide +kernel
theorem d_R_init_216 : decode (mC M_R_init) 216 = .ok (.istore_n 3, 1) := by decide +kernel
theorem d_R_init_217 : decode (mC M_R_init) 217 = .ok (.iload_n 3, 1) := by decide +kernel
theorem d_R_init_218 : decode (mC M_R_init) 218 = .ok (.bipush 9, 2) := by decide +kernel
theorem d_R_init_220 : decode (mC M_R_init) 220 = .ok (.if_icmp .ge 32, 3) := by decide +kernel
theorem d_R_init_223 : decode (mC M_R_init) 223 = .ok (.aload_n 0, 1) := by decide +kernel
theorem d_R_init_224 : decode (mC M_R_init) 224 = .ok (.getfield 13, 3) := by decide +kernel
theorem d_R_init_227 : decode (mC M_R_init) 227 = .ok (.iconst 2, 1) := by decide +kernel
theorem d_R_init_228 : decode (mC M_R_init) 228 = .ok (.iload_n 3, 1) := by decide +kernel
theorem d_R_init_229 : decode (mC M_R_init) 229 = .ok (.iadd, 1) := by decide +kernel
theorem d_R_init_230 : decode (mC M_R_init) 230 = .ok (.aload_n 1, 1) := by decide +kernel
theorem d_R_init_231 : decode (mC M_R_init) 231 = .ok (.iload_n 3, 1) := by decide +kernel
theorem d_R_init_232 : decode (mC M_R_init) 232 = .ok (.iaload, 1) := by decide +kernel
theorem d_R_init_233 : decode (mC M_R_init) 233 = .ok (.iastore, 1) := by decide +kernel
theorem d_R_init_234 : decode (mC M_R_init) 234 = .ok (.aload_n 0, 1) := by decide +kernel
theorem d_R_init_235 : decode (mC M_R_init) 235 = .ok (.getfield 13, 3) := by decide +kernel
theorem d_R_init_238 : decode (mC M_R_init) 238 = .ok (.bipush 14, 2) := by decide +kernel
theorem d_R_init_240 : decode (mC M_R_init) 240 = .ok (.iload_n 3, 1) := by decide +kernel
theorem d_R_init_241 : decode (mC M_R_init) 241 = .ok (.iadd, 1) := by decide +kernel
theorem d_R_init_242 : decode (mC M_R_init) 242 = .ok (.aload_n 2, 1) := by decide +kernel
theorem d_R_init_243 : decode (mC M_R_init) 243 = .ok (.iload_n 3, 1) := by decide +kernel
theorem d_R_init_244 : decode (mC M_R_init) 244 = .ok (.iaload, 1) := by decide +kernel
theorem d_R_init_245 : decode (mC M_R_init) 245 = .ok (.iastore, 1) := by decide +kernel
theorem d_R_init_246 : decode (mC M_R_init) 246 = .ok (.iinc 3 1, 3) := by decide +kernel
theorem d_R_init_249 : decode (mC M_R_init) 249 = .ok (.goto (-32), 3) := by decide +kernel
theorem d_R_init_252 : decode (mC M_R_init) 252 = .ok (.aload_n 0, 1) := by decide +kernel
theorem d_R_init_253 : decode (mC M_R_init) 253 = .ok (.getfield 13, 3) := by decide +kernel
theorem d_R_init_256 : decode (mC M_R_init) 256 = .ok (.bipush 26, 2) := by decide +kernel
theorem d_R_init_258 : decode (mC M_R_init) 258 = .ok (.iconst 0, 1) := by decide +kernel
theorem d_R_init_259 : decode (mC M_R_init) 259 = .ok (.iconst 1, 1) := by decide +kernel
theorem d_R_init_260 : decode (mC M_R_init) 260 = .ok (.iconst 1, 1) := by decide +kernel
theorem d_R_init_261 : decode (mC M_R_init) 261 = .ok (.invokestatic 44, 3) := by decide +kernel
theorem d_R_init_264 : decode (mC M_R_init) 264 = .ok (.aload_n 0, 1) := by decide +kernel
theorem d_R_init_265 : decode (mC M_R_init) 265 = .ok (.getfield 13, 3) := by decide +kernel
theorem d_R_init_268 : decode (mC M_R_init) 268 = .ok (.bipush 38, 2) := by decide +kernel
theorem d_R_init_270 : decode (mC M_R_init) 270 = .ok (.iconst 2, 1) := by decide +kernel
theorem d_R_init_271 : decode (mC M_R_init) 271 = .ok (.iconst 5, 1) := by decide +kernel
theorem d_R_init_272 : decode (mC M_R_init) 272 = .ok (.iconst 1, 1) := by decide +kernel
theorem d_R_init_273 : decode (mC M_R_init) 273 = .ok (.invokestatic 44, 3) := by decide +kernel
theorem d_R_init_276 : decode (mC M_R_init) 276 = .ok (.return_, 1) := by decide +kernel
def vc_R_init_252 (r : Option Value) (hf : hc_H) (J : Nat → hc_K) (lv : hc_L) (st : List Value) (h : hc_H) : Prop := (qi_aload 0 (qi_get 6 2 (qi_push (nI 26) (qi_push (nI 0) (qi_push (nI 1) (qi_push (nI 1) (qi_invS hc_tt M_R_pairs 5 (qi_aload 0 (qi_get 6 2 (qi_push (nI 38) (qi_push (nI 2) (qi_push (nI 5) (qi_push (nI 1) (qi_invS hc_tt M_R_pairs 5 (qi_vret r hf))))))))))))))) lv st h
theorem sn_R_init_252 {Ph : Nat → State → Prop} {h0 hf : hc_H} {r : Option Value} : qk Ph M_R_init h0 hf r 252 (vc_R_init_252 r hf (cx Ph M_R_init h0 hf r)) := (qs_aload_n d_R_init_252 rfl (qs_get d_R_init_253 ff_R_13 (qs_bipush d_R_init_256 (by decide) (qs_iconst d_R_init_258 (by decide) (qs_iconst d_R_init_259 (by decide) (qs_iconst d_R_init_260 (by decide) (qs_invS hc_Ph_tt (fun _ _ _ => trivial) d_R_init_261 zz_R_pairs wk_848 wk_849 ⟨by decide, by decide⟩ (qs_aload_n d_R_init_264 rfl (qs_get d_R_init_265 ff_R_13 (qs_bipush d_R_init_268 (by decide) (qs_iconst d_R_init_270 (by decide) (qs_iconst d_R_init_271 (by decide) (qs_iconst d_R_init_272 (by decide) (qs_invS hc_Ph_tt (fun _ _ _ => trivial) d_R_init_273 zz_R_pairs wk_848 wk_849 ⟨by decide, by decide⟩ (qs_vret d_R_init_276 rfl)))))))))))))))
def vc_R_init_217 (r : Option Value) (hf : hc_H) (J : Nat → hc_K) (lv : hc_L) (st : List Value) (h : hc_H) : Prop := (qi_iload 3 (qi_push (nI 9) (qi_icmp_ge (vc_R_init_252 r hf J) (qi_aload 0 (qi_get 6 2 (qi_push (nI 2) (qi_iload 3 (qi_iadd (qi_aload 1 (qi_iload 3 (qi_iald 0 (qi_iast (qi_aload 0 (qi_get 6 2 (qi_push (nI 14) (qi_iload 3 (qi_iadd (qi_aload 2 (qi_iload 3 (qi_iald 0 (qi_iast (qi_iinc 3 (nI 1) (J 217))))))))))))))))))))))) lv st h
theorem sn_R_init_217 {Ph : Nat → State → Prop} {h0 hf : hc_H} {r : Option Value} : qk Ph M_R_init h0 hf r 217 (vc_R_init_217 r hf (cx Ph M_R_init h0 hf r)) := (qs_iload_n d_R_init_217 rfl (qs_bipush d_R_init_218 (by decide) (qs_icmp_ge (tgt := 252) d_R_init_220 (by decide) sn_R_init_252 (qs_aload_n d_R_init_223 rfl (qs_get d_R_init_224 ff_R_13 (qs_iconst d_R_init_227 (by decide) (qs_iload_n d_R_init_228 rfl (qs_iadd d_R_init_229 (qs_aload_n d_R_init_230 rfl (qs_iload_n d_R_init_231 rfl (qs_iaload d_R_init_232 (qs_iastore d_R_init_233 (qs_aload_n d_R_init_234 rfl (qs_get d_R_init_235 ff_R_13 (qs_bipush d_R_init_238 (by decide) (qs_iload_n d_R_init_240 rfl (qs_iadd d_R_init_241 (qs_aload_n d_R_init_242 rfl (qs_iload_n d_R_init_243 rfl (qs_iaload d_R_init_244 (qs_iastore d_R_init_245 (qs_iinc d_R_init_246 (by decide) (by decide) (qs_goto (tgt := 217) d_R_init_249 (by decide) (fun _ _ _ h9 => h9))))))))))))))))))))))))
def vc_R_init_0 (r : Option Value) (hf : hc_H) (J : Nat → hc_K) (lv : hc_L) (st : List Value) (h : hc_H) : Prop := (qi_aload 0 (qi_obj (qi_aload 0 (qi_push (nI 200) (qi_newa 0 (qi_put 6 1 (.array .int) (qi_aload 0 (qi_push (nI 62) (qi_newa 0 (qi_put 6 2 (.array .int) (qi_aload 0 (qi_push (nI 372) (qi_newa 0 (qi_put 6 3 (.array .int) (qi_aload 0 (qi_push (nI 62) (qi_newa 0 (qi_put 6 5 (.array .int) (qi_aload 0 (qi_push (nI 4096) (qi_newa 0 (qi_put 6 7 (.array .int) (qi_aload 0 (qi_push (nI 4096) (qi_newa 1 (qi_put 6 8 (.array .boolean) (qi_aload 0 (qi_push (nI 4096) (qi_newa 0 (qi_put 6 9 (.array .int) (qi_aload 0 (qi_push (nI 4096) (qi_newa 0 (qi_put 6 10 (.array .int) (qi_aload 0 (qi_push (nI 4096) (qi_newa 1 (qi_put 6 11 (.array .boolean) (qi_aload 0 (qi_push (nI 4096) (qi_newa 1 (qi_put 6 12 (.array .boolean) (qi_aload 0 (qi_push (nI 12) (qi_newa 0 (qi_put 6 13 (.array .int) (qi_push (nI 9) (qi_newa 0 (qi_dup (qi_push (nI 0) (qi_push (nI 6) (qi_iast (qi_dup (qi_push (nI 1) (qi_push (nI 9) (qi_iast (qi_dup (qi_push (nI 2) (qi_push (nI 4) (qi_iast (qi_dup (qi_push (nI 3) (qi_push (nI 5) (qi_iast (qi_dup (qi_push (nI 4) (qi_push (nI 11) (qi_iast (qi_dup (qi_push (nI 5) (qi_push (nI 3) (qi_iast (qi_dup (qi_push (nI 6) (qi_push (nI 8) (qi_iast (qi_dup (qi_push (nI 7) (qi_push (nI 7) (qi_iast (qi_dup (qi_push (nI 8) (qi_push (nI 10) (qi_iast (qi_astore 1 (qi_push (nI 9) (qi_newa 0 (qi_dup (qi_push (nI 0) (qi_push (nI 0) (qi_iast (qi_dup (qi_push (nI 1) (qi_push (nI 0) (qi_iast (qi_dup (qi_push (nI 2) (qi_push (nI 1) (qi_iast (qi_dup (qi_push (nI 3) (qi_push (nI 2) (qi_iast (qi_dup (qi_push (nI 4) (qi_push (nI 8) (qi_iast (qi_dup (qi_push (nI 5) (qi_push (nI 4) (qi_iast (qi_dup (qi_push (nI 6) (qi_push (nI 32) (qi_iast (qi_dup (qi_push (nI 7) (qi_push (nI 16) (qi_iast (qi_dup (qi_push (nI 8) (qi_push (nI 192) (qi_iast (qi_astore 2 (qi_aload 0 (qi_get 6 2 (qi_push (nI 0) (qi_push (nI 9) (qi_iast (qi_aload 0 (qi_get 6 2 (qi_push (nI 1) (qi_push (nI 20) (qi_iast (qi_push (nI 0) (qi_istore 3 (J 217))))))))))))))))))))))))))))))))))))))))))))))))))))))))))))))))))))))))))))))))))))))))))))))))))))))))))))))))))))))))))))))))))))))))) lv st h
theorem sn_R_init_0 {Ph : Nat → State → Prop} {h0 hf : hc_H} {r : Option Value} : qk Ph M_R_init h0 hf r 0 (vc_R_init_0 r hf (cx Ph M_R_init h0 hf r)) := (qs_aload_n d_R_init_0 rfl (qs_obj d_R_init_1 wk_847 wk_75 wk_obj (by decide) (by decide) (qs_aload_n d_R_init_4 rfl (qs_sipush d_R_init_5 (by decide) (qs_new_int d_R_init_8 (qs_putF d_R_init_10 ff_R_7 rfl ⟨_, _, _, rfl, rfl, rfl, by decide +kernel⟩ (qs_aload_n d_R_init_13 rfl (qs_bipush d_R_init_14 (by decide) (qs_new_int d_R_init_16 (qs_putF d_R_init_18 ff_R_13 rfl ⟨_, _, _, rfl, rfl, rfl, by decide +kernel⟩ (qs_aload_n d_R_init_21 rfl (qs_sipush d_R_init_22 (by decide) (qs_new_int d_R_init_25 (qs_putF d_R_init_27 ff_R_16 rfl ⟨_, _, _, rfl, rfl, rfl, by decide +kernel⟩ (qs_aload_n d_R_init_30 rfl (qs_bipush d_R_init_31 (by decide) (qs_new_int d_R_init_33 (qs_putF d_R_init_35 ff_R_19 rfl ⟨_, _, _, rfl, rfl, rfl, by decide +kernel⟩ (qs_aload_n d_R_init_38 rfl (qs_sipush d_R_init_39 (by decide) (qs_new_int d_R_init_42 (qs_putF d_R_init_44 ff_R_22 rfl ⟨_, _, _, rfl, rfl, rfl, by decide +kernel⟩ (qs_aload_n d_R_init_47 rfl (qs_sipush d_R_init_48 (by decide) (qs_new_boolean d_R_init_51 (qs_putF d_R_init_53 ff_R_25 rfl ⟨_, _, _, rfl, rfl, rfl, by decide +kernel⟩ (qs_aload_n d_R_init_56 rfl (qs_sipush d_R_init_57 (by decide) (qs_new_int d_R_init_60 (qs_putF d_R_init_62 ff_R_29 rfl ⟨_, _, _, rfl, rfl, rfl, by decide +kernel⟩ (qs_aload_n d_R_init_65 rfl (qs_sipush d_R_init_66 (by decide) (qs_new_int d_R_init_69 (qs_putF d_R_init_71 ff_R_32 rfl ⟨_, _, _, rfl, rfl, rfl, by decide +kernel⟩ (qs_aload_n d_R_init_74 rfl (qs_sipush d_R_init_75 (by decide) (qs_new_boolean d_R_init_78 (qs_putF d_R_init_80 ff_R_35 rfl ⟨_, _, _, rfl, rfl, rfl, by decide +kernel⟩ (qs_aload_n d_R_init_83 rfl (qs_sipush d_R_init_84 (by decide) (qs_new_boolean d_R_init_87 (qs_putF d_R_init_89 ff_R_38 rfl ⟨_, _, _, rfl, rfl, rfl, by decide +kernel⟩ (qs_aload_n d_R_init_92 rfl (qs_bipush d_R_init_93 (by decide) (qs_new_int d_R_init_95 (qs_putF d_R_init_97 ff_R_41 rfl ⟨_, _, _, rfl, rfl, rfl, by decide +kernel⟩ (qs_bipush d_R_init_100 (by decide) (qs_new_int d_R_init_102 (qs_dup d_R_init_104 (qs_iconst d_R_init_105 (by decide) (qs_bipush d_R_init_106 (by decide) (qs_iastore d_R_init_108 (qs_dup d_R_init_109 (qs_iconst d_R_init_110 (by decide) (qs_bipush d_R_init_111 (by decide) (qs_iastore d_R_init_113 (qs_dup d_R_init_114 (qs_iconst d_R_init_115 (by decide) (qs_iconst d_R_init_116 (by decide) (qs_iastore d_R_init_117 (qs_dup d_R_init_118 (qs_iconst d_R_init_119 (by decide) (qs_iconst d_R_init_120 (by decide) (qs_iastore d_R_init_121 (qs_dup d_R_init_122 (qs_iconst d_R_init_123 (by decide) (qs_bipush d_R_init_124 (by decide) (qs_iastore d_R_init_126 (qs_dup d_R_init_127 (qs_iconst d_R_init_128 (by decide) (qs_iconst d_R_init_129 (by decide) (qs_iastore d_R_init_130 (qs_dup d_R_init_131 (qs_bipush d_R_init_132 (by decide) (qs_bipush d_R_init_134 (by decide) (qs_iastore d_R_init_136 (qs_dup d_R_init_137 (qs_bipush d_R_init_138 (by decide) (qs_bipush d_R_init_140 (by decide) (qs_iastore d_R_init_142 (qs_dup d_R_init_143 (qs_bipush d_R_init_144 (by decide) (qs_bipush d_R_init_146 (by decide) (qs_iastore d_R_init_148 (qs_astore_n d_R_init_149 rfl (by decide) (qs_bipush d_R_init_150 (by decide) (qs_new_int d_R_init_152 (qs_dup d_R_init_154 (qs_iconst d_R_init_155 (by decide) (qs_iconst d_R_init_156 (by decide) (qs_iastore d_R_init_157 (qs_dup d_R_init_158 (qs_iconst d_R_init_159 (by decide) (qs_iconst d_R_init_160 (by decide) (qs_iastore d_R_init_161 (qs_dup d_R_init_162 (qs_iconst d_R_init_163 (by decide) (qs_iconst d_R_init_164 (by decide) (qs_iastore d_R_init_165 (qs_dup d_R_init_166 (qs_iconst d_R_init_167 (by decide) (qs_iconst d_R_init_168 (by decide) (qs_iastore d_R_init_169 (qs_dup d_R_init_170 (qs_iconst d_R_init_171 (by decide) (qs_bipush d_R_init_172 (by decide) (qs_iastore d_R_init_174 (qs_dup d_R_init_175 (qs_iconst d_R_init_176 (by decide) (qs_iconst d_R_init_177 (by decide) (qs_iastore d_R_init_178 (qs_dup d_R_init_179 (qs_bipush d_R_init_180 (by decide) (qs_bipush d_R_init_182 (by decide) (qs_iastore d_R_init_184 (qs_dup d_R_init_185 (qs_bipush d_R_init_186 (by decide) (qs_bipush d_R_init_188 (by decide) (qs_iastore d_R_init_190 (qs_dup d_R_init_191 (qs_bipush d_R_init_192 (by decide) (qs_sipush d_R_init_194 (by decide) (qs_iastore d_R_init_197 (qs_astore_n d_R_init_198 rfl (by decide) (qs_aload_n d_R_init_199 rfl (qs_get d_R_init_200 ff_R_13 (qs_iconst d_R_init_203 (by decide) (qs_bipush d_R_init_204 (by decide) (qs_iastore d_R_init_206 (qs_aload_n d_R_init_207 rfl (qs_get d_R_init_208 ff_R_13 (qs_iconst d_R_init_211 (by decide) (qs_bipush d_R_init_212 (by decide) (qs_iastore d_R_init_214 (qs_iconst d_R_init_215 (by decide) (qs_istore_n d_R_init_216 rfl (by decide) (fun _ _ _ h9 => h9)))))))))))))))))))))))))))))))))))))))))))))))))))))))))))))))))))))))))))))))))))))))))))))))))))))))))))))))))))))))))))))))))))))))))
/-! BalancedLineModel.in(JJJ)Z -/
abbrev M_R_in : hc_M := (⟨"BalancedLineModel", "in", "(JJJ)Z"⟩, prog_8_method_2_code, 6, (some .boolean), 0, 0)
theorem d_R_in_0 : decode (mC M_R_in) 0 = .ok (.lload_n 0, 1) := by decide +kernel
theorem d_R_in_1 : decode (mC M_R_in) 1 = .ok (.lload_n 2, 1) := by decide +kernel
theorem d_R_in_2 : decode (mC M_R_in) 2 = .ok (.lcmp, 1) := by decide +kernel
theorem d_R_in_3 : decode (mC M_R_in) 3 = .ok (.ifCond .lt 14, 3) := by decide +kernel
theorem d_R_in_6 : decode (mC M_R_in) 6 = .ok (.lload_n 0, 1) := by decide +kernel
theorem d_R_in_7 : decode (mC M_R_in) 7 = .ok (.lload 4, 2) := by decide +kernel
theorem d_R_in_9 : decode (mC M_R_in) 9 = .ok (.lcmp, 1) := by decide +kernel
theorem d_R_in_10 : decode (mC M_R_in) 10 = .ok (.ifCond .gt 7, 3) := by decide +kernel
theorem d_R_in_13 : decode (mC M_R_in) 13 = .ok (.iconst 1, 1) := by decide +kernel
theorem d_R_in_14 : decode (mC M_R_in) 14 = .ok (.goto 4, 3) := by decide +kernel
theorem d_R_in_17 : decode (mC M_R_in) 17 = .ok (.iconst 0, 1) := by decide +kernel
theorem d_R_in_18 : decode (mC M_R_in) 18 = .ok (.ireturn, 1) := by decide +kernel
def vc_R_in_18 (r : Option Value) (hf : hc_H) (J : Nat → hc_K) (lv : hc_L) (st : List Value) (h : hc_H) : Prop := (qi_zret r hf) lv st h
theorem sn_R_in_18 {Ph : Nat → State → Prop} {h0 hf : hc_H} {r : Option Value} : qk Ph M_R_in h0 hf r 18 (vc_R_in_18 r hf (cx Ph M_R_in h0 hf r)) := (qs_zret d_R_in_18 rfl)
def vc_R_in_17 (r : Option Value) (hf : hc_H) (J : Nat → hc_K) (lv : hc_L) (st : List Value) (h : hc_H) : Prop := (qi_push (nI 0) (vc_R_in_18 r hf J)) lv st h
theorem sn_R_in_17 {Ph : Nat → State → Prop} {h0 hf : hc_H} {r : Option Value} : qk Ph M_R_in h0 hf r 17 (vc_R_in_17 r hf (cx Ph M_R_in h0 hf r)) := (qs_iconst d_R_in_17 (by decide) sn_R_in_18)
def vc_R_in_0 (r : Option Value) (hf : hc_H) (J : Nat → hc_K) (lv : hc_L) (st : List Value) (h : hc_H) : Prop := (qi_lload 0 (qi_lload 2 (qi_lcmp (qi_if_lt (vc_R_in_17 r hf J) (qi_lload 0 (qi_lload 4 (qi_lcmp (qi_if_gt (vc_R_in_17 r hf J) (qi_push (nI 1) (vc_R_in_18 r hf J)))))))))) lv st h
theorem sn_R_in_0 {Ph : Nat → State → Prop} {h0 hf : hc_H} {r : Option Value} : qk Ph M_R_in h0 hf r 0 (vc_R_in_0 r hf (cx Ph M_R_in h0 hf r)) := (qs_lload_n d_R_in_0 rfl (qs_lload_n d_R_in_1 rfl (qs_lcmp d_R_in_2 (qs_if_lt (tgt := 17) d_R_in_3 (by decide) sn_R_in_17 (qs_lload_n d_R_in_6 rfl (qs_lload d_R_in_7 (qs_lcmp d_R_in_9 (qs_if_gt (tgt := 17) d_R_in_10 (by decide) sn_R_in_17 (qs_iconst d_R_in_13 (by decide) (qs_goto (tgt := 18) d_R_in_14 (by decide) sn_R_in_18))))))))))
/-! BalancedLineModel.has(II)Z -/
abbrev M_R_has : hc_M := (⟨"BalancedLineModel", "has", "(II)Z"⟩, prog_8_method_3_code, 2, (some .boolean), 0, 0)
theorem d_R_has_0 : decode (mC M_R_has) 0 = .ok (.iload_n 0, 1) := by decide +kernel
theorem d_R_has_1 : decode (mC M_R_has) 1 = .ok (.iload_n 1, 1) := by decide +kernel
theorem d_R_has_2 : decode (mC M_R_has) 2 = .ok (.ishr, 1) := by decide +kernel
theorem d_R_has_3 : decode (mC M_R_has) 3 = .ok (.iconst 1, 1) := by decide +kernel
theorem d_R_has_4 : decode (mC M_R_has) 4 = .ok (.iand, 1) := by decide +kernel
theorem d_R_has_5 : decode (mC M_R_has) 5 = .ok (.iconst 1, 1) := by decide +kernel
theorem d_R_has_6 : decode (mC M_R_has) 6 = .ok (.if_icmp .ne 7, 3) := by decide +kernel
theorem d_R_has_9 : decode (mC M_R_has) 9 = .ok (.iconst 1, 1) := by decide +kernel
theorem d_R_has_10 : decode (mC M_R_has) 10 = .ok (.goto 4, 3) := by decide +kernel
theorem d_R_has_13 : decode (mC M_R_has) 13 = .ok (.iconst 0, 1) := by decide +kernel
theorem d_R_has_14 : decode (mC M_R_has) 14 = .ok (.ireturn, 1) := by decide +kernel
def vc_R_has_14 (r : Option Value) (hf : hc_H) (J : Nat → hc_K) (lv : hc_L) (st : List Value) (h : hc_H) : Prop := (qi_zret r hf) lv st h
theorem sn_R_has_14 {Ph : Nat → State → Prop} {h0 hf : hc_H} {r : Option Value} : qk Ph M_R_has h0 hf r 14 (vc_R_has_14 r hf (cx Ph M_R_has h0 hf r)) := (qs_zret d_R_has_14 rfl)
def vc_R_has_13 (r : Option Value) (hf : hc_H) (J : Nat → hc_K) (lv : hc_L) (st : List Value) (h : hc_H) : Prop := (qi_push (nI 0) (vc_R_has_14 r hf J)) lv st h
theorem sn_R_has_13 {Ph : Nat → State → Prop} {h0 hf : hc_H} {r : Option Value} : qk Ph M_R_has h0 hf r 13 (vc_R_has_13 r hf (cx Ph M_R_has h0 hf r)) := (qs_iconst d_R_has_13 (by decide) sn_R_has_14)
def vc_R_has_0 (r : Option Value) (hf : hc_H) (J : Nat → hc_K) (lv : hc_L) (st : List Value) (h : hc_H) : Prop := (qi_iload 0 (qi_iload 1 (qi_ishr (qi_push (nI 1) (qi_iand (qi_push (nI 1) (qi_icmp_ne (vc_R_has_13 r hf J) (qi_push (nI 1) (vc_R_has_14 r hf J))))))))) lv st h
theorem sn_R_has_0 {Ph : Nat → State → Prop} {h0 hf : hc_H} {r : Option Value} : qk Ph M_R_has h0 hf r 0 (vc_R_has_0 r hf (cx Ph M_R_has h0 hf r)) := (qs_iload_n d_R_has_0 rfl (qs_iload_n d_R_has_1 rfl (qs_ishr d_R_has_2 (qs_iconst d_R_has_3 (by decide) (qs_iand d_R_has_4 (qs_iconst d_R_has_5 (by decide) (qs_icmp_ne (tgt := 13) d_R_has_6 (by decide) sn_R_has_13 (qs_iconst d_R_has_9 (by decide) (qs_goto (tgt := 14) d_R_has_10 (by decide) sn_R_has_14)))))))))
/-! BalancedLineModel.ones(I)I -/
abbrev M_R_ones : hc_M := (⟨"BalancedLineModel", "ones", "(I)I"⟩, prog_8_method_4_code, 3, (some .int), 0, 0)
theorem d_R_ones_0 : decode (mC M_R_ones) 0 = .ok (.iconst 0, 1) := by decide +kernel
theorem d_R_ones_1 : decode (mC M_R_ones) 1 = .ok (.istore_n 1, 1) := by decide +kernel
theorem d_R_ones_2 : decode (mC M_R_ones) 2 = .ok (.iconst 0, 1) := by decide +kernel
theorem d_R_ones_3 : decode (mC M_R_ones) 3 = .ok (.istore_n 2, 1) := by decide +kernel
theorem d_R_ones_4 : decode (mC M_R_ones) 4 = .ok (.iload_n 2, 1) := by decide +kernel
theorem d_R_ones_5 : decode (mC M_R_ones) 5 = .ok (.bipush 12, 2) := by decide +kernel
theorem d_R_ones_7 : decode (mC M_R_ones) 7 = .ok (.if_icmp .ge 17, 3) := by decide +kernel
theorem d_R_ones_10 : decode (mC M_R_ones) 10 = .ok (.iload_n 1, 1) := by decide +kernel
theorem d_R_ones_11 : decode (mC M_R_ones) 11 = .ok (.iload_n 0, 1) := by decide +kernel
theorem d_R_ones_12 : decode (mC M_R_ones) 12 = .ok (.iload_n 2, 1) := by decide +kernel
theorem d_R_ones_13 : decode (mC M_R_ones) 13 = .ok (.ishr, 1) := by decide +kernel
theorem d_R_ones_14 : decode (mC M_R_ones) 14 = .ok (.iconst 1, 1) := by decide +kernel
theorem d_R_ones_15 : decode (mC M_R_ones) 15 = .ok (.iand, 1) := by decide +kernel
theorem d_R_ones_16 : decode (mC M_R_ones) 16 = .ok (.iadd, 1) := by decide +kernel
theorem d_R_ones_17 : decode (mC M_R_ones) 17 = .ok (.istore_n 1, 1) := by decide +kernel
theorem d_R_ones_18 : decode (mC M_R_ones) 18 = .ok (.iinc 2 1, 3) := by decide +kernel
theorem d_R_ones_21 : decode (mC M_R_ones) 21 = .ok (.goto (-17), 3) := by decide +kernel
theorem d_R_ones_24 : decode (mC M_R_ones) 24 = .ok (.iload_n 1, 1) := by decide +kernel
theorem d_R_ones_25 : decode (mC M_R_ones) 25 = .ok (.ireturn, 1) := by decide +kernel
def vc_R_ones_24 (r : Option Value) (hf : hc_H) (J : Nat → hc_K) (lv : hc_L) (st : List Value) (h : hc_H) : Prop := (qi_iload 1 (qi_iret r hf)) lv st h
theorem sn_R_ones_24 {Ph : Nat → State → Prop} {h0 hf : hc_H} {r : Option Value} : qk Ph M_R_ones h0 hf r 24 (vc_R_ones_24 r hf (cx Ph M_R_ones h0 hf r)) := (qs_iload_n d_R_ones_24 rfl (qs_iret d_R_ones_25 rfl))
def vc_R_ones_4 (r : Option Value) (hf : hc_H) (J : Nat → hc_K) (lv : hc_L) (st : List Value) (h : hc_H) : Prop := (qi_iload 2 (qi_push (nI 12) (qi_icmp_ge (vc_R_ones_24 r hf J) (qi_iload 1 (qi_iload 0 (qi_iload 2 (qi_ishr (qi_push (nI 1) (qi_iand (qi_iadd (qi_istore 1 (qi_iinc 2 (nI 1) (J 4))))))))))))) lv st h
theorem sn_R_ones_4 {Ph : Nat → State → Prop} {h0 hf : hc_H} {r : Option Value} : qk Ph M_R_ones h0 hf r 4 (vc_R_ones_4 r hf (cx Ph M_R_ones h0 hf r)) := (qs_iload_n d_R_ones_4 rfl (qs_bipush d_R_ones_5 (by decide) (qs_icmp_ge (tgt := 24) d_R_ones_7 (by decide) sn_R_ones_24 (qs_iload_n d_R_ones_10 rfl (qs_iload_n d_R_ones_11 rfl (qs_iload_n d_R_ones_12 rfl (qs_ishr d_R_ones_13 (qs_iconst d_R_ones_14 (by decide) (qs_iand d_R_ones_15 (qs_iadd d_R_ones_16 (qs_istore_n d_R_ones_17 rfl (by decide) (qs_iinc d_R_ones_18 (by decide) (by decide) (qs_goto (tgt := 4) d_R_ones_21 (by decide) (fun _ _ _ h9 => h9))))))))))))))
def vc_R_ones_0 (r : Option Value) (hf : hc_H) (J : Nat → hc_K) (lv : hc_L) (st : List Value) (h : hc_H) : Prop := (qi_push (nI 0) (qi_istore 1 (qi_push (nI 0) (qi_istore 2 (J 4))))) lv st h
theorem sn_R_ones_0 {Ph : Nat → State → Prop} {h0 hf : hc_H} {r : Option Value} : qk Ph M_R_ones h0 hf r 0 (vc_R_ones_0 r hf (cx Ph M_R_ones h0 hf r)) := (qs_iconst d_R_ones_0 (by decide) (qs_istore_n d_R_ones_1 rfl (by decide) (qs_iconst d_R_ones_2 (by decide) (qs_istore_n d_R_ones_3 rfl (by decide) (fun _ _ _ h9 => h9)))))
theorem zz_R_has : hc_z M_R_has 2 := ⟨wk_934, wk_66, by decide +kernel⟩
/-! BalancedLineModel.allBehind([II)I -/
abbrev M_R_allBehind : hc_M := (⟨"BalancedLineModel", "allBehind", "([II)I"⟩, prog_8_method_6_code, 5, (some .int), 1, 21)
theorem d_R_allBehind_0 : decode (mC M_R_allBehind) 0 = .ok (.aload_n 0, 1) := by decide +kernel
theorem d_R_allBehind_1 : decode (mC M_R_allBehind) 1 = .ok (.bipush 14, 2) := by decide +kernel
theorem d_R_allBehind_3 : decode (mC M_R_allBehind) 3 = .ok (.iload_n 1, 1) := by decide +kernel
theorem d_R_allBehind_4 : decode (mC M_R_allBehind) 4 = .ok (.iadd, 1) := by decide +kernel
theorem d_R_allBehind_5 : decode (mC M_R_allBehind) 5 = .ok (.iaload, 1) := by decide +kernel
theorem d_R_allBehind_6 : decode (mC M_R_allBehind) 6 = .ok (.istore_n 2, 1) := by decide +kernel
theorem d_R_allBehind_7 : decode (mC M_R_allBehind) 7 = .ok (.iconst 0, 1) := by decide +kernel
theorem d_R_allBehind_8 : decode (mC M_R_allBehind) 8 = .ok (.istore_n 3, 1) := by decide +kernel
theorem d_R_allBehind_9 : decode (mC M_R_allBehind) 9 = .ok (.iload_n 3, 1) := by decide +kernel
theorem d_R_allBehind_10 : decode (mC M_R_allBehind) 10 = .ok (.bipush 12, 2) := by decide +kernel
theorem d_R_allBehind_12 : decode (mC M_R_allBehind) 12 = .ok (.if_icmp .ge 48, 3) := by decide +kernel
theorem d_R_allBehind_15 : decode (mC M_R_allBehind) 15 = .ok (.iconst 0, 1) := by decide +kernel
theorem d_R_allBehind_16 : decode (mC M_R_allBehind) 16 = .ok (.istore 4, 2) := by decide +kernel
theorem d_R_allBehind_18 : decode (mC M_R_allBehind) 18 = .ok (.iload 4, 2) := by decide +kernel
theorem d_R_allBehind_20 : decode (mC M_R_allBehind) 20 = .ok (.bipush 12, 2) := by decide +kernel
theorem d_R_allBehind_22 : decode (mC M_R_allBehind) 22 = .ok (.if_icmp .ge 32, 3) := by decide +kernel
theorem d_R_allBehind_25 : decode (mC M_R_allBehind) 25 = .ok (.iload_n 2, 1) := by decide +kernel
theorem d_R_allBehind_26 : decode (mC M_R_allBehind) 26 = .ok (.iload_n 2, 1) := by decide +kernel
theorem d_R_allBehind_27 : decode (mC M_R_allBehind) 27 = .ok (.iload 4, 2) := by decide +kernel
theorem d_R_allBehind_29 : decode (mC M_R_allBehind) 29 = .ok (.invokestatic 48, 3) := by decide +kernel
theorem d_R_allBehind_32 : decode (mC M_R_allBehind) 32 = .ok (.ifCond .eq 13, 3) := by decide +kernel
theorem d_R_allBehind_35 : decode (mC M_R_allBehind) 35 = .ok (.aload_n 0, 1) := by decide +kernel
theorem d_R_allBehind_36 : decode (mC M_R_allBehind) 36 = .ok (.bipush 14, 2) := by decide +kernel
theorem d_R_allBehind_38 : decode (mC M_R_allBehind) 38 = .ok (.iload 4, 2) := by decide +kernel
theorem d_R_allBehind_40 : decode (mC M_R_allBehind) 40 = .ok (.iadd, 1) := by decide +kernel
theorem d_R_allBehind_41 : decode (mC M_R_allBehind) 41 = .ok (.iaload, 1) := by decide +kernel
theorem d_R_allBehind_42 : decode (mC M_R_allBehind) 42 = .ok (.goto 4, 3) := by decide +kernel
theorem d_R_allBehind_45 : decode (mC M_R_allBehind) 45 = .ok (.iconst 0, 1) := by decide +kernel
theorem d_R_allBehind_46 : decode (mC M_R_allBehind) 46 = .ok (.ior, 1) := by decide +kernel
theorem d_R_allBehind_47 : decode (mC M_R_allBehind) 47 = .ok (.istore_n 2, 1) := by decide +kernel
theorem d_R_allBehind_48 : decode (mC M_R_allBehind) 48 = .ok (.iinc 4 1, 3) := by decide +kernel
theorem d_R_allBehind_51 : decode (mC M_R_allBehind) 51 = .ok (.goto (-33), 3) := by decide +kernel
theorem d_R_allBehind_54 : decode (mC M_R_allBehind) 54 = .ok (.iinc 3 1, 3) := by decide +kernel
theorem d_R_allBehind_57 : decode (mC M_R_allBehind) 57 = .ok (.goto (-48), 3) := by decide +kernel
theorem d_R_allBehind_60 : decode (mC M_R_allBehind) 60 = .ok (.iload_n 2, 1) := by decide +kernel
theorem d_R_allBehind_61 : decode (mC M_R_allBehind) 61 = .ok (.ireturn, 1) := by decide +kernel
def vc_R_allBehind_60 (r : Option Value) (hf : hc_H) (J : Nat → hc_K) (lv : hc_L) (st : List Value) (h : hc_H) : Prop := (qi_iload 2 (qi_iret r hf)) lv st h
theorem sn_R_allBehind_60 {Ph : Nat → State → Prop} {h0 hf : hc_H} {r : Option Value} : qk Ph M_R_allBehind h0 hf r 60 (vc_R_allBehind_60 r hf (cx Ph M_R_allBehind h0 hf r)) := (qs_iload_n d_R_allBehind_60 rfl (qs_iret d_R_allBehind_61 rfl))
def vc_R_allBehind_54 (r : Option Value) (hf : hc_H) (J : Nat → hc_K) (lv : hc_L) (st : List Value) (h : hc_H) : Prop := (qi_iinc 3 (nI 1) (J 9)) lv st h
theorem sn_R_allBehind_54 {Ph : Nat → State → Prop} {h0 hf : hc_H} {r : Option Value} : qk Ph M_R_allBehind h0 hf r 54 (vc_R_allBehind_54 r hf (cx Ph M_R_allBehind h0 hf r)) := (qs_iinc d_R_allBehind_54 (by decide) (by decide) (qs_goto (tgt := 9) d_R_allBehind_57 (by decide) (fun _ _ _ h9 => h9)))
def vc_R_allBehind_46 (r : Option Value) (hf : hc_H) (J : Nat → hc_K) (lv : hc_L) (st : List Value) (h : hc_H) : Prop := (qi_ior (qi_istore 2 (qi_iinc 4 (nI 1) (J 18)))) lv st h
theorem sn_R_allBehind_46 {Ph : Nat → State → Prop} {h0 hf : hc_H} {r : Option Value} : qk Ph M_R_allBehind h0 hf r 46 (vc_R_allBehind_46 r hf (cx Ph M_R_allBehind h0 hf r)) := (qs_ior d_R_allBehind_46 (qs_istore_n d_R_allBehind_47 rfl (by decide) (qs_iinc d_R_allBehind_48 (by decide) (by decide) (qs_goto (tgt := 18) d_R_allBehind_51 (by decide) (fun _ _ _ h9 => h9)))))
def vc_R_allBehind_45 (r : Option Value) (hf : hc_H) (J : Nat → hc_K) (lv : hc_L) (st : List Value) (h : hc_H) : Prop := (qi_push (nI 0) (vc_R_allBehind_46 r hf J)) lv st h
theorem sn_R_allBehind_45 {Ph : Nat → State → Prop} {h0 hf : hc_H} {r : Option Value} : qk Ph M_R_allBehind h0 hf r 45 (vc_R_allBehind_45 r hf (cx Ph M_R_allBehind h0 hf r)) := (qs_iconst d_R_allBehind_45 (by decide) sn_R_allBehind_46)
def vc_R_allBehind_18 (r : Option Value) (hf : hc_H) (J : Nat → hc_K) (lv : hc_L) (st : List Value) (h : hc_H) : Prop := (qi_iload 4 (qi_push (nI 12) (qi_icmp_ge (vc_R_allBehind_54 r hf J) (qi_iload 2 (qi_iload 2 (qi_iload 4 (qi_invS hc_tt M_R_has 2 (qi_if_eq (vc_R_allBehind_45 r hf J) (qi_aload 0 (qi_push (nI 14) (qi_iload 4 (qi_iadd (qi_iald 0 (vc_R_allBehind_46 r hf J)))))))))))))) lv st h
theorem sn_R_allBehind_18 {Ph : Nat → State → Prop} {h0 hf : hc_H} {r : Option Value} : qk Ph M_R_allBehind h0 hf r 18 (vc_R_allBehind_18 r hf (cx Ph M_R_allBehind h0 hf r)) := (qs_iload d_R_allBehind_18 (qs_bipush d_R_allBehind_20 (by decide) (qs_icmp_ge (tgt := 54) d_R_allBehind_22 (by decide) sn_R_allBehind_54 (qs_iload_n d_R_allBehind_25 rfl (qs_iload_n d_R_allBehind_26 rfl (qs_iload d_R_allBehind_27 (qs_invS hc_Ph_tt (fun _ _ _ => trivial) d_R_allBehind_29 zz_R_has wk_932 wk_933 ⟨by decide, by decide⟩ (qs_if_eq (tgt := 45) d_R_allBehind_32 (by decide) sn_R_allBehind_45 (qs_aload_n d_R_allBehind_35 rfl (qs_bipush d_R_allBehind_36 (by decide) (qs_iload d_R_allBehind_38 (qs_iadd d_R_allBehind_40 (qs_iaload d_R_allBehind_41 (qs_goto (tgt := 46) d_R_allBehind_42 (by decide) sn_R_allBehind_46))))))))))))))
def vc_R_allBehind_9 (r : Option Value) (hf : hc_H) (J : Nat → hc_K) (lv : hc_L) (st : List Value) (h : hc_H) : Prop := (qi_iload 3 (qi_push (nI 12) (qi_icmp_ge (vc_R_allBehind_60 r hf J) (qi_push (nI 0) (qi_istore 4 (J 18)))))) lv st h
theorem sn_R_allBehind_9 {Ph : Nat → State → Prop} {h0 hf : hc_H} {r : Option Value} : qk Ph M_R_allBehind h0 hf r 9 (vc_R_allBehind_9 r hf (cx Ph M_R_allBehind h0 hf r)) := (qs_iload_n d_R_allBehind_9 rfl (qs_bipush d_R_allBehind_10 (by decide) (qs_icmp_ge (tgt := 60) d_R_allBehind_12 (by decide) sn_R_allBehind_60 (qs_iconst d_R_allBehind_15 (by decide) (qs_istore d_R_allBehind_16 (by decide) (fun _ _ _ h9 => h9))))))
def vc_R_allBehind_0 (r : Option Value) (hf : hc_H) (J : Nat → hc_K) (lv : hc_L) (st : List Value) (h : hc_H) : Prop := (qi_aload 0 (qi_push (nI 14) (qi_iload 1 (qi_iadd (qi_iald 0 (qi_istore 2 (qi_push (nI 0) (qi_istore 3 (J 9))))))))) lv st h
theorem sn_R_allBehind_0 {Ph : Nat → State → Prop} {h0 hf : hc_H} {r : Option Value} : qk Ph M_R_allBehind h0 hf r 0 (vc_R_allBehind_0 r hf (cx Ph M_R_allBehind h0 hf r)) := (qs_aload_n d_R_allBehind_0 rfl (qs_bipush d_R_allBehind_1 (by decide) (qs_iload_n d_R_allBehind_3 rfl (qs_iadd d_R_allBehind_4 (qs_iaload d_R_allBehind_5 (qs_istore_n d_R_allBehind_6 rfl (by decide) (qs_iconst d_R_allBehind_7 (by decide) (qs_istore_n d_R_allBehind_8 rfl (by decide) (fun _ _ _ h9 => h9)))))))))
theorem zz_R_in : hc_z M_R_in 3 := ⟨wk_905, wk_66, by decide +kernel⟩
/-! BalancedLineModel.write(I)I -/
abbrev M_R_write : hc_M := (⟨"BalancedLineModel", "write", "(I)I"⟩, prog_8_method_7_code, 2, (some .int), 1, 25)
theorem d_R_write_0 : decode (mC M_R_write) 0 = .ok (.iload_n 1, 1) := by decide +kernel
theorem d_R_write_1 : decode (mC M_R_write) 1 = .ok (.i2l, 1) := by decide +kernel
theorem d_R_write_2 : decode (mC M_R_write) 2 = .ok (.ldc2_w 52, 3) := by decide +kernel
theorem d_R_write_5 : decode (mC M_R_write) 5 = .ok (.ldc2_w 54, 3) := by decide +kernel
theorem d_R_write_8 : decode (mC M_R_write) 8 = .ok (.invokestatic 56, 3) := by decide +kernel
theorem d_R_write_11 : decode (mC M_R_write) 11 = .ok (.ifCond .ne 5, 3) := by decide +kernel
theorem d_R_write_14 : decode (mC M_R_write) 14 = .ok (.iconst (-1), 1) := by decide +kernel
theorem d_R_write_15 : decode (mC M_R_write) 15 = .ok (.ireturn, 1) := by decide +kernel
theorem d_R_write_16 : decode (mC M_R_write) 16 = .ok (.aload_n 0, 1) := by decide +kernel
theorem d_R_write_17 : decode (mC M_R_write) 17 = .ok (.getfield 60, 3) := by decide +kernel
theorem d_R_write_20 : decode (mC M_R_write) 20 = .ok (.sipush 200, 3) := by decide +kernel
theorem d_R_write_23 : decode (mC M_R_write) 23 = .ok (.if_icmp .ne 6, 3) := by decide +kernel
theorem d_R_write_26 : decode (mC M_R_write) 26 = .ok (.bipush (-3), 2) := by decide +kernel
theorem d_R_write_28 : decode (mC M_R_write) 28 = .ok (.ireturn, 1) := by decide +kernel
theorem d_R_write_29 : decode (mC M_R_write) 29 = .ok (.aload_n 0, 1) := by decide +kernel
theorem d_R_write_30 : decode (mC M_R_write) 30 = .ok (.getfield 7, 3) := by decide +kernel
theorem d_R_write_33 : decode (mC M_R_write) 33 = .ok (.aload_n 0, 1) := by decide +kernel
theorem d_R_write_34 : decode (mC M_R_write) 34 = .ok (.getfield 60, 3) := by decide +kernel
theorem d_R_write_37 : decode (mC M_R_write) 37 = .ok (.iload_n 1, 1) := by decide +kernel
theorem d_R_write_38 : decode (mC M_R_write) 38 = .ok (.iastore, 1) := by decide +kernel
theorem d_R_write_39 : decode (mC M_R_write) 39 = .ok (.aload_n 0, 1) := by decide +kernel
theorem d_R_write_40 : decode (mC M_R_write) 40 = .ok (.dup, 1) := by decide +kernel
theorem d_R_write_41 : decode (mC M_R_write) 41 = .ok (.getfield 60, 3) := by decide +kernel
theorem d_R_write_44 : decode (mC M_R_write) 44 = .ok (.iconst 1, 1) := by decide +kernel
theorem d_R_write_45 : decode (mC M_R_write) 45 = .ok (.iadd, 1) := by decide +kernel
theorem d_R_write_46 : decode (mC M_R_write) 46 = .ok (.putfield 60, 3) := by decide +kernel
theorem d_R_write_49 : decode (mC M_R_write) 49 = .ok (.aload_n 0, 1) := by decide +kernel
theorem d_R_write_50 : decode (mC M_R_write) 50 = .ok (.getfield 60, 3) := by decide +kernel
theorem d_R_write_53 : decode (mC M_R_write) 53 = .ok (.ireturn, 1) := by decide +kernel
def vc_R_write_29 (r : Option Value) (hf : hc_H) (J : Nat → hc_K) (lv : hc_L) (st : List Value) (h : hc_H) : Prop := (qi_aload 0 (qi_get 6 1 (qi_aload 0 (qi_get 6 0 (qi_iload 1 (qi_iast (qi_aload 0 (qi_dup (qi_get 6 0 (qi_push (nI 1) (qi_iadd (qi_put 6 0 .int (qi_aload 0 (qi_get 6 0 (qi_iret r hf))))))))))))))) lv st h
theorem sn_R_write_29 {Ph : Nat → State → Prop} {h0 hf : hc_H} {r : Option Value} : qk Ph M_R_write h0 hf r 29 (vc_R_write_29 r hf (cx Ph M_R_write h0 hf r)) := (qs_aload_n d_R_write_29 rfl (qs_get d_R_write_30 ff_R_7 (qs_aload_n d_R_write_33 rfl (qs_get d_R_write_34 ff_R_60 (qs_iload_n d_R_write_37 rfl (qs_iastore d_R_write_38 (qs_aload_n d_R_write_39 rfl (qs_dup d_R_write_40 (qs_get d_R_write_41 ff_R_60 (qs_iconst d_R_write_44 (by decide) (qs_iadd d_R_write_45 (qs_put d_R_write_46 ff_R_60 ⟨_, _, _, rfl, rfl, by decide +kernel⟩ (qs_aload_n d_R_write_49 rfl (qs_get d_R_write_50 ff_R_60 (qs_iret d_R_write_53 rfl)))))))))))))))
def vc_R_write_16 (r : Option Value) (hf : hc_H) (J : Nat → hc_K) (lv : hc_L) (st : List Value) (h : hc_H) : Prop := (qi_aload 0 (qi_get 6 0 (qi_push (nI 200) (qi_icmp_ne (vc_R_write_29 r hf J) (qi_push (-3) (qi_iret r hf)))))) lv st h
theorem sn_R_write_16 {Ph : Nat → State → Prop} {h0 hf : hc_H} {r : Option Value} : qk Ph M_R_write h0 hf r 16 (vc_R_write_16 r hf (cx Ph M_R_write h0 hf r)) := (qs_aload_n d_R_write_16 rfl (qs_get d_R_write_17 ff_R_60 (qs_sipush d_R_write_20 (by decide) (qs_icmp_ne (tgt := 29) d_R_write_23 (by decide) sn_R_write_29 (qs_bipush d_R_write_26 (by decide) (qs_iret d_R_write_28 rfl))))))
def vc_R_write_0 (r : Option Value) (hf : hc_H) (J : Nat → hc_K) (lv : hc_L) (st : List Value) (h : hc_H) : Prop := (qi_iload 1 (qi_i2l (qi_pushl (lN 32) (qi_pushl (lN 126) (qi_invS hc_tt M_R_in 3 (qi_if_ne (vc_R_write_16 r hf J) (qi_push (-1) (qi_iret r hf)))))))) lv st h
theorem sn_R_write_0 {Ph : Nat → State → Prop} {h0 hf : hc_H} {r : Option Value} : qk Ph M_R_write h0 hf r 0 (vc_R_write_0 r hf (cx Ph M_R_write h0 hf r)) := (qs_iload_n d_R_write_0 rfl (qs_i2l d_R_write_1 (qs_ldc2 d_R_write_2 (by first | exact wk_901 | exact (show _ ∈ lw_g from wk_901)) (qs_ldc2 d_R_write_5 (by first | exact wk_902 | exact (show _ ∈ lw_g from wk_902)) (qs_invS hc_Ph_tt (fun _ _ _ => trivial) d_R_write_8 zz_R_in wk_903 wk_904 ⟨by decide, by decide⟩ (qs_if_ne (tgt := 16) d_R_write_11 (by decide) sn_R_write_16 (qs_iconst d_R_write_14 (by decide) (qs_iret d_R_write_15 rfl))))))))
/-! BalancedLineModel.wipe()I -/
abbrev M_R_wipe : hc_M := (⟨"BalancedLineModel", "wipe", "()I"⟩, prog_8_method_8_code, 2, (some .int), 0, 0)
theorem d_R_wipe_0 : decode (mC M_R_wipe) 0 = .ok (.aload_n 0, 1) := by decide +kernel
theorem d_R_wipe_1 : decode (mC M_R_wipe) 1 = .ok (.getfield 60, 3) := by decide +kernel
theorem d_R_wipe_4 : decode (mC M_R_wipe) 4 = .ok (.istore_n 1, 1) := by decide +kernel
theorem d_R_wipe_5 : decode (mC M_R_wipe) 5 = .ok (.aload_n 0, 1) := by decide +kernel
theorem d_R_wipe_6 : decode (mC M_R_wipe) 6 = .ok (.iconst 0, 1) := by decide +kernel
theorem d_R_wipe_7 : decode (mC M_R_wipe) 7 = .ok (.putfield 60, 3) := by decide +kernel
theorem d_R_wipe_10 : decode (mC M_R_wipe) 10 = .ok (.iload_n 1, 1) := by decide +kernel
theorem d_R_wipe_11 : decode (mC M_R_wipe) 11 = .ok (.ireturn, 1) := by decide +kernel
def vc_R_wipe_0 (r : Option Value) (hf : hc_H) (J : Nat → hc_K) (lv : hc_L) (st : List Value) (h : hc_H) : Prop := (qi_aload 0 (qi_get 6 0 (qi_istore 1 (qi_aload 0 (qi_push (nI 0) (qi_put 6 0 .int (qi_iload 1 (qi_iret r hf)))))))) lv st h
theorem sn_R_wipe_0 {Ph : Nat → State → Prop} {h0 hf : hc_H} {r : Option Value} : qk Ph M_R_wipe h0 hf r 0 (vc_R_wipe_0 r hf (cx Ph M_R_wipe h0 hf r)) := (qs_aload_n d_R_wipe_0 rfl (qs_get d_R_wipe_1 ff_R_60 (qs_istore_n d_R_wipe_4 rfl (by decide) (qs_aload_n d_R_wipe_5 rfl (qs_iconst d_R_wipe_6 (by decide) (qs_put d_R_wipe_7 ff_R_60 ⟨_, _, _, rfl, rfl, by decide +kernel⟩ (qs_iload_n d_R_wipe_10 rfl (qs_iret d_R_wipe_11 rfl))))))))
/-! BalancedLineModel.byteAt(I)I -/
abbrev M_R_byteAt : hc_M := (⟨"BalancedLineModel", "byteAt", "(I)I"⟩, prog_8_method_9_code, 2, (some .int), 0, 0)
theorem d_R_byteAt_0 : decode (mC M_R_byteAt) 0 = .ok (.iload_n 1, 1) := by decide +kernel
theorem d_R_byteAt_1 : decode (mC M_R_byteAt) 1 = .ok (.aload_n 0, 1) := by decide +kernel
theorem d_R_byteAt_2 : decode (mC M_R_byteAt) 2 = .ok (.getfield 60, 3) := by decide +kernel
theorem d_R_byteAt_5 : decode (mC M_R_byteAt) 5 = .ok (.if_icmp .ge 12, 3) := by decide +kernel
theorem d_R_byteAt_8 : decode (mC M_R_byteAt) 8 = .ok (.aload_n 0, 1) := by decide +kernel
theorem d_R_byteAt_9 : decode (mC M_R_byteAt) 9 = .ok (.getfield 7, 3) := by decide +kernel
theorem d_R_byteAt_12 : decode (mC M_R_byteAt) 12 = .ok (.iload_n 1, 1) := by decide +kernel
theorem d_R_byteAt_13 : decode (mC M_R_byteAt) 13 = .ok (.iaload, 1) := by decide +kernel
theorem d_R_byteAt_14 : decode (mC M_R_byteAt) 14 = .ok (.goto 4, 3) := by decide +kernel
theorem d_R_byteAt_17 : decode (mC M_R_byteAt) 17 = .ok (.iconst 0, 1) := by decide +kernel
theorem d_R_byteAt_18 : decode (mC M_R_byteAt) 18 = .ok (.ireturn, 1) := by decide +kernel
def vc_R_byteAt_18 (r : Option Value) (hf : hc_H) (J : Nat → hc_K) (lv : hc_L) (st : List Value) (h : hc_H) : Prop := (qi_iret r hf) lv st h
theorem sn_R_byteAt_18 {Ph : Nat → State → Prop} {h0 hf : hc_H} {r : Option Value} : qk Ph M_R_byteAt h0 hf r 18 (vc_R_byteAt_18 r hf (cx Ph M_R_byteAt h0 hf r)) := (qs_iret d_R_byteAt_18 rfl)
def vc_R_byteAt_17 (r : Option Value) (hf : hc_H) (J : Nat → hc_K) (lv : hc_L) (st : List Value) (h : hc_H) : Prop := (qi_push (nI 0) (vc_R_byteAt_18 r hf J)) lv st h
theorem sn_R_byteAt_17 {Ph : Nat → State → Prop} {h0 hf : hc_H} {r : Option Value} : qk Ph M_R_byteAt h0 hf r 17 (vc_R_byteAt_17 r hf (cx Ph M_R_byteAt h0 hf r)) := (qs_iconst d_R_byteAt_17 (by decide) sn_R_byteAt_18)
def vc_R_byteAt_0 (r : Option Value) (hf : hc_H) (J : Nat → hc_K) (lv : hc_L) (st : List Value) (h : hc_H) : Prop := (qi_iload 1 (qi_aload 0 (qi_get 6 0 (qi_icmp_ge (vc_R_byteAt_17 r hf J) (qi_aload 0 (qi_get 6 1 (qi_iload 1 (qi_iald 0 (vc_R_byteAt_18 r hf J))))))))) lv st h
theorem sn_R_byteAt_0 {Ph : Nat → State → Prop} {h0 hf : hc_H} {r : Option Value} : qk Ph M_R_byteAt h0 hf r 0 (vc_R_byteAt_0 r hf (cx Ph M_R_byteAt h0 hf r)) := (qs_iload_n d_R_byteAt_0 rfl (qs_aload_n d_R_byteAt_1 rfl (qs_get d_R_byteAt_2 ff_R_60 (qs_icmp_ge (tgt := 17) d_R_byteAt_5 (by decide) sn_R_byteAt_17 (qs_aload_n d_R_byteAt_8 rfl (qs_get d_R_byteAt_9 ff_R_7 (qs_iload_n d_R_byteAt_12 rfl (qs_iaload d_R_byteAt_13 (qs_goto (tgt := 18) d_R_byteAt_14 (by decide) sn_R_byteAt_18)))))))))
theorem zz_R_byteAt : hc_z M_R_byteAt 1 := ⟨wk_925, wk_66, by decide +kernel⟩
/-! BalancedLineModel.number(III)I -/
abbrev M_R_number : hc_M := (⟨"BalancedLineModel", "number", "(III)I"⟩, prog_8_method_10_code, 6, (some .int), 1, 25)
theorem d_R_number_0 : decode (mC M_R_number) 0 = .ok (.iconst 0, 1) := by decide +kernel
theorem d_R_number_1 : decode (mC M_R_number) 1 = .ok (.istore 4, 2) := by decide +kernel
theorem d_R_number_3 : decode (mC M_R_number) 3 = .ok (.iconst 0, 1) := by decide +kernel
theorem d_R_number_4 : decode (mC M_R_number) 4 = .ok (.istore 5, 2) := by decide +kernel
theorem d_R_number_6 : decode (mC M_R_number) 6 = .ok (.iload 5, 2) := by decide +kernel
theorem d_R_number_8 : decode (mC M_R_number) 8 = .ok (.iload_n 1, 1) := by decide +kernel
theorem d_R_number_9 : decode (mC M_R_number) 9 = .ok (.if_icmp .ge 59, 3) := by decide +kernel
theorem d_R_number_12 : decode (mC M_R_number) 12 = .ok (.aload_n 0, 1) := by decide +kernel
theorem d_R_number_13 : decode (mC M_R_number) 13 = .ok (.aload_n 0, 1) := by decide +kernel
theorem d_R_number_14 : decode (mC M_R_number) 14 = .ok (.getfield 64, 3) := by decide +kernel
theorem d_R_number_17 : decode (mC M_R_number) 17 = .ok (.invokevirtual 67, 3) := by decide +kernel
theorem d_R_number_20 : decode (mC M_R_number) 20 = .ok (.i2l, 1) := by decide +kernel
theorem d_R_number_21 : decode (mC M_R_number) 21 = .ok (.ldc2_w 71, 3) := by decide +kernel
theorem d_R_number_24 : decode (mC M_R_number) 24 = .ok (.ldc2_w 73, 3) := by decide +kernel
theorem d_R_number_27 : decode (mC M_R_number) 27 = .ok (.invokestatic 56, 3) := by decide +kernel
theorem d_R_number_30 : decode (mC M_R_number) 30 = .ok (.ifCond .eq 38, 3) := by decide +kernel
theorem d_R_number_33 : decode (mC M_R_number) 33 = .ok (.bipush 10, 2) := by decide +kernel
theorem d_R_number_35 : decode (mC M_R_number) 35 = .ok (.iload 4, 2) := by decide +kernel
theorem d_R_number_37 : decode (mC M_R_number) 37 = .ok (.imul, 1) := by decide +kernel
theorem d_R_number_38 : decode (mC M_R_number) 38 = .ok (.aload_n 0, 1) := by decide +kernel
theorem d_R_number_39 : decode (mC M_R_number) 39 = .ok (.aload_n 0, 1) := by decide +kernel
theorem d_R_number_40 : decode (mC M_R_number) 40 = .ok (.getfield 64, 3) := by decide +kernel
theorem d_R_number_43 : decode (mC M_R_number) 43 = .ok (.invokevirtual 67, 3) := by decide +kernel
theorem d_R_number_46 : decode (mC M_R_number) 46 = .ok (.iadd, 1) := by decide +kernel
theorem d_R_number_47 : decode (mC M_R_number) 47 = .ok (.bipush 48, 2) := by decide +kernel
theorem d_R_number_49 : decode (mC M_R_number) 49 = .ok (.isub, 1) := by decide +kernel
theorem d_R_number_50 : decode (mC M_R_number) 50 = .ok (.istore 4, 2) := by decide +kernel
theorem d_R_number_52 : decode (mC M_R_number) 52 = .ok (.aload_n 0, 1) := by decide +kernel
theorem d_R_number_53 : decode (mC M_R_number) 53 = .ok (.dup, 1) := by decide +kernel
theorem d_R_number_54 : decode (mC M_R_number) 54 = .ok (.getfield 64, 3) := by decide +kernel
theorem d_R_number_57 : decode (mC M_R_number) 57 = .ok (.iconst 1, 1) := by decide +kernel
theorem d_R_number_58 : decode (mC M_R_number) 58 = .ok (.iadd, 1) := by decide +kernel
theorem d_R_number_59 : decode (mC M_R_number) 59 = .ok (.putfield 64, 3) := by decide +kernel
theorem d_R_number_62 : decode (mC M_R_number) 62 = .ok (.iinc 5 1, 3) := by decide +kernel
theorem d_R_number_65 : decode (mC M_R_number) 65 = .ok (.goto (-59), 3) := by decide +kernel
theorem d_R_number_68 : decode (mC M_R_number) 68 = .ok (.iload 5, 2) := by decide +kernel
theorem d_R_number_70 : decode (mC M_R_number) 70 = .ok (.ifCond .le 21, 3) := by decide +kernel
theorem d_R_number_73 : decode (mC M_R_number) 73 = .ok (.iload 4, 2) := by decide +kernel
theorem d_R_number_75 : decode (mC M_R_number) 75 = .ok (.i2l, 1) := by decide +kernel
theorem d_R_number_76 : decode (mC M_R_number) 76 = .ok (.iload_n 2, 1) := by decide +kernel
theorem d_R_number_77 : decode (mC M_R_number) 77 = .ok (.i2l, 1) := by decide +kernel
theorem d_R_number_78 : decode (mC M_R_number) 78 = .ok (.iload_n 3, 1) := by decide +kernel
theorem d_R_number_79 : decode (mC M_R_number) 79 = .ok (.i2l, 1) := by decide +kernel
theorem d_R_number_80 : decode (mC M_R_number) 80 = .ok (.invokestatic 56, 3) := by decide +kernel
theorem d_R_number_83 : decode (mC M_R_number) 83 = .ok (.ifCond .eq 8, 3) := by decide +kernel
theorem d_R_number_86 : decode (mC M_R_number) 86 = .ok (.iload 4, 2) := by decide +kernel
theorem d_R_number_88 : decode (mC M_R_number) 88 = .ok (.goto 4, 3) := by decide +kernel
theorem d_R_number_91 : decode (mC M_R_number) 91 = .ok (.iconst (-1), 1) := by decide +kernel
theorem d_R_number_92 : decode (mC M_R_number) 92 = .ok (.ireturn, 1) := by decide +kernel
def vc_R_number_92 (r : Option Value) (hf : hc_H) (J : Nat → hc_K) (lv : hc_L) (st : List Value) (h : hc_H) : Prop := (qi_iret r hf) lv st h
theorem sn_R_number_92 {Ph : Nat → State → Prop} {h0 hf : hc_H} {r : Option Value} : qk Ph M_R_number h0 hf r 92 (vc_R_number_92 r hf (cx Ph M_R_number h0 hf r)) := (qs_iret d_R_number_92 rfl)
def vc_R_number_91 (r : Option Value) (hf : hc_H) (J : Nat → hc_K) (lv : hc_L) (st : List Value) (h : hc_H) : Prop := (qi_push (-1) (vc_R_number_92 r hf J)) lv st h
theorem sn_R_number_91 {Ph : Nat → State → Prop} {h0 hf : hc_H} {r : Option Value} : qk Ph M_R_number h0 hf r 91 (vc_R_number_91 r hf (cx Ph M_R_number h0 hf r)) := (qs_iconst d_R_number_91 (by decide) sn_R_number_92)
def vc_R_number_68 (r : Option Value) (hf : hc_H) (J : Nat → hc_K) (lv : hc_L) (st : List Value) (h : hc_H) : Prop := (qi_iload 5 (qi_if_le (vc_R_number_91 r hf J) (qi_iload 4 (qi_i2l (qi_iload 2 (qi_i2l (qi_iload 3 (qi_i2l (qi_invS hc_tt M_R_in 3 (qi_if_eq (vc_R_number_91 r hf J) (qi_iload 4 (vc_R_number_92 r hf J)))))))))))) lv st h
theorem sn_R_number_68 {Ph : Nat → State → Prop} {h0 hf : hc_H} {r : Option Value} : qk Ph M_R_number h0 hf r 68 (vc_R_number_68 r hf (cx Ph M_R_number h0 hf r)) := (qs_iload d_R_number_68 (qs_if_le (tgt := 91) d_R_number_70 (by decide) sn_R_number_91 (qs_iload d_R_number_73 (qs_i2l d_R_number_75 (qs_iload_n d_R_number_76 rfl (qs_i2l d_R_number_77 (qs_iload_n d_R_number_78 rfl (qs_i2l d_R_number_79 (qs_invS hc_Ph_tt (fun _ _ _ => trivial) d_R_number_80 zz_R_in wk_903 wk_904 ⟨by decide, by decide⟩ (qs_if_eq (tgt := 91) d_R_number_83 (by decide) sn_R_number_91 (qs_iload d_R_number_86 (qs_goto (tgt := 92) d_R_number_88 (by decide) sn_R_number_92))))))))))))
def vc_R_number_6 (r : Option Value) (hf : hc_H) (J : Nat → hc_K) (lv : hc_L) (st : List Value) (h : hc_H) : Prop := (qi_iload 5 (qi_iload 1 (qi_icmp_ge (vc_R_number_68 r hf J) (qi_aload 0 (qi_aload 0 (qi_get 6 6 (qi_invV hc_tt M_R_byteAt 1 6 (qi_i2l (qi_pushl (lN 48) (qi_pushl (lN 57) (qi_invS hc_tt M_R_in 3 (qi_if_eq (vc_R_number_68 r hf J) (qi_push (nI 10) (qi_iload 4 (qi_imul (qi_aload 0 (qi_aload 0 (qi_get 6 6 (qi_invV hc_tt M_R_byteAt 1 6 (qi_iadd (qi_push (nI 48) (qi_isub (qi_istore 4 (qi_aload 0 (qi_dup (qi_get 6 6 (qi_push (nI 1) (qi_iadd (qi_put 6 6 .int (qi_iinc 5 (nI 1) (J 6))))))))))))))))))))))))))))))) lv st h
theorem sn_R_number_6 {Ph : Nat → State → Prop} {h0 hf : hc_H} {r : Option Value} : qk Ph M_R_number h0 hf r 6 (vc_R_number_6 r hf (cx Ph M_R_number h0 hf r)) := (qs_iload d_R_number_6 (qs_iload_n d_R_number_8 rfl (qs_icmp_ge (tgt := 68) d_R_number_9 (by decide) sn_R_number_68 (qs_aload_n d_R_number_12 rfl (qs_aload_n d_R_number_13 rfl (qs_get d_R_number_14 ff_R_64 (qs_invV hc_Ph_tt (fun _ _ _ => trivial) d_R_number_17 zz_R_byteAt wk_922 ⟨wk_924, wk_26⟩ ⟨_, rfl, rfl⟩ ⟨by decide, by decide⟩ (qs_i2l d_R_number_20 (qs_ldc2 d_R_number_21 (by first | exact wk_926 | exact (show _ ∈ lw_g from wk_926)) (qs_ldc2 d_R_number_24 (by first | exact wk_927 | exact (show _ ∈ lw_g from wk_927)) (qs_invS hc_Ph_tt (fun _ _ _ => trivial) d_R_number_27 zz_R_in wk_903 wk_904 ⟨by decide, by decide⟩ (qs_if_eq (tgt := 68) d_R_number_30 (by decide) sn_R_number_68 (qs_bipush d_R_number_33 (by decide) (qs_iload d_R_number_35 (qs_imul d_R_number_37 (qs_aload_n d_R_number_38 rfl (qs_aload_n d_R_number_39 rfl (qs_get d_R_number_40 ff_R_64 (qs_invV hc_Ph_tt (fun _ _ _ => trivial) d_R_number_43 zz_R_byteAt wk_922 ⟨wk_924, wk_26⟩ ⟨_, rfl, rfl⟩ ⟨by decide, by decide⟩ (qs_iadd d_R_number_46 (qs_bipush d_R_number_47 (by decide) (qs_isub d_R_number_49 (qs_istore d_R_number_50 (by decide) (qs_aload_n d_R_number_52 rfl (qs_dup d_R_number_53 (qs_get d_R_number_54 ff_R_64 (qs_iconst d_R_number_57 (by decide) (qs_iadd d_R_number_58 (qs_put d_R_number_59 ff_R_64 ⟨_, _, _, rfl, rfl, by decide +kernel⟩ (qs_iinc d_R_number_62 (by decide) (by decide) (qs_goto (tgt := 6) d_R_number_65 (by decide) (fun _ _ _ h9 => h9))))))))))))))))))))))))))))))))
def vc_R_number_0 (r : Option Value) (hf : hc_H) (J : Nat → hc_K) (lv : hc_L) (st : List Value) (h : hc_H) : Prop := (qi_push (nI 0) (qi_istore 4 (qi_push (nI 0) (qi_istore 5 (J 6))))) lv st h
theorem sn_R_number_0 {Ph : Nat → State → Prop} {h0 hf : hc_H} {r : Option Value} : qk Ph M_R_number h0 hf r 0 (vc_R_number_0 r hf (cx Ph M_R_number h0 hf r)) := (qs_iconst d_R_number_0 (by decide) (qs_istore d_R_number_1 (by decide) (qs_iconst d_R_number_3 (by decide) (qs_istore d_R_number_4 (by decide) (fun _ _ _ h9 => h9)))))
theorem zz_R_allBehind : hc_z M_R_allBehind 2 := ⟨wk_937, wk_66, by decide +kernel⟩
/-! BalancedLineModel.pairItem(I)Z -/
abbrev M_R_pairItem : hc_M := (⟨"BalancedLineModel", "pairItem", "(I)Z"⟩, prog_8_method_11_code, 5, (some .boolean), 2, 45)
theorem d_R_pairItem_0 : decode (mC M_R_pairItem) 0 = .ok (.aload_n 0, 1) := by decide +kernel
theorem d_R_pairItem_1 : decode (mC M_R_pairItem) 1 = .ok (.aload_n 0, 1) := by decide +kernel
theorem d_R_pairItem_2 : decode (mC M_R_pairItem) 2 = .ok (.getfield 64, 3) := by decide +kernel
theorem d_R_pairItem_5 : decode (mC M_R_pairItem) 5 = .ok (.invokevirtual 67, 3) := by decide +kernel
theorem d_R_pairItem_8 : decode (mC M_R_pairItem) 8 = .ok (.bipush 97, 2) := by decide +kernel
theorem d_R_pairItem_10 : decode (mC M_R_pairItem) 10 = .ok (.isub, 1) := by decide +kernel
theorem d_R_pairItem_11 : decode (mC M_R_pairItem) 11 = .ok (.istore_n 2, 1) := by decide +kernel
theorem d_R_pairItem_12 : decode (mC M_R_pairItem) 12 = .ok (.aload_n 0, 1) := by decide +kernel
theorem d_R_pairItem_13 : decode (mC M_R_pairItem) 13 = .ok (.aload_n 0, 1) := by decide +kernel
theorem d_R_pairItem_14 : decode (mC M_R_pairItem) 14 = .ok (.getfield 64, 3) := by decide +kernel
theorem d_R_pairItem_17 : decode (mC M_R_pairItem) 17 = .ok (.iconst 1, 1) := by decide +kernel
theorem d_R_pairItem_18 : decode (mC M_R_pairItem) 18 = .ok (.iadd, 1) := by decide +kernel
theorem d_R_pairItem_19 : decode (mC M_R_pairItem) 19 = .ok (.invokevirtual 67, 3) := by decide +kernel
theorem d_R_pairItem_22 : decode (mC M_R_pairItem) 22 = .ok (.bipush 97, 2) := by decide +kernel
theorem d_R_pairItem_24 : decode (mC M_R_pairItem) 24 = .ok (.isub, 1) := by decide +kernel
theorem d_R_pairItem_25 : decode (mC M_R_pairItem) 25 = .ok (.istore_n 3, 1) := by decide +kernel
theorem d_R_pairItem_26 : decode (mC M_R_pairItem) 26 = .ok (.aload_n 0, 1) := by decide +kernel
theorem d_R_pairItem_27 : decode (mC M_R_pairItem) 27 = .ok (.dup, 1) := by decide +kernel
theorem d_R_pairItem_28 : decode (mC M_R_pairItem) 28 = .ok (.getfield 64, 3) := by decide +kernel
theorem d_R_pairItem_31 : decode (mC M_R_pairItem) 31 = .ok (.iconst 2, 1) := by decide +kernel
theorem d_R_pairItem_32 : decode (mC M_R_pairItem) 32 = .ok (.iadd, 1) := by decide +kernel
theorem d_R_pairItem_33 : decode (mC M_R_pairItem) 33 = .ok (.putfield 64, 3) := by decide +kernel
theorem d_R_pairItem_36 : decode (mC M_R_pairItem) 36 = .ok (.iload_n 2, 1) := by decide +kernel
theorem d_R_pairItem_37 : decode (mC M_R_pairItem) 37 = .ok (.i2l, 1) := by decide +kernel
theorem d_R_pairItem_38 : decode (mC M_R_pairItem) 38 = .ok (.lconst 0, 1) := by decide +kernel
theorem d_R_pairItem_39 : decode (mC M_R_pairItem) 39 = .ok (.aload_n 0, 1) := by decide +kernel
theorem d_R_pairItem_40 : decode (mC M_R_pairItem) 40 = .ok (.getfield 19, 3) := by decide +kernel
theorem d_R_pairItem_43 : decode (mC M_R_pairItem) 43 = .ok (.iconst 0, 1) := by decide +kernel
theorem d_R_pairItem_44 : decode (mC M_R_pairItem) 44 = .ok (.iaload, 1) := by decide +kernel
theorem d_R_pairItem_45 : decode (mC M_R_pairItem) 45 = .ok (.iconst 1, 1) := by decide +kernel
theorem d_R_pairItem_46 : decode (mC M_R_pairItem) 46 = .ok (.isub, 1) := by decide +kernel
theorem d_R_pairItem_47 : decode (mC M_R_pairItem) 47 = .ok (.i2l, 1) := by decide +kernel
theorem d_R_pairItem_48 : decode (mC M_R_pairItem) 48 = .ok (.invokestatic 56, 3) := by decide +kernel
theorem d_R_pairItem_51 : decode (mC M_R_pairItem) 51 = .ok (.ifCond .eq 26, 3) := by decide +kernel
theorem d_R_pairItem_54 : decode (mC M_R_pairItem) 54 = .ok (.iload_n 3, 1) := by decide +kernel
theorem d_R_pairItem_55 : decode (mC M_R_pairItem) 55 = .ok (.i2l, 1) := by decide +kernel
theorem d_R_pairItem_56 : decode (mC M_R_pairItem) 56 = .ok (.lconst 0, 1) := by decide +kernel
theorem d_R_pairItem_57 : decode (mC M_R_pairItem) 57 = .ok (.aload_n 0, 1) := by decide +kernel
theorem d_R_pairItem_58 : decode (mC M_R_pairItem) 58 = .ok (.getfield 19, 3) := by decide +kernel
theorem d_R_pairItem_61 : decode (mC M_R_pairItem) 61 = .ok (.iconst 0, 1) := by decide +kernel
theorem d_R_pairItem_62 : decode (mC M_R_pairItem) 62 = .ok (.iaload, 1) := by decide +kernel
theorem d_R_pairItem_63 : decode (mC M_R_pairItem) 63 = .ok (.iconst 1, 1) := by decide +kernel
theorem d_R_pairItem_64 : decode (mC M_R_pairItem) 64 = .ok (.isub, 1) := by decide +kernel
theorem d_R_pairItem_65 : decode (mC M_R_pairItem) 65 = .ok (.i2l, 1) := by decide +kernel
theorem d_R_pairItem_66 : decode (mC M_R_pairItem) 66 = .ok (.invokestatic 56, 3) := by decide +kernel
theorem d_R_pairItem_69 : decode (mC M_R_pairItem) 69 = .ok (.ifCond .eq 8, 3) := by decide +kernel
theorem d_R_pairItem_72 : decode (mC M_R_pairItem) 72 = .ok (.iload_n 2, 1) := by decide +kernel
theorem d_R_pairItem_73 : decode (mC M_R_pairItem) 73 = .ok (.iload_n 3, 1) := by decide +kernel
theorem d_R_pairItem_74 : decode (mC M_R_pairItem) 74 = .ok (.if_icmp .ne 5, 3) := by decide +kernel
theorem d_R_pairItem_77 : decode (mC M_R_pairItem) 77 = .ok (.iconst 0, 1) := by decide +kernel
theorem d_R_pairItem_78 : decode (mC M_R_pairItem) 78 = .ok (.ireturn, 1) := by decide +kernel
theorem d_R_pairItem_79 : decode (mC M_R_pairItem) 79 = .ok (.iload_n 1, 1) := by decide +kernel
theorem d_R_pairItem_80 : decode (mC M_R_pairItem) 80 = .ok (.bipush 112, 2) := by decide +kernel
theorem d_R_pairItem_82 : decode (mC M_R_pairItem) 82 = .ok (.if_icmp .ne 68, 3) := by decide +kernel
theorem d_R_pairItem_85 : decode (mC M_R_pairItem) 85 = .ok (.aload_n 0, 1) := by decide +kernel
theorem d_R_pairItem_86 : decode (mC M_R_pairItem) 86 = .ok (.getfield 19, 3) := by decide +kernel
theorem d_R_pairItem_89 : decode (mC M_R_pairItem) 89 = .ok (.bipush 14, 2) := by decide +kernel
theorem d_R_pairItem_91 : decode (mC M_R_pairItem) 91 = .ok (.iload_n 3, 1) := by decide +kernel
theorem d_R_pairItem_92 : decode (mC M_R_pairItem) 92 = .ok (.iadd, 1) := by decide +kernel
theorem d_R_pairItem_93 : decode (mC M_R_pairItem) 93 = .ok (.iaload, 1) := by decide +kernel
theorem d_R_pairItem_94 : decode (mC M_R_pairItem) 94 = .ok (.iload_n 2, 1) := by decide +kernel
theorem d_R_pairItem_95 : decode (mC M_R_pairItem) 95 = .ok (.invokestatic 48, 3) := by decide +kernel
theorem d_R_pairItem_98 : decode (mC M_R_pairItem) 98 = .ok (.ifCond .ne 22, 3) := by decide +kernel
theorem d_R_pairItem_101 : decode (mC M_R_pairItem) 101 = .ok (.aload_n 0, 1) := by decide +kernel
theorem d_R_pairItem_102 : decode (mC M_R_pairItem) 102 = .ok (.getfield 19, 3) := by decide +kernel
theorem d_R_pairItem_105 : decode (mC M_R_pairItem) 105 = .ok (.iload_n 2, 1) := by decide +kernel
theorem d_R_pairItem_106 : decode (mC M_R_pairItem) 106 = .ok (.invokestatic 75, 3) := by decide +kernel
theorem d_R_pairItem_109 : decode (mC M_R_pairItem) 109 = .ok (.iload_n 3, 1) := by decide +kernel
theorem d_R_pairItem_110 : decode (mC M_R_pairItem) 110 = .ok (.invokestatic 48, 3) := by decide +kernel
theorem d_R_pairItem_113 : decode (mC M_R_pairItem) 113 = .ok (.ifCond .ne 7, 3) := by decide +kernel
theorem d_R_pairItem_116 : decode (mC M_R_pairItem) 116 = .ok (.iconst 1, 1) := by decide +kernel
theorem d_R_pairItem_117 : decode (mC M_R_pairItem) 117 = .ok (.goto 4, 3) := by decide +kernel
theorem d_R_pairItem_120 : decode (mC M_R_pairItem) 120 = .ok (.iconst 0, 1) := by decide +kernel
theorem d_R_pairItem_121 : decode (mC M_R_pairItem) 121 = .ok (.istore 4, 2) := by decide +kernel
theorem d_R_pairItem_123 : decode (mC M_R_pairItem) 123 = .ok (.aload_n 0, 1) := by decide +kernel
theorem d_R_pairItem_124 : decode (mC M_R_pairItem) 124 = .ok (.getfield 19, 3) := by decide +kernel
theorem d_R_pairItem_127 : decode (mC M_R_pairItem) 127 = .ok (.bipush 14, 2) := by decide +kernel
theorem d_R_pairItem_129 : decode (mC M_R_pairItem) 129 = .ok (.iload_n 3, 1) := by decide +kernel
theorem d_R_pairItem_130 : decode (mC M_R_pairItem) 130 = .ok (.iadd, 1) := by decide +kernel
theorem d_R_pairItem_131 : decode (mC M_R_pairItem) 131 = .ok (.dup2, 1) := by decide +kernel
theorem d_R_pairItem_132 : decode (mC M_R_pairItem) 132 = .ok (.iaload, 1) := by decide +kernel
theorem d_R_pairItem_133 : decode (mC M_R_pairItem) 133 = .ok (.iload 4, 2) := by decide +kernel
theorem d_R_pairItem_135 : decode (mC M_R_pairItem) 135 = .ok (.ifCond .eq 9, 3) := by decide +kernel
theorem d_R_pairItem_138 : decode (mC M_R_pairItem) 138 = .ok (.iconst 1, 1) := by decide +kernel
theorem d_R_pairItem_139 : decode (mC M_R_pairItem) 139 = .ok (.iload_n 2, 1) := by decide +kernel
theorem d_R_pairItem_140 : decode (mC M_R_pairItem) 140 = .ok (.ishl, 1) := by decide +kernel
theorem d_R_pairItem_141 : decode (mC M_R_pairItem) 141 = .ok (.goto 4, 3) := by decide +kernel
theorem d_R_pairItem_144 : decode (mC M_R_pairItem) 144 = .ok (.iconst 0, 1) := by decide +kernel
theorem d_R_pairItem_145 : decode (mC M_R_pairItem) 145 = .ok (.ior, 1) := by decide +kernel
theorem d_R_pairItem_146 : decode (mC M_R_pairItem) 146 = .ok (.iastore, 1) := by decide +kernel
theorem d_R_pairItem_147 : decode (mC M_R_pairItem) 147 = .ok (.iload 4, 2) := by decide +kernel
theorem d_R_pairItem_149 : decode (mC M_R_pairItem) 149 = .ok (.ireturn, 1) := by decide +kernel
theorem d_R_pairItem_150 : decode (mC M_R_pairItem) 150 = .ok (.aload_n 0, 1) := by decide +kernel
theorem d_R_pairItem_151 : decode (mC M_R_pairItem) 151 = .ok (.getfield 19, 3) := by decide +kernel
theorem d_R_pairItem_154 : decode (mC M_R_pairItem) 154 = .ok (.bipush 26, 2) := by decide +kernel
theorem d_R_pairItem_156 : decode (mC M_R_pairItem) 156 = .ok (.iload_n 2, 1) := by decide +kernel
theorem d_R_pairItem_157 : decode (mC M_R_pairItem) 157 = .ok (.iadd, 1) := by decide +kernel
theorem d_R_pairItem_158 : decode (mC M_R_pairItem) 158 = .ok (.iaload, 1) := by decide +kernel
theorem d_R_pairItem_159 : decode (mC M_R_pairItem) 159 = .ok (.iload_n 3, 1) := by decide +kernel
theorem d_R_pairItem_160 : decode (mC M_R_pairItem) 160 = .ok (.invokestatic 48, 3) := by decide +kernel
theorem d_R_pairItem_163 : decode (mC M_R_pairItem) 163 = .ok (.ifCond .ne 23, 3) := by decide +kernel
theorem d_R_pairItem_166 : decode (mC M_R_pairItem) 166 = .ok (.aload_n 0, 1) := by decide +kernel
theorem d_R_pairItem_167 : decode (mC M_R_pairItem) 167 = .ok (.getfield 19, 3) := by decide +kernel
theorem d_R_pairItem_170 : decode (mC M_R_pairItem) 170 = .ok (.bipush 38, 2) := by decide +kernel
theorem d_R_pairItem_172 : decode (mC M_R_pairItem) 172 = .ok (.iload_n 2, 1) := by decide +kernel
theorem d_R_pairItem_173 : decode (mC M_R_pairItem) 173 = .ok (.iadd, 1) := by decide +kernel
theorem d_R_pairItem_174 : decode (mC M_R_pairItem) 174 = .ok (.iaload, 1) := by decide +kernel
theorem d_R_pairItem_175 : decode (mC M_R_pairItem) 175 = .ok (.iload_n 3, 1) := by decide +kernel
theorem d_R_pairItem_176 : decode (mC M_R_pairItem) 176 = .ok (.invokestatic 48, 3) := by decide +kernel
theorem d_R_pairItem_179 : decode (mC M_R_pairItem) 179 = .ok (.ifCond .ne 7, 3) := by decide +kernel
theorem d_R_pairItem_182 : decode (mC M_R_pairItem) 182 = .ok (.iconst 1, 1) := by decide +kernel
theorem d_R_pairItem_183 : decode (mC M_R_pairItem) 183 = .ok (.goto 4, 3) := by decide +kernel
theorem d_R_pairItem_186 : decode (mC M_R_pairItem) 186 = .ok (.iconst 0, 1) := by decide +kernel
theorem d_R_pairItem_187 : decode (mC M_R_pairItem) 187 = .ok (.istore 4, 2) := by decide +kernel
theorem d_R_pairItem_189 : decode (mC M_R_pairItem) 189 = .ok (.aload_n 0, 1) := by decide +kernel
theorem d_R_pairItem_190 : decode (mC M_R_pairItem) 190 = .ok (.getfield 19, 3) := by decide +kernel
theorem d_R_pairItem_193 : decode (mC M_R_pairItem) 193 = .ok (.iload_n 1, 1) := by decide +kernel
theorem d_R_pairItem_194 : decode (mC M_R_pairItem) 194 = .ok (.bipush 120, 2) := by decide +kernel
theorem d_R_pairItem_196 : decode (mC M_R_pairItem) 196 = .ok (.if_icmp .ne 8, 3) := by decide +kernel
theorem d_R_pairItem_199 : decode (mC M_R_pairItem) 199 = .ok (.bipush 26, 2) := by decide +kernel
theorem d_R_pairItem_201 : decode (mC M_R_pairItem) 201 = .ok (.goto 5, 3) := by decide +kernel
theorem d_R_pairItem_204 : decode (mC M_R_pairItem) 204 = .ok (.bipush 38, 2) := by decide +kernel
theorem d_R_pairItem_206 : decode (mC M_R_pairItem) 206 = .ok (.iload_n 2, 1) := by decide +kernel
theorem d_R_pairItem_207 : decode (mC M_R_pairItem) 207 = .ok (.iload_n 3, 1) := by decide +kernel
theorem d_R_pairItem_208 : decode (mC M_R_pairItem) 208 = .ok (.iload 4, 2) := by decide +kernel
theorem d_R_pairItem_210 : decode (mC M_R_pairItem) 210 = .ok (.ifCond .ne 30, 3) := by decide +kernel
theorem d_R_pairItem_213 : decode (mC M_R_pairItem) 213 = .ok (.aload_n 0, 1) := by decide +kernel
theorem d_R_pairItem_214 : decode (mC M_R_pairItem) 214 = .ok (.getfield 19, 3) := by decide +kernel
theorem d_R_pairItem_217 : decode (mC M_R_pairItem) 217 = .ok (.iload_n 1, 1) := by decide +kernel
theorem d_R_pairItem_218 : decode (mC M_R_pairItem) 218 = .ok (.bipush 120, 2) := by decide +kernel
theorem d_R_pairItem_220 : decode (mC M_R_pairItem) 220 = .ok (.if_icmp .ne 8, 3) := by decide +kernel
theorem d_R_pairItem_223 : decode (mC M_R_pairItem) 223 = .ok (.bipush 26, 2) := by decide +kernel
theorem d_R_pairItem_225 : decode (mC M_R_pairItem) 225 = .ok (.goto 5, 3) := by decide +kernel
theorem d_R_pairItem_228 : decode (mC M_R_pairItem) 228 = .ok (.bipush 38, 2) := by decide +kernel
theorem d_R_pairItem_230 : decode (mC M_R_pairItem) 230 = .ok (.iload_n 2, 1) := by decide +kernel
theorem d_R_pairItem_231 : decode (mC M_R_pairItem) 231 = .ok (.iadd, 1) := by decide +kernel
theorem d_R_pairItem_232 : decode (mC M_R_pairItem) 232 = .ok (.iaload, 1) := by decide +kernel
theorem d_R_pairItem_233 : decode (mC M_R_pairItem) 233 = .ok (.iload_n 3, 1) := by decide +kernel
theorem d_R_pairItem_234 : decode (mC M_R_pairItem) 234 = .ok (.invokestatic 48, 3) := by decide +kernel
theorem d_R_pairItem_237 : decode (mC M_R_pairItem) 237 = .ok (.ifCond .eq 7, 3) := by decide +kernel
theorem d_R_pairItem_240 : decode (mC M_R_pairItem) 240 = .ok (.iconst 1, 1) := by decide +kernel
theorem d_R_pairItem_241 : decode (mC M_R_pairItem) 241 = .ok (.goto 4, 3) := by decide +kernel
theorem d_R_pairItem_244 : decode (mC M_R_pairItem) 244 = .ok (.iconst 0, 1) := by decide +kernel
theorem d_R_pairItem_245 : decode (mC M_R_pairItem) 245 = .ok (.invokestatic 44, 3) := by decide +kernel
theorem d_R_pairItem_248 : decode (mC M_R_pairItem) 248 = .ok (.iload 4, 2) := by decide +kernel
theorem d_R_pairItem_250 : decode (mC M_R_pairItem) 250 = .ok (.ireturn, 1) := by decide +kernel
def vc_R_pairItem_245 (r : Option Value) (hf : hc_H) (J : Nat → hc_K) (lv : hc_L) (st : List Value) (h : hc_H) : Prop := (qi_invS hc_tt M_R_pairs 5 (qi_iload 4 (qi_zret r hf))) lv st h
theorem sn_R_pairItem_245 {Ph : Nat → State → Prop} {h0 hf : hc_H} {r : Option Value} : qk Ph M_R_pairItem h0 hf r 245 (vc_R_pairItem_245 r hf (cx Ph M_R_pairItem h0 hf r)) := (qs_invS hc_Ph_tt (fun _ _ _ => trivial) d_R_pairItem_245 zz_R_pairs wk_848 wk_849 ⟨by decide, by decide⟩ (qs_iload d_R_pairItem_248 (qs_zret d_R_pairItem_250 rfl)))
def vc_R_pairItem_244 (r : Option Value) (hf : hc_H) (J : Nat → hc_K) (lv : hc_L) (st : List Value) (h : hc_H) : Prop := (qi_push (nI 0) (vc_R_pairItem_245 r hf J)) lv st h
theorem sn_R_pairItem_244 {Ph : Nat → State → Prop} {h0 hf : hc_H} {r : Option Value} : qk Ph M_R_pairItem h0 hf r 244 (vc_R_pairItem_244 r hf (cx Ph M_R_pairItem h0 hf r)) := (qs_iconst d_R_pairItem_244 (by decide) sn_R_pairItem_245)
def vc_R_pairItem_240 (r : Option Value) (hf : hc_H) (J : Nat → hc_K) (lv : hc_L) (st : List Value) (h : hc_H) : Prop := (qi_push (nI 1) (vc_R_pairItem_245 r hf J)) lv st h
theorem sn_R_pairItem_240 {Ph : Nat → State → Prop} {h0 hf : hc_H} {r : Option Value} : qk Ph M_R_pairItem h0 hf r 240 (vc_R_pairItem_240 r hf (cx Ph M_R_pairItem h0 hf r)) := (qs_iconst d_R_pairItem_240 (by decide) (qs_goto (tgt := 245) d_R_pairItem_241 (by decide) sn_R_pairItem_245))
def vc_R_pairItem_230 (r : Option Value) (hf : hc_H) (J : Nat → hc_K) (lv : hc_L) (st : List Value) (h : hc_H) : Prop := (qi_iload 2 (qi_iadd (qi_iald 0 (qi_iload 3 (qi_invS hc_tt M_R_has 2 (qi_if_eq (vc_R_pairItem_244 r hf J) (vc_R_pairItem_240 r hf J))))))) lv st h
theorem sn_R_pairItem_230 {Ph : Nat → State → Prop} {h0 hf : hc_H} {r : Option Value} : qk Ph M_R_pairItem h0 hf r 230 (vc_R_pairItem_230 r hf (cx Ph M_R_pairItem h0 hf r)) := (qs_iload_n d_R_pairItem_230 rfl (qs_iadd d_R_pairItem_231 (qs_iaload d_R_pairItem_232 (qs_iload_n d_R_pairItem_233 rfl (qs_invS hc_Ph_tt (fun _ _ _ => trivial) d_R_pairItem_234 zz_R_has wk_932 wk_933 ⟨by decide, by decide⟩ (qs_if_eq (tgt := 244) d_R_pairItem_237 (by decide) sn_R_pairItem_244 sn_R_pairItem_240))))))
def vc_R_pairItem_228 (r : Option Value) (hf : hc_H) (J : Nat → hc_K) (lv : hc_L) (st : List Value) (h : hc_H) : Prop := (qi_push (nI 38) (vc_R_pairItem_230 r hf J)) lv st h
theorem sn_R_pairItem_228 {Ph : Nat → State → Prop} {h0 hf : hc_H} {r : Option Value} : qk Ph M_R_pairItem h0 hf r 228 (vc_R_pairItem_228 r hf (cx Ph M_R_pairItem h0 hf r)) := (qs_bipush d_R_pairItem_228 (by decide) sn_R_pairItem_230)
def vc_R_pairItem_206 (r : Option Value) (hf : hc_H) (J : Nat → hc_K) (lv : hc_L) (st : List Value) (h : hc_H) : Prop := (qi_iload 2 (qi_iload 3 (qi_iload 4 (qi_if_ne (vc_R_pairItem_240 r hf J) (qi_aload 0 (qi_get 6 5 (qi_iload 1 (qi_push (nI 120) (qi_icmp_ne (vc_R_pairItem_228 r hf J) (qi_push (nI 26) (vc_R_pairItem_230 r hf J))))))))))) lv st h
theorem sn_R_pairItem_206 {Ph : Nat → State → Prop} {h0 hf : hc_H} {r : Option Value} : qk Ph M_R_pairItem h0 hf r 206 (vc_R_pairItem_206 r hf (cx Ph M_R_pairItem h0 hf r)) := (qs_iload_n d_R_pairItem_206 rfl (qs_iload_n d_R_pairItem_207 rfl (qs_iload d_R_pairItem_208 (qs_if_ne (tgt := 240) d_R_pairItem_210 (by decide) sn_R_pairItem_240 (qs_aload_n d_R_pairItem_213 rfl (qs_get d_R_pairItem_214 ff_R_19 (qs_iload_n d_R_pairItem_217 rfl (qs_bipush d_R_pairItem_218 (by decide) (qs_icmp_ne (tgt := 228) d_R_pairItem_220 (by decide) sn_R_pairItem_228 (qs_bipush d_R_pairItem_223 (by decide) (qs_goto (tgt := 230) d_R_pairItem_225 (by decide) sn_R_pairItem_230)))))))))))
def vc_R_pairItem_204 (r : Option Value) (hf : hc_H) (J : Nat → hc_K) (lv : hc_L) (st : List Value) (h : hc_H) : Prop := (qi_push (nI 38) (vc_R_pairItem_206 r hf J)) lv st h
theorem sn_R_pairItem_204 {Ph : Nat → State → Prop} {h0 hf : hc_H} {r : Option Value} : qk Ph M_R_pairItem h0 hf r 204 (vc_R_pairItem_204 r hf (cx Ph M_R_pairItem h0 hf r)) := (qs_bipush d_R_pairItem_204 (by decide) sn_R_pairItem_206)
def vc_R_pairItem_187 (r : Option Value) (hf : hc_H) (J : Nat → hc_K) (lv : hc_L) (st : List Value) (h : hc_H) : Prop := (qi_istore 4 (qi_aload 0 (qi_get 6 5 (qi_iload 1 (qi_push (nI 120) (qi_icmp_ne (vc_R_pairItem_204 r hf J) (qi_push (nI 26) (vc_R_pairItem_206 r hf J)))))))) lv st h
theorem sn_R_pairItem_187 {Ph : Nat → State → Prop} {h0 hf : hc_H} {r : Option Value} : qk Ph M_R_pairItem h0 hf r 187 (vc_R_pairItem_187 r hf (cx Ph M_R_pairItem h0 hf r)) := (qs_istore d_R_pairItem_187 (by decide) (qs_aload_n d_R_pairItem_189 rfl (qs_get d_R_pairItem_190 ff_R_19 (qs_iload_n d_R_pairItem_193 rfl (qs_bipush d_R_pairItem_194 (by decide) (qs_icmp_ne (tgt := 204) d_R_pairItem_196 (by decide) sn_R_pairItem_204 (qs_bipush d_R_pairItem_199 (by decide) (qs_goto (tgt := 206) d_R_pairItem_201 (by decide) sn_R_pairItem_206))))))))
def vc_R_pairItem_186 (r : Option Value) (hf : hc_H) (J : Nat → hc_K) (lv : hc_L) (st : List Value) (h : hc_H) : Prop := (qi_push (nI 0) (vc_R_pairItem_187 r hf J)) lv st h
theorem sn_R_pairItem_186 {Ph : Nat → State → Prop} {h0 hf : hc_H} {r : Option Value} : qk Ph M_R_pairItem h0 hf r 186 (vc_R_pairItem_186 r hf (cx Ph M_R_pairItem h0 hf r)) := (qs_iconst d_R_pairItem_186 (by decide) sn_R_pairItem_187)
def vc_R_pairItem_150 (r : Option Value) (hf : hc_H) (J : Nat → hc_K) (lv : hc_L) (st : List Value) (h : hc_H) : Prop := (qi_aload 0 (qi_get 6 5 (qi_push (nI 26) (qi_iload 2 (qi_iadd (qi_iald 0 (qi_iload 3 (qi_invS hc_tt M_R_has 2 (qi_if_ne (vc_R_pairItem_186 r hf J) (qi_aload 0 (qi_get 6 5 (qi_push (nI 38) (qi_iload 2 (qi_iadd (qi_iald 0 (qi_iload 3 (qi_invS hc_tt M_R_has 2 (qi_if_ne (vc_R_pairItem_186 r hf J) (qi_push (nI 1) (vc_R_pairItem_187 r hf J)))))))))))))))))))) lv st h
theorem sn_R_pairItem_150 {Ph : Nat → State → Prop} {h0 hf : hc_H} {r : Option Value} : qk Ph M_R_pairItem h0 hf r 150 (vc_R_pairItem_150 r hf (cx Ph M_R_pairItem h0 hf r)) := (qs_aload_n d_R_pairItem_150 rfl (qs_get d_R_pairItem_151 ff_R_19 (qs_bipush d_R_pairItem_154 (by decide) (qs_iload_n d_R_pairItem_156 rfl (qs_iadd d_R_pairItem_157 (qs_iaload d_R_pairItem_158 (qs_iload_n d_R_pairItem_159 rfl (qs_invS hc_Ph_tt (fun _ _ _ => trivial) d_R_pairItem_160 zz_R_has wk_932 wk_933 ⟨by decide, by decide⟩ (qs_if_ne (tgt := 186) d_R_pairItem_163 (by decide) sn_R_pairItem_186 (qs_aload_n d_R_pairItem_166 rfl (qs_get d_R_pairItem_167 ff_R_19 (qs_bipush d_R_pairItem_170 (by decide) (qs_iload_n d_R_pairItem_172 rfl (qs_iadd d_R_pairItem_173 (qs_iaload d_R_pairItem_174 (qs_iload_n d_R_pairItem_175 rfl (qs_invS hc_Ph_tt (fun _ _ _ => trivial) d_R_pairItem_176 zz_R_has wk_932 wk_933 ⟨by decide, by decide⟩ (qs_if_ne (tgt := 186) d_R_pairItem_179 (by decide) sn_R_pairItem_186 (qs_iconst d_R_pairItem_182 (by decide) (qs_goto (tgt := 187) d_R_pairItem_183 (by decide) sn_R_pairItem_187))))))))))))))))))))
def vc_R_pairItem_145 (r : Option Value) (hf : hc_H) (J : Nat → hc_K) (lv : hc_L) (st : List Value) (h : hc_H) : Prop := (qi_ior (qi_iast (qi_iload 4 (qi_zret r hf)))) lv st h
theorem sn_R_pairItem_145 {Ph : Nat → State → Prop} {h0 hf : hc_H} {r : Option Value} : qk Ph M_R_pairItem h0 hf r 145 (vc_R_pairItem_145 r hf (cx Ph M_R_pairItem h0 hf r)) := (qs_ior d_R_pairItem_145 (qs_iastore d_R_pairItem_146 (qs_iload d_R_pairItem_147 (qs_zret d_R_pairItem_149 rfl))))
def vc_R_pairItem_144 (r : Option Value) (hf : hc_H) (J : Nat → hc_K) (lv : hc_L) (st : List Value) (h : hc_H) : Prop := (qi_push (nI 0) (vc_R_pairItem_145 r hf J)) lv st h
theorem sn_R_pairItem_144 {Ph : Nat → State → Prop} {h0 hf : hc_H} {r : Option Value} : qk Ph M_R_pairItem h0 hf r 144 (vc_R_pairItem_144 r hf (cx Ph M_R_pairItem h0 hf r)) := (qs_iconst d_R_pairItem_144 (by decide) sn_R_pairItem_145)
def vc_R_pairItem_121 (r : Option Value) (hf : hc_H) (J : Nat → hc_K) (lv : hc_L) (st : List Value) (h : hc_H) : Prop := (qi_istore 4 (qi_aload 0 (qi_get 6 5 (qi_push (nI 14) (qi_iload 3 (qi_iadd (qi_dup2 (qi_iald 0 (qi_iload 4 (qi_if_eq (vc_R_pairItem_144 r hf J) (qi_push (nI 1) (qi_iload 2 (qi_ishl (vc_R_pairItem_145 r hf J)))))))))))))) lv st h
theorem sn_R_pairItem_121 {Ph : Nat → State → Prop} {h0 hf : hc_H} {r : Option Value} : qk Ph M_R_pairItem h0 hf r 121 (vc_R_pairItem_121 r hf (cx Ph M_R_pairItem h0 hf r)) := (qs_istore d_R_pairItem_121 (by decide) (qs_aload_n d_R_pairItem_123 rfl (qs_get d_R_pairItem_124 ff_R_19 (qs_bipush d_R_pairItem_127 (by decide) (qs_iload_n d_R_pairItem_129 rfl (qs_iadd d_R_pairItem_130 (qs_dup2 d_R_pairItem_131 (qs_iaload d_R_pairItem_132 (qs_iload d_R_pairItem_133 (qs_if_eq (tgt := 144) d_R_pairItem_135 (by decide) sn_R_pairItem_144 (qs_iconst d_R_pairItem_138 (by decide) (qs_iload_n d_R_pairItem_139 rfl (qs_ishl d_R_pairItem_140 (qs_goto (tgt := 145) d_R_pairItem_141 (by decide) sn_R_pairItem_145))))))))))))))
def vc_R_pairItem_120 (r : Option Value) (hf : hc_H) (J : Nat → hc_K) (lv : hc_L) (st : List Value) (h : hc_H) : Prop := (qi_push (nI 0) (vc_R_pairItem_121 r hf J)) lv st h
theorem sn_R_pairItem_120 {Ph : Nat → State → Prop} {h0 hf : hc_H} {r : Option Value} : qk Ph M_R_pairItem h0 hf r 120 (vc_R_pairItem_120 r hf (cx Ph M_R_pairItem h0 hf r)) := (qs_iconst d_R_pairItem_120 (by decide) sn_R_pairItem_121)
def vc_R_pairItem_79 (r : Option Value) (hf : hc_H) (J : Nat → hc_K) (lv : hc_L) (st : List Value) (h : hc_H) : Prop := (qi_iload 1 (qi_push (nI 112) (qi_icmp_ne (vc_R_pairItem_150 r hf J) (qi_aload 0 (qi_get 6 5 (qi_push (nI 14) (qi_iload 3 (qi_iadd (qi_iald 0 (qi_iload 2 (qi_invS hc_tt M_R_has 2 (qi_if_ne (vc_R_pairItem_120 r hf J) (qi_aload 0 (qi_get 6 5 (qi_iload 2 (qi_invS hc_tt M_R_allBehind 2 (qi_iload 3 (qi_invS hc_tt M_R_has 2 (qi_if_ne (vc_R_pairItem_120 r hf J) (qi_push (nI 1) (vc_R_pairItem_121 r hf J))))))))))))))))))))) lv st h
theorem sn_R_pairItem_79 {Ph : Nat → State → Prop} {h0 hf : hc_H} {r : Option Value} : qk Ph M_R_pairItem h0 hf r 79 (vc_R_pairItem_79 r hf (cx Ph M_R_pairItem h0 hf r)) := (qs_iload_n d_R_pairItem_79 rfl (qs_bipush d_R_pairItem_80 (by decide) (qs_icmp_ne (tgt := 150) d_R_pairItem_82 (by decide) sn_R_pairItem_150 (qs_aload_n d_R_pairItem_85 rfl (qs_get d_R_pairItem_86 ff_R_19 (qs_bipush d_R_pairItem_89 (by decide) (qs_iload_n d_R_pairItem_91 rfl (qs_iadd d_R_pairItem_92 (qs_iaload d_R_pairItem_93 (qs_iload_n d_R_pairItem_94 rfl (qs_invS hc_Ph_tt (fun _ _ _ => trivial) d_R_pairItem_95 zz_R_has wk_932 wk_933 ⟨by decide, by decide⟩ (qs_if_ne (tgt := 120) d_R_pairItem_98 (by decide) sn_R_pairItem_120 (qs_aload_n d_R_pairItem_101 rfl (qs_get d_R_pairItem_102 ff_R_19 (qs_iload_n d_R_pairItem_105 rfl (qs_invS hc_Ph_tt (fun _ _ _ => trivial) d_R_pairItem_106 zz_R_allBehind wk_935 wk_936 ⟨by decide, by decide⟩ (qs_iload_n d_R_pairItem_109 rfl (qs_invS hc_Ph_tt (fun _ _ _ => trivial) d_R_pairItem_110 zz_R_has wk_932 wk_933 ⟨by decide, by decide⟩ (qs_if_ne (tgt := 120) d_R_pairItem_113 (by decide) sn_R_pairItem_120 (qs_iconst d_R_pairItem_116 (by decide) (qs_goto (tgt := 121) d_R_pairItem_117 (by decide) sn_R_pairItem_121)))))))))))))))))))))
def vc_R_pairItem_77 (r : Option Value) (hf : hc_H) (J : Nat → hc_K) (lv : hc_L) (st : List Value) (h : hc_H) : Prop := (qi_push (nI 0) (qi_zret r hf)) lv st h
theorem sn_R_pairItem_77 {Ph : Nat → State → Prop} {h0 hf : hc_H} {r : Option Value} : qk Ph M_R_pairItem h0 hf r 77 (vc_R_pairItem_77 r hf (cx Ph M_R_pairItem h0 hf r)) := (qs_iconst d_R_pairItem_77 (by decide) (qs_zret d_R_pairItem_78 rfl))
def vc_R_pairItem_0 (r : Option Value) (hf : hc_H) (J : Nat → hc_K) (lv : hc_L) (st : List Value) (h : hc_H) : Prop := (qi_aload 0 (qi_aload 0 (qi_get 6 6 (qi_invV hc_tt M_R_byteAt 1 6 (qi_push (nI 97) (qi_isub (qi_istore 2 (qi_aload 0 (qi_aload 0 (qi_get 6 6 (qi_push (nI 1) (qi_iadd (qi_invV hc_tt M_R_byteAt 1 6 (qi_push (nI 97) (qi_isub (qi_istore 3 (qi_aload 0 (qi_dup (qi_get 6 6 (qi_push (nI 2) (qi_iadd (qi_put 6 6 .int (qi_iload 2 (qi_i2l (qi_pushl (lN 0) (qi_aload 0 (qi_get 6 5 (qi_push (nI 0) (qi_iald 0 (qi_push (nI 1) (qi_isub (qi_i2l (qi_invS hc_tt M_R_in 3 (qi_if_eq (vc_R_pairItem_77 r hf J) (qi_iload 3 (qi_i2l (qi_pushl (lN 0) (qi_aload 0 (qi_get 6 5 (qi_push (nI 0) (qi_iald 0 (qi_push (nI 1) (qi_isub (qi_i2l (qi_invS hc_tt M_R_in 3 (qi_if_eq (vc_R_pairItem_77 r hf J) (qi_iload 2 (qi_iload 3 (qi_icmp_ne (vc_R_pairItem_79 r hf J) (vc_R_pairItem_77 r hf J)))))))))))))))))))))))))))))))))))))))))))))))))) lv st h
theorem sn_R_pairItem_0 {Ph : Nat → State → Prop} {h0 hf : hc_H} {r : Option Value} : qk Ph M_R_pairItem h0 hf r 0 (vc_R_pairItem_0 r hf (cx Ph M_R_pairItem h0 hf r)) := (qs_aload_n d_R_pairItem_0 rfl (qs_aload_n d_R_pairItem_1 rfl (qs_get d_R_pairItem_2 ff_R_64 (qs_invV hc_Ph_tt (fun _ _ _ => trivial) d_R_pairItem_5 zz_R_byteAt wk_922 ⟨wk_924, wk_26⟩ ⟨_, rfl, rfl⟩ ⟨by decide, by decide⟩ (qs_bipush d_R_pairItem_8 (by decide) (qs_isub d_R_pairItem_10 (qs_istore_n d_R_pairItem_11 rfl (by decide) (qs_aload_n d_R_pairItem_12 rfl (qs_aload_n d_R_pairItem_13 rfl (qs_get d_R_pairItem_14 ff_R_64 (qs_iconst d_R_pairItem_17 (by decide) (qs_iadd d_R_pairItem_18 (qs_invV hc_Ph_tt (fun _ _ _ => trivial) d_R_pairItem_19 zz_R_byteAt wk_922 ⟨wk_924, wk_26⟩ ⟨_, rfl, rfl⟩ ⟨by decide, by decide⟩ (qs_bipush d_R_pairItem_22 (by decide) (qs_isub d_R_pairItem_24 (qs_istore_n d_R_pairItem_25 rfl (by decide) (qs_aload_n d_R_pairItem_26 rfl (qs_dup d_R_pairItem_27 (qs_get d_R_pairItem_28 ff_R_64 (qs_iconst d_R_pairItem_31 (by decide) (qs_iadd d_R_pairItem_32 (qs_put d_R_pairItem_33 ff_R_64 ⟨_, _, _, rfl, rfl, by decide +kernel⟩ (qs_iload_n d_R_pairItem_36 rfl (qs_i2l d_R_pairItem_37 (qs_lconst d_R_pairItem_38 rfl (qs_aload_n d_R_pairItem_39 rfl (qs_get d_R_pairItem_40 ff_R_19 (qs_iconst d_R_pairItem_43 (by decide) (qs_iaload d_R_pairItem_44 (qs_iconst d_R_pairItem_45 (by decide) (qs_isub d_R_pairItem_46 (qs_i2l d_R_pairItem_47 (qs_invS hc_Ph_tt (fun _ _ _ => trivial) d_R_pairItem_48 zz_R_in wk_903 wk_904 ⟨by decide, by decide⟩ (qs_if_eq (tgt := 77) d_R_pairItem_51 (by decide) sn_R_pairItem_77 (qs_iload_n d_R_pairItem_54 rfl (qs_i2l d_R_pairItem_55 (qs_lconst d_R_pairItem_56 rfl (qs_aload_n d_R_pairItem_57 rfl (qs_get d_R_pairItem_58 ff_R_19 (qs_iconst d_R_pairItem_61 (by decide) (qs_iaload d_R_pairItem_62 (qs_iconst d_R_pairItem_63 (by decide) (qs_isub d_R_pairItem_64 (qs_i2l d_R_pairItem_65 (qs_invS hc_Ph_tt (fun _ _ _ => trivial) d_R_pairItem_66 zz_R_in wk_903 wk_904 ⟨by decide, by decide⟩ (qs_if_eq (tgt := 77) d_R_pairItem_69 (by decide) sn_R_pairItem_77 (qs_iload_n d_R_pairItem_72 rfl (qs_iload_n d_R_pairItem_73 rfl (qs_icmp_ne (tgt := 79) d_R_pairItem_74 (by decide) sn_R_pairItem_79 sn_R_pairItem_77)))))))))))))))))))))))))))))))))))))))))))))))))
theorem zz_R_pairItem : hc_z M_R_pairItem 1 := ⟨wk_931, wk_66, by decide +kernel⟩
theorem zz_R_number : hc_z M_R_number 3 := ⟨wk_921, wk_66, by decide +kernel⟩
/-! BalancedLineModel.item(IZ)Z -/
abbrev M_R_item : hc_M := (⟨"BalancedLineModel", "item", "(IZ)Z"⟩, prog_8_method_12_code, 4, (some .boolean), 3, 69)
theorem d_R_item_0 : decode (mC M_R_item) 0 = .ok (.iload_n 2, 1) := by decide +kernel
theorem d_R_item_1 : decode (mC M_R_item) 1 = .ok (.iload_n 1, 1) := by decide +kernel
theorem d_R_item_2 : decode (mC M_R_item) 2 = .ok (.bipush 99, 2) := by decide +kernel
theorem d_R_item_4 : decode (mC M_R_item) 4 = .ok (.if_icmp .ne 7, 3) := by decide +kernel
theorem d_R_item_7 : decode (mC M_R_item) 7 = .ok (.iconst 1, 1) := by decide +kernel
theorem d_R_item_8 : decode (mC M_R_item) 8 = .ok (.goto 4, 3) := by decide +kernel
theorem d_R_item_11 : decode (mC M_R_item) 11 = .ok (.iconst 0, 1) := by decide +kernel
theorem d_R_item_12 : decode (mC M_R_item) 12 = .ok (.if_icmp .eq 5, 3) := by decide +kernel
theorem d_R_item_15 : decode (mC M_R_item) 15 = .ok (.iconst 0, 1) := by decide +kernel
theorem d_R_item_16 : decode (mC M_R_item) 16 = .ok (.ireturn, 1) := by decide +kernel
theorem d_R_item_17 : decode (mC M_R_item) 17 = .ok (.iload_n 1, 1) := by decide +kernel
theorem d_R_item_18 : decode (mC M_R_item) 18 = .ok (.lookupswitch 139 #[(99, 50), (106, 133), (112, 133), (116, 80), (120, 133)], 50) := by decide +kernel
theorem d_R_item_68 : decode (mC M_R_item) 68 = .ok (.aload_n 0, 1) := by decide +kernel
theorem d_R_item_69 : decode (mC M_R_item) 69 = .ok (.getfield 19, 3) := by decide +kernel
theorem d_R_item_72 : decode (mC M_R_item) 72 = .ok (.iconst 1, 1) := by decide +kernel
theorem d_R_item_73 : decode (mC M_R_item) 73 = .ok (.aload_n 0, 1) := by decide +kernel
theorem d_R_item_74 : decode (mC M_R_item) 74 = .ok (.iconst 3, 1) := by decide +kernel
theorem d_R_item_75 : decode (mC M_R_item) 75 = .ok (.iconst 1, 1) := by decide +kernel
theorem d_R_item_76 : decode (mC M_R_item) 76 = .ok (.bipush 120, 2) := by decide +kernel
theorem d_R_item_78 : decode (mC M_R_item) 78 = .ok (.invokevirtual 79, 3) := by decide +kernel
theorem d_R_item_81 : decode (mC M_R_item) 81 = .ok (.iastore, 1) := by decide +kernel
theorem d_R_item_82 : decode (mC M_R_item) 82 = .ok (.aload_n 0, 1) := by decide +kernel
theorem d_R_item_83 : decode (mC M_R_item) 83 = .ok (.getfield 19, 3) := by decide +kernel
theorem d_R_item_86 : decode (mC M_R_item) 86 = .ok (.iconst 1, 1) := by decide +kernel
theorem d_R_item_87 : decode (mC M_R_item) 87 = .ok (.iaload, 1) := by decide +kernel
theorem d_R_item_88 : decode (mC M_R_item) 88 = .ok (.iconst (-1), 1) := by decide +kernel
theorem d_R_item_89 : decode (mC M_R_item) 89 = .ok (.if_icmp .eq 7, 3) := by decide +kernel
theorem d_R_item_92 : decode (mC M_R_item) 92 = .ok (.iconst 1, 1) := by decide +kernel
theorem d_R_item_93 : decode (mC M_R_item) 93 = .ok (.goto 4, 3) := by decide +kernel
theorem d_R_item_96 : decode (mC M_R_item) 96 = .ok (.iconst 0, 1) := by decide +kernel
theorem d_R_item_97 : decode (mC M_R_item) 97 = .ok (.ireturn, 1) := by decide +kernel
theorem d_R_item_98 : decode (mC M_R_item) 98 = .ok (.aload_n 0, 1) := by decide +kernel
theorem d_R_item_99 : decode (mC M_R_item) 99 = .ok (.iconst 2, 1) := by decide +kernel
theorem d_R_item_100 : decode (mC M_R_item) 100 = .ok (.iconst 1, 1) := by decide +kernel
theorem d_R_item_101 : decode (mC M_R_item) 101 = .ok (.bipush 60, 2) := by decide +kernel
theorem d_R_item_103 : decode (mC M_R_item) 103 = .ok (.invokevirtual 79, 3) := by decide +kernel
theorem d_R_item_106 : decode (mC M_R_item) 106 = .ok (.istore_n 3, 1) := by decide +kernel
theorem d_R_item_107 : decode (mC M_R_item) 107 = .ok (.iload_n 3, 1) := by decide +kernel
theorem d_R_item_108 : decode (mC M_R_item) 108 = .ok (.iconst (-1), 1) := by decide +kernel
theorem d_R_item_109 : decode (mC M_R_item) 109 = .ok (.if_icmp .eq 14, 3) := by decide +kernel
theorem d_R_item_112 : decode (mC M_R_item) 112 = .ok (.aload_n 0, 1) := by decide +kernel
theorem d_R_item_113 : decode (mC M_R_item) 113 = .ok (.getfield 19, 3) := by decide +kernel
theorem d_R_item_116 : decode (mC M_R_item) 116 = .ok (.iconst 0, 1) := by decide +kernel
theorem d_R_item_117 : decode (mC M_R_item) 117 = .ok (.iaload, 1) := by decide +kernel
theorem d_R_item_118 : decode (mC M_R_item) 118 = .ok (.bipush 12, 2) := by decide +kernel
theorem d_R_item_120 : decode (mC M_R_item) 120 = .ok (.if_icmp .ne 5, 3) := by decide +kernel
theorem d_R_item_123 : decode (mC M_R_item) 123 = .ok (.iconst 0, 1) := by decide +kernel
theorem d_R_item_124 : decode (mC M_R_item) 124 = .ok (.ireturn, 1) := by decide +kernel
theorem d_R_item_125 : decode (mC M_R_item) 125 = .ok (.aload_n 0, 1) := by decide +kernel
theorem d_R_item_126 : decode (mC M_R_item) 126 = .ok (.getfield 19, 3) := by decide +kernel
theorem d_R_item_129 : decode (mC M_R_item) 129 = .ok (.iconst 2, 1) := by decide +kernel
theorem d_R_item_130 : decode (mC M_R_item) 130 = .ok (.aload_n 0, 1) := by decide +kernel
theorem d_R_item_131 : decode (mC M_R_item) 131 = .ok (.getfield 19, 3) := by decide +kernel
theorem d_R_item_134 : decode (mC M_R_item) 134 = .ok (.iconst 0, 1) := by decide +kernel
theorem d_R_item_135 : decode (mC M_R_item) 135 = .ok (.iaload, 1) := by decide +kernel
theorem d_R_item_136 : decode (mC M_R_item) 136 = .ok (.iadd, 1) := by decide +kernel
theorem d_R_item_137 : decode (mC M_R_item) 137 = .ok (.iload_n 3, 1) := by decide +kernel
theorem d_R_item_138 : decode (mC M_R_item) 138 = .ok (.iastore, 1) := by decide +kernel
theorem d_R_item_139 : decode (mC M_R_item) 139 = .ok (.aload_n 0, 1) := by decide +kernel
theorem d_R_item_140 : decode (mC M_R_item) 140 = .ok (.getfield 19, 3) := by decide +kernel
theorem d_R_item_143 : decode (mC M_R_item) 143 = .ok (.iconst 0, 1) := by decide +kernel
theorem d_R_item_144 : decode (mC M_R_item) 144 = .ok (.dup2, 1) := by decide +kernel
theorem d_R_item_145 : decode (mC M_R_item) 145 = .ok (.iaload, 1) := by decide +kernel
theorem d_R_item_146 : decode (mC M_R_item) 146 = .ok (.iconst 1, 1) := by decide +kernel
theorem d_R_item_147 : decode (mC M_R_item) 147 = .ok (.iadd, 1) := by decide +kernel
theorem d_R_item_148 : decode (mC M_R_item) 148 = .ok (.iastore, 1) := by decide +kernel
theorem d_R_item_149 : decode (mC M_R_item) 149 = .ok (.iconst 1, 1) := by decide +kernel
theorem d_R_item_150 : decode (mC M_R_item) 150 = .ok (.ireturn, 1) := by decide +kernel
theorem d_R_item_151 : decode (mC M_R_item) 151 = .ok (.aload_n 0, 1) := by decide +kernel
theorem d_R_item_152 : decode (mC M_R_item) 152 = .ok (.iload_n 1, 1) := by decide +kernel
theorem d_R_item_153 : decode (mC M_R_item) 153 = .ok (.invokevirtual 83, 3) := by decide +kernel
theorem d_R_item_156 : decode (mC M_R_item) 156 = .ok (.ireturn, 1) := by decide +kernel
theorem d_R_item_157 : decode (mC M_R_item) 157 = .ok (.iconst 0, 1) := by decide +kernel
theorem d_R_item_158 : decode (mC M_R_item) 158 = .ok (.ireturn, 1) := by decide +kernel
def vc_R_item_157 (r : Option Value) (hf : hc_H) (J : Nat → hc_K) (lv : hc_L) (st : List Value) (h : hc_H) : Prop := (qi_push (nI 0) (qi_zret r hf)) lv st h
theorem sn_R_item_157 {Ph : Nat → State → Prop} {h0 hf : hc_H} {r : Option Value} : qk Ph M_R_item h0 hf r 157 (vc_R_item_157 r hf (cx Ph M_R_item h0 hf r)) := (qs_iconst d_R_item_157 (by decide) (qs_zret d_R_item_158 rfl))
def vc_R_item_151 (r : Option Value) (hf : hc_H) (J : Nat → hc_K) (lv : hc_L) (st : List Value) (h : hc_H) : Prop := (qi_aload 0 (qi_iload 1 (qi_invV hc_tt M_R_pairItem 1 6 (qi_zret r hf)))) lv st h
theorem sn_R_item_151 {Ph : Nat → State → Prop} {h0 hf : hc_H} {r : Option Value} : qk Ph M_R_item h0 hf r 151 (vc_R_item_151 r hf (cx Ph M_R_item h0 hf r)) := (qs_aload_n d_R_item_151 rfl (qs_iload_n d_R_item_152 rfl (qs_invV hc_Ph_tt (fun _ _ _ => trivial) d_R_item_153 zz_R_pairItem wk_928 ⟨wk_930, wk_27⟩ ⟨_, rfl, rfl⟩ ⟨by decide, by decide⟩ (qs_zret d_R_item_156 rfl))))
def vc_R_item_125 (r : Option Value) (hf : hc_H) (J : Nat → hc_K) (lv : hc_L) (st : List Value) (h : hc_H) : Prop := (qi_aload 0 (qi_get 6 5 (qi_push (nI 2) (qi_aload 0 (qi_get 6 5 (qi_push (nI 0) (qi_iald 0 (qi_iadd (qi_iload 3 (qi_iast (qi_aload 0 (qi_get 6 5 (qi_push (nI 0) (qi_dup2 (qi_iald 0 (qi_push (nI 1) (qi_iadd (qi_iast (qi_push (nI 1) (qi_zret r hf)))))))))))))))))))) lv st h
theorem sn_R_item_125 {Ph : Nat → State → Prop} {h0 hf : hc_H} {r : Option Value} : qk Ph M_R_item h0 hf r 125 (vc_R_item_125 r hf (cx Ph M_R_item h0 hf r)) := (qs_aload_n d_R_item_125 rfl (qs_get d_R_item_126 ff_R_19 (qs_iconst d_R_item_129 (by decide) (qs_aload_n d_R_item_130 rfl (qs_get d_R_item_131 ff_R_19 (qs_iconst d_R_item_134 (by decide) (qs_iaload d_R_item_135 (qs_iadd d_R_item_136 (qs_iload_n d_R_item_137 rfl (qs_iastore d_R_item_138 (qs_aload_n d_R_item_139 rfl (qs_get d_R_item_140 ff_R_19 (qs_iconst d_R_item_143 (by decide) (qs_dup2 d_R_item_144 (qs_iaload d_R_item_145 (qs_iconst d_R_item_146 (by decide) (qs_iadd d_R_item_147 (qs_iastore d_R_item_148 (qs_iconst d_R_item_149 (by decide) (qs_zret d_R_item_150 rfl))))))))))))))))))))
def vc_R_item_123 (r : Option Value) (hf : hc_H) (J : Nat → hc_K) (lv : hc_L) (st : List Value) (h : hc_H) : Prop := (qi_push (nI 0) (qi_zret r hf)) lv st h
theorem sn_R_item_123 {Ph : Nat → State → Prop} {h0 hf : hc_H} {r : Option Value} : qk Ph M_R_item h0 hf r 123 (vc_R_item_123 r hf (cx Ph M_R_item h0 hf r)) := (qs_iconst d_R_item_123 (by decide) (qs_zret d_R_item_124 rfl))
def vc_R_item_98 (r : Option Value) (hf : hc_H) (J : Nat → hc_K) (lv : hc_L) (st : List Value) (h : hc_H) : Prop := (qi_aload 0 (qi_push (nI 2) (qi_push (nI 1) (qi_push (nI 60) (qi_invV hc_tt M_R_number 3 6 (qi_istore 3 (qi_iload 3 (qi_push (-1) (qi_icmp_eq (vc_R_item_123 r hf J) (qi_aload 0 (qi_get 6 5 (qi_push (nI 0) (qi_iald 0 (qi_push (nI 12) (qi_icmp_ne (vc_R_item_125 r hf J) (vc_R_item_123 r hf J)))))))))))))))) lv st h
theorem sn_R_item_98 {Ph : Nat → State → Prop} {h0 hf : hc_H} {r : Option Value} : qk Ph M_R_item h0 hf r 98 (vc_R_item_98 r hf (cx Ph M_R_item h0 hf r)) := (qs_aload_n d_R_item_98 rfl (qs_iconst d_R_item_99 (by decide) (qs_iconst d_R_item_100 (by decide) (qs_bipush d_R_item_101 (by decide) (qs_invV hc_Ph_tt (fun _ _ _ => trivial) d_R_item_103 zz_R_number wk_918 ⟨wk_920, wk_25⟩ ⟨_, rfl, rfl⟩ ⟨by decide, by decide⟩ (qs_istore_n d_R_item_106 rfl (by decide) (qs_iload_n d_R_item_107 rfl (qs_iconst d_R_item_108 (by decide) (qs_icmp_eq (tgt := 123) d_R_item_109 (by decide) sn_R_item_123 (qs_aload_n d_R_item_112 rfl (qs_get d_R_item_113 ff_R_19 (qs_iconst d_R_item_116 (by decide) (qs_iaload d_R_item_117 (qs_bipush d_R_item_118 (by decide) (qs_icmp_ne (tgt := 125) d_R_item_120 (by decide) sn_R_item_125 sn_R_item_123)))))))))))))))
def vc_R_item_97 (r : Option Value) (hf : hc_H) (J : Nat → hc_K) (lv : hc_L) (st : List Value) (h : hc_H) : Prop := (qi_zret r hf) lv st h
theorem sn_R_item_97 {Ph : Nat → State → Prop} {h0 hf : hc_H} {r : Option Value} : qk Ph M_R_item h0 hf r 97 (vc_R_item_97 r hf (cx Ph M_R_item h0 hf r)) := (qs_zret d_R_item_97 rfl)
def vc_R_item_96 (r : Option Value) (hf : hc_H) (J : Nat → hc_K) (lv : hc_L) (st : List Value) (h : hc_H) : Prop := (qi_push (nI 0) (vc_R_item_97 r hf J)) lv st h
theorem sn_R_item_96 {Ph : Nat → State → Prop} {h0 hf : hc_H} {r : Option Value} : qk Ph M_R_item h0 hf r 96 (vc_R_item_96 r hf (cx Ph M_R_item h0 hf r)) := (qs_iconst d_R_item_96 (by decide) sn_R_item_97)
def vc_R_item_68 (r : Option Value) (hf : hc_H) (J : Nat → hc_K) (lv : hc_L) (st : List Value) (h : hc_H) : Prop := (qi_aload 0 (qi_get 6 5 (qi_push (nI 1) (qi_aload 0 (qi_push (nI 3) (qi_push (nI 1) (qi_push (nI 120) (qi_invV hc_tt M_R_number 3 6 (qi_iast (qi_aload 0 (qi_get 6 5 (qi_push (nI 1) (qi_iald 0 (qi_push (-1) (qi_icmp_eq (vc_R_item_96 r hf J) (qi_push (nI 1) (vc_R_item_97 r hf J))))))))))))))))) lv st h
theorem sn_R_item_68 {Ph : Nat → State → Prop} {h0 hf : hc_H} {r : Option Value} : qk Ph M_R_item h0 hf r 68 (vc_R_item_68 r hf (cx Ph M_R_item h0 hf r)) := (qs_aload_n d_R_item_68 rfl (qs_get d_R_item_69 ff_R_19 (qs_iconst d_R_item_72 (by decide) (qs_aload_n d_R_item_73 rfl (qs_iconst d_R_item_74 (by decide) (qs_iconst d_R_item_75 (by decide) (qs_bipush d_R_item_76 (by decide) (qs_invV hc_Ph_tt (fun _ _ _ => trivial) d_R_item_78 zz_R_number wk_918 ⟨wk_920, wk_25⟩ ⟨_, rfl, rfl⟩ ⟨by decide, by decide⟩ (qs_iastore d_R_item_81 (qs_aload_n d_R_item_82 rfl (qs_get d_R_item_83 ff_R_19 (qs_iconst d_R_item_86 (by decide) (qs_iaload d_R_item_87 (qs_iconst d_R_item_88 (by decide) (qs_icmp_eq (tgt := 96) d_R_item_89 (by decide) sn_R_item_96 (qs_iconst d_R_item_92 (by decide) (qs_goto (tgt := 97) d_R_item_93 (by decide) sn_R_item_97)))))))))))))))))
def vc_R_item_17 (r : Option Value) (hf : hc_H) (J : Nat → hc_K) (lv : hc_L) (st : List Value) (h : hc_H) : Prop := (qi_iload 1 (qi_sw (vc_R_item_157 r hf J) [((nI 99), (vc_R_item_68 r hf J)), ((nI 106), (vc_R_item_151 r hf J)), ((nI 112), (vc_R_item_151 r hf J)), ((nI 116), (vc_R_item_98 r hf J)), ((nI 120), (vc_R_item_151 r hf J))])) lv st h
theorem sn_R_item_17 {Ph : Nat → State → Prop} {h0 hf : hc_H} {r : Option Value} : qk Ph M_R_item h0 hf r 17 (vc_R_item_17 r hf (cx Ph M_R_item h0 hf r)) := (qs_iload_n d_R_item_17 rfl (qs_lookup (tgt := 157) d_R_item_18 rfl (by decide) ⟨by decide, ⟨68, by decide, sn_R_item_68⟩, ⟨by decide, ⟨151, by decide, sn_R_item_151⟩, ⟨by decide, ⟨151, by decide, sn_R_item_151⟩, ⟨by decide, ⟨98, by decide, sn_R_item_98⟩, ⟨by decide, ⟨151, by decide, sn_R_item_151⟩, trivial⟩⟩⟩⟩⟩ (by decide) sn_R_item_157))
def vc_R_item_12 (r : Option Value) (hf : hc_H) (J : Nat → hc_K) (lv : hc_L) (st : List Value) (h : hc_H) : Prop := (qi_icmp_eq (vc_R_item_17 r hf J) (qi_push (nI 0) (qi_zret r hf))) lv st h
theorem sn_R_item_12 {Ph : Nat → State → Prop} {h0 hf : hc_H} {r : Option Value} : qk Ph M_R_item h0 hf r 12 (vc_R_item_12 r hf (cx Ph M_R_item h0 hf r)) := (qs_icmp_eq (tgt := 17) d_R_item_12 (by decide) sn_R_item_17 (qs_iconst d_R_item_15 (by decide) (qs_zret d_R_item_16 rfl)))
def vc_R_item_11 (r : Option Value) (hf : hc_H) (J : Nat → hc_K) (lv : hc_L) (st : List Value) (h : hc_H) : Prop := (qi_push (nI 0) (vc_R_item_12 r hf J)) lv st h
theorem sn_R_item_11 {Ph : Nat → State → Prop} {h0 hf : hc_H} {r : Option Value} : qk Ph M_R_item h0 hf r 11 (vc_R_item_11 r hf (cx Ph M_R_item h0 hf r)) := (qs_iconst d_R_item_11 (by decide) sn_R_item_12)
def vc_R_item_0 (r : Option Value) (hf : hc_H) (J : Nat → hc_K) (lv : hc_L) (st : List Value) (h : hc_H) : Prop := (qi_iload 2 (qi_iload 1 (qi_push (nI 99) (qi_icmp_ne (vc_R_item_11 r hf J) (qi_push (nI 1) (vc_R_item_12 r hf J)))))) lv st h
theorem sn_R_item_0 {Ph : Nat → State → Prop} {h0 hf : hc_H} {r : Option Value} : qk Ph M_R_item h0 hf r 0 (vc_R_item_0 r hf (cx Ph M_R_item h0 hf r)) := (qs_iload_n d_R_item_0 rfl (qs_iload_n d_R_item_1 rfl (qs_bipush d_R_item_2 (by decide) (qs_icmp_ne (tgt := 11) d_R_item_4 (by decide) sn_R_item_11 (qs_iconst d_R_item_7 (by decide) (qs_goto (tgt := 12) d_R_item_8 (by decide) sn_R_item_12))))))
theorem zz_R_item : hc_z M_R_item 2 := ⟨wk_917, wk_66, by decide +kernel⟩
/-! BalancedLineModel.fault()I -/
abbrev M_R_fault : hc_M := (⟨"BalancedLineModel", "fault", "()I"⟩, prog_8_method_13_code, 2, (some .int), 4, 92)
theorem d_R_fault_0 : decode (mC M_R_fault) 0 = .ok (.iconst 0, 1) := by decide +kernel
theorem d_R_fault_1 : decode (mC M_R_fault) 1 = .ok (.istore_n 1, 1) := by decide +kernel
theorem d_R_fault_2 : decode (mC M_R_fault) 2 = .ok (.iload_n 1, 1) := by decide +kernel
theorem d_R_fault_3 : decode (mC M_R_fault) 3 = .ok (.bipush 62, 2) := by decide +kernel
theorem d_R_fault_5 : decode (mC M_R_fault) 5 = .ok (.if_icmp .ge 16, 3) := by decide +kernel
theorem d_R_fault_8 : decode (mC M_R_fault) 8 = .ok (.aload_n 0, 1) := by decide +kernel
theorem d_R_fault_9 : decode (mC M_R_fault) 9 = .ok (.getfield 19, 3) := by decide +kernel
theorem d_R_fault_12 : decode (mC M_R_fault) 12 = .ok (.iload_n 1, 1) := by decide +kernel
theorem d_R_fault_13 : decode (mC M_R_fault) 13 = .ok (.iconst 0, 1) := by decide +kernel
theorem d_R_fault_14 : decode (mC M_R_fault) 14 = .ok (.iastore, 1) := by decide +kernel
theorem d_R_fault_15 : decode (mC M_R_fault) 15 = .ok (.iinc 1 1, 3) := by decide +kernel
theorem d_R_fault_18 : decode (mC M_R_fault) 18 = .ok (.goto (-16), 3) := by decide +kernel
theorem d_R_fault_21 : decode (mC M_R_fault) 21 = .ok (.aload_n 0, 1) := by decide +kernel
theorem d_R_fault_22 : decode (mC M_R_fault) 22 = .ok (.iconst 0, 1) := by decide +kernel
theorem d_R_fault_23 : decode (mC M_R_fault) 23 = .ok (.putfield 64, 3) := by decide +kernel
theorem d_R_fault_26 : decode (mC M_R_fault) 26 = .ok (.aload_n 0, 1) := by decide +kernel
theorem d_R_fault_27 : decode (mC M_R_fault) 27 = .ok (.getfield 64, 3) := by decide +kernel
theorem d_R_fault_30 : decode (mC M_R_fault) 30 = .ok (.aload_n 0, 1) := by decide +kernel
theorem d_R_fault_31 : decode (mC M_R_fault) 31 = .ok (.getfield 60, 3) := by decide +kernel
theorem d_R_fault_34 : decode (mC M_R_fault) 34 = .ok (.if_icmp .ge 68, 3) := by decide +kernel
theorem d_R_fault_37 : decode (mC M_R_fault) 37 = .ok (.aload_n 0, 1) := by decide +kernel
theorem d_R_fault_38 : decode (mC M_R_fault) 38 = .ok (.getfield 64, 3) := by decide +kernel
theorem d_R_fault_41 : decode (mC M_R_fault) 41 = .ok (.istore_n 1, 1) := by decide +kernel
theorem d_R_fault_42 : decode (mC M_R_fault) 42 = .ok (.aload_n 0, 1) := by decide +kernel
theorem d_R_fault_43 : decode (mC M_R_fault) 43 = .ok (.dup, 1) := by decide +kernel
theorem d_R_fault_44 : decode (mC M_R_fault) 44 = .ok (.getfield 64, 3) := by decide +kernel
theorem d_R_fault_47 : decode (mC M_R_fault) 47 = .ok (.iconst 1, 1) := by decide +kernel
theorem d_R_fault_48 : decode (mC M_R_fault) 48 = .ok (.iadd, 1) := by decide +kernel
theorem d_R_fault_49 : decode (mC M_R_fault) 49 = .ok (.putfield 64, 3) := by decide +kernel
theorem d_R_fault_52 : decode (mC M_R_fault) 52 = .ok (.aload_n 0, 1) := by decide +kernel
theorem d_R_fault_53 : decode (mC M_R_fault) 53 = .ok (.aload_n 0, 1) := by decide +kernel
theorem d_R_fault_54 : decode (mC M_R_fault) 54 = .ok (.getfield 7, 3) := by decide +kernel
theorem d_R_fault_57 : decode (mC M_R_fault) 57 = .ok (.iload_n 1, 1) := by decide +kernel
theorem d_R_fault_58 : decode (mC M_R_fault) 58 = .ok (.iaload, 1) := by decide +kernel
theorem d_R_fault_59 : decode (mC M_R_fault) 59 = .ok (.iload_n 1, 1) := by decide +kernel
theorem d_R_fault_60 : decode (mC M_R_fault) 60 = .ok (.ifCond .ne 7, 3) := by decide +kernel
theorem d_R_fault_63 : decode (mC M_R_fault) 63 = .ok (.iconst 1, 1) := by decide +kernel
theorem d_R_fault_64 : decode (mC M_R_fault) 64 = .ok (.goto 4, 3) := by decide +kernel
theorem d_R_fault_67 : decode (mC M_R_fault) 67 = .ok (.iconst 0, 1) := by decide +kernel
theorem d_R_fault_68 : decode (mC M_R_fault) 68 = .ok (.invokevirtual 87, 3) := by decide +kernel
theorem d_R_fault_71 : decode (mC M_R_fault) 71 = .ok (.ifCond .eq 16, 3) := by decide +kernel
theorem d_R_fault_74 : decode (mC M_R_fault) 74 = .ok (.aload_n 0, 1) := by decide +kernel
theorem d_R_fault_75 : decode (mC M_R_fault) 75 = .ok (.aload_n 0, 1) := by decide +kernel
theorem d_R_fault_76 : decode (mC M_R_fault) 76 = .ok (.getfield 64, 3) := by decide +kernel
theorem d_R_fault_79 : decode (mC M_R_fault) 79 = .ok (.invokevirtual 67, 3) := by decide +kernel
theorem d_R_fault_82 : decode (mC M_R_fault) 82 = .ok (.bipush 59, 2) := by decide +kernel
theorem d_R_fault_84 : decode (mC M_R_fault) 84 = .ok (.if_icmp .eq 5, 3) := by decide +kernel
theorem d_R_fault_87 : decode (mC M_R_fault) 87 = .ok (.iload_n 1, 1) := by decide +kernel
theorem d_R_fault_88 : decode (mC M_R_fault) 88 = .ok (.ireturn, 1) := by decide +kernel
theorem d_R_fault_89 : decode (mC M_R_fault) 89 = .ok (.aload_n 0, 1) := by decide +kernel
theorem d_R_fault_90 : decode (mC M_R_fault) 90 = .ok (.dup, 1) := by decide +kernel
theorem d_R_fault_91 : decode (mC M_R_fault) 91 = .ok (.getfield 64, 3) := by decide +kernel
theorem d_R_fault_94 : decode (mC M_R_fault) 94 = .ok (.iconst 1, 1) := by decide +kernel
theorem d_R_fault_95 : decode (mC M_R_fault) 95 = .ok (.iadd, 1) := by decide +kernel
theorem d_R_fault_96 : decode (mC M_R_fault) 96 = .ok (.putfield 64, 3) := by decide +kernel
theorem d_R_fault_99 : decode (mC M_R_fault) 99 = .ok (.goto (-73), 3) := by decide +kernel
theorem d_R_fault_102 : decode (mC M_R_fault) 102 = .ok (.bipush (-4), 2) := by decide +kernel
theorem d_R_fault_104 : decode (mC M_R_fault) 104 = .ok (.ireturn, 1) := by decide +kernel
def vc_R_fault_102 (r : Option Value) (hf : hc_H) (J : Nat → hc_K) (lv : hc_L) (st : List Value) (h : hc_H) : Prop := (qi_push (-4) (qi_iret r hf)) lv st h
theorem sn_R_fault_102 {Ph : Nat → State → Prop} {h0 hf : hc_H} {r : Option Value} : qk Ph M_R_fault h0 hf r 102 (vc_R_fault_102 r hf (cx Ph M_R_fault h0 hf r)) := (qs_bipush d_R_fault_102 (by decide) (qs_iret d_R_fault_104 rfl))
def vc_R_fault_89 (r : Option Value) (hf : hc_H) (J : Nat → hc_K) (lv : hc_L) (st : List Value) (h : hc_H) : Prop := (qi_aload 0 (qi_dup (qi_get 6 6 (qi_push (nI 1) (qi_iadd (qi_put 6 6 .int (J 26))))))) lv st h
theorem sn_R_fault_89 {Ph : Nat → State → Prop} {h0 hf : hc_H} {r : Option Value} : qk Ph M_R_fault h0 hf r 89 (vc_R_fault_89 r hf (cx Ph M_R_fault h0 hf r)) := (qs_aload_n d_R_fault_89 rfl (qs_dup d_R_fault_90 (qs_get d_R_fault_91 ff_R_64 (qs_iconst d_R_fault_94 (by decide) (qs_iadd d_R_fault_95 (qs_put d_R_fault_96 ff_R_64 ⟨_, _, _, rfl, rfl, by decide +kernel⟩ (qs_goto (tgt := 26) d_R_fault_99 (by decide) (fun _ _ _ h9 => h9))))))))
def vc_R_fault_87 (r : Option Value) (hf : hc_H) (J : Nat → hc_K) (lv : hc_L) (st : List Value) (h : hc_H) : Prop := (qi_iload 1 (qi_iret r hf)) lv st h
theorem sn_R_fault_87 {Ph : Nat → State → Prop} {h0 hf : hc_H} {r : Option Value} : qk Ph M_R_fault h0 hf r 87 (vc_R_fault_87 r hf (cx Ph M_R_fault h0 hf r)) := (qs_iload_n d_R_fault_87 rfl (qs_iret d_R_fault_88 rfl))
def vc_R_fault_68 (r : Option Value) (hf : hc_H) (J : Nat → hc_K) (lv : hc_L) (st : List Value) (h : hc_H) : Prop := (qi_invV hc_tt M_R_item 2 6 (qi_if_eq (vc_R_fault_87 r hf J) (qi_aload 0 (qi_aload 0 (qi_get 6 6 (qi_invV hc_tt M_R_byteAt 1 6 (qi_push (nI 59) (qi_icmp_eq (vc_R_fault_89 r hf J) (vc_R_fault_87 r hf J))))))))) lv st h
theorem sn_R_fault_68 {Ph : Nat → State → Prop} {h0 hf : hc_H} {r : Option Value} : qk Ph M_R_fault h0 hf r 68 (vc_R_fault_68 r hf (cx Ph M_R_fault h0 hf r)) := (qs_invV hc_Ph_tt (fun _ _ _ => trivial) d_R_fault_68 zz_R_item wk_914 ⟨wk_916, wk_24⟩ ⟨_, rfl, rfl⟩ ⟨by decide, by decide⟩ (qs_if_eq (tgt := 87) d_R_fault_71 (by decide) sn_R_fault_87 (qs_aload_n d_R_fault_74 rfl (qs_aload_n d_R_fault_75 rfl (qs_get d_R_fault_76 ff_R_64 (qs_invV hc_Ph_tt (fun _ _ _ => trivial) d_R_fault_79 zz_R_byteAt wk_922 ⟨wk_924, wk_26⟩ ⟨_, rfl, rfl⟩ ⟨by decide, by decide⟩ (qs_bipush d_R_fault_82 (by decide) (qs_icmp_eq (tgt := 89) d_R_fault_84 (by decide) sn_R_fault_89 sn_R_fault_87))))))))
def vc_R_fault_67 (r : Option Value) (hf : hc_H) (J : Nat → hc_K) (lv : hc_L) (st : List Value) (h : hc_H) : Prop := (qi_push (nI 0) (vc_R_fault_68 r hf J)) lv st h
theorem sn_R_fault_67 {Ph : Nat → State → Prop} {h0 hf : hc_H} {r : Option Value} : qk Ph M_R_fault h0 hf r 67 (vc_R_fault_67 r hf (cx Ph M_R_fault h0 hf r)) := (qs_iconst d_R_fault_67 (by decide) sn_R_fault_68)
def vc_R_fault_26 (r : Option Value) (hf : hc_H) (J : Nat → hc_K) (lv : hc_L) (st : List Value) (h : hc_H) : Prop := (qi_aload 0 (qi_get 6 6 (qi_aload 0 (qi_get 6 0 (qi_icmp_ge (vc_R_fault_102 r hf J) (qi_aload 0 (qi_get 6 6 (qi_istore 1 (qi_aload 0 (qi_dup (qi_get 6 6 (qi_push (nI 1) (qi_iadd (qi_put 6 6 .int (qi_aload 0 (qi_aload 0 (qi_get 6 1 (qi_iload 1 (qi_iald 0 (qi_iload 1 (qi_if_ne (vc_R_fault_67 r hf J) (qi_push (nI 1) (vc_R_fault_68 r hf J))))))))))))))))))))))) lv st h
theorem sn_R_fault_26 {Ph : Nat → State → Prop} {h0 hf : hc_H} {r : Option Value} : qk Ph M_R_fault h0 hf r 26 (vc_R_fault_26 r hf (cx Ph M_R_fault h0 hf r)) := (qs_aload_n d_R_fault_26 rfl (qs_get d_R_fault_27 ff_R_64 (qs_aload_n d_R_fault_30 rfl (qs_get d_R_fault_31 ff_R_60 (qs_icmp_ge (tgt := 102) d_R_fault_34 (by decide) sn_R_fault_102 (qs_aload_n d_R_fault_37 rfl (qs_get d_R_fault_38 ff_R_64 (qs_istore_n d_R_fault_41 rfl (by decide) (qs_aload_n d_R_fault_42 rfl (qs_dup d_R_fault_43 (qs_get d_R_fault_44 ff_R_64 (qs_iconst d_R_fault_47 (by decide) (qs_iadd d_R_fault_48 (qs_put d_R_fault_49 ff_R_64 ⟨_, _, _, rfl, rfl, by decide +kernel⟩ (qs_aload_n d_R_fault_52 rfl (qs_aload_n d_R_fault_53 rfl (qs_get d_R_fault_54 ff_R_7 (qs_iload_n d_R_fault_57 rfl (qs_iaload d_R_fault_58 (qs_iload_n d_R_fault_59 rfl (qs_if_ne (tgt := 67) d_R_fault_60 (by decide) sn_R_fault_67 (qs_iconst d_R_fault_63 (by decide) (qs_goto (tgt := 68) d_R_fault_64 (by decide) sn_R_fault_68)))))))))))))))))))))))
def vc_R_fault_21 (r : Option Value) (hf : hc_H) (J : Nat → hc_K) (lv : hc_L) (st : List Value) (h : hc_H) : Prop := (qi_aload 0 (qi_push (nI 0) (qi_put 6 6 .int (J 26)))) lv st h
theorem sn_R_fault_21 {Ph : Nat → State → Prop} {h0 hf : hc_H} {r : Option Value} : qk Ph M_R_fault h0 hf r 21 (vc_R_fault_21 r hf (cx Ph M_R_fault h0 hf r)) := (qs_aload_n d_R_fault_21 rfl (qs_iconst d_R_fault_22 (by decide) (qs_put d_R_fault_23 ff_R_64 ⟨_, _, _, rfl, rfl, by decide +kernel⟩ (fun _ _ _ h9 => h9))))
def vc_R_fault_2 (r : Option Value) (hf : hc_H) (J : Nat → hc_K) (lv : hc_L) (st : List Value) (h : hc_H) : Prop := (qi_iload 1 (qi_push (nI 62) (qi_icmp_ge (vc_R_fault_21 r hf J) (qi_aload 0 (qi_get 6 5 (qi_iload 1 (qi_push (nI 0) (qi_iast (qi_iinc 1 (nI 1) (J 2)))))))))) lv st h
theorem sn_R_fault_2 {Ph : Nat → State → Prop} {h0 hf : hc_H} {r : Option Value} : qk Ph M_R_fault h0 hf r 2 (vc_R_fault_2 r hf (cx Ph M_R_fault h0 hf r)) := (qs_iload_n d_R_fault_2 rfl (qs_bipush d_R_fault_3 (by decide) (qs_icmp_ge (tgt := 21) d_R_fault_5 (by decide) sn_R_fault_21 (qs_aload_n d_R_fault_8 rfl (qs_get d_R_fault_9 ff_R_19 (qs_iload_n d_R_fault_12 rfl (qs_iconst d_R_fault_13 (by decide) (qs_iastore d_R_fault_14 (qs_iinc d_R_fault_15 (by decide) (by decide) (qs_goto (tgt := 2) d_R_fault_18 (by decide) (fun _ _ _ h9 => h9)))))))))))
def vc_R_fault_0 (r : Option Value) (hf : hc_H) (J : Nat → hc_K) (lv : hc_L) (st : List Value) (h : hc_H) : Prop := (qi_push (nI 0) (qi_istore 1 (J 2))) lv st h
theorem sn_R_fault_0 {Ph : Nat → State → Prop} {h0 hf : hc_H} {r : Option Value} : qk Ph M_R_fault h0 hf r 0 (vc_R_fault_0 r hf (cx Ph M_R_fault h0 hf r)) := (qs_iconst d_R_fault_0 (by decide) (qs_istore_n d_R_fault_1 rfl (by decide) (fun _ _ _ h9 => h9)))
theorem zz_R_fault : hc_z M_R_fault 0 := ⟨wk_913, wk_66, by decide +kernel⟩
/-! BalancedLineModel.lay()I -/
abbrev M_R_lay : hc_M := (⟨"BalancedLineModel", "lay", "()I"⟩, prog_8_method_14_code, 2, (some .int), 5, 113)
theorem d_R_lay_0 : decode (mC M_R_lay) 0 = .ok (.aload_n 0, 1) := by decide +kernel
theorem d_R_lay_1 : decode (mC M_R_lay) 1 = .ok (.invokevirtual 91, 3) := by decide +kernel
theorem d_R_lay_4 : decode (mC M_R_lay) 4 = .ok (.bipush (-4), 2) := by decide +kernel
theorem d_R_lay_6 : decode (mC M_R_lay) 6 = .ok (.if_icmp .ne 12, 3) := by decide +kernel
theorem d_R_lay_9 : decode (mC M_R_lay) 9 = .ok (.aload_n 0, 1) := by decide +kernel
theorem d_R_lay_10 : decode (mC M_R_lay) 10 = .ok (.getfield 19, 3) := by decide +kernel
theorem d_R_lay_13 : decode (mC M_R_lay) 13 = .ok (.iconst 0, 1) := by decide +kernel
theorem d_R_lay_14 : decode (mC M_R_lay) 14 = .ok (.iaload, 1) := by decide +kernel
theorem d_R_lay_15 : decode (mC M_R_lay) 15 = .ok (.ifCond .ne 6, 3) := by decide +kernel
theorem d_R_lay_18 : decode (mC M_R_lay) 18 = .ok (.bipush (-2), 2) := by decide +kernel
theorem d_R_lay_20 : decode (mC M_R_lay) 20 = .ok (.ireturn, 1) := by decide +kernel
theorem d_R_lay_21 : decode (mC M_R_lay) 21 = .ok (.iconst 0, 1) := by decide +kernel
theorem d_R_lay_22 : decode (mC M_R_lay) 22 = .ok (.istore_n 1, 1) := by decide +kernel
theorem d_R_lay_23 : decode (mC M_R_lay) 23 = .ok (.iload_n 1, 1) := by decide +kernel
theorem d_R_lay_24 : decode (mC M_R_lay) 24 = .ok (.bipush 62, 2) := by decide +kernel
theorem d_R_lay_26 : decode (mC M_R_lay) 26 = .ok (.if_icmp .ge 21, 3) := by decide +kernel
theorem d_R_lay_29 : decode (mC M_R_lay) 29 = .ok (.aload_n 0, 1) := by decide +kernel
theorem d_R_lay_30 : decode (mC M_R_lay) 30 = .ok (.getfield 13, 3) := by decide +kernel
theorem d_R_lay_33 : decode (mC M_R_lay) 33 = .ok (.iload_n 1, 1) := by decide +kernel
theorem d_R_lay_34 : decode (mC M_R_lay) 34 = .ok (.aload_n 0, 1) := by decide +kernel
theorem d_R_lay_35 : decode (mC M_R_lay) 35 = .ok (.getfield 19, 3) := by decide +kernel
theorem d_R_lay_38 : decode (mC M_R_lay) 38 = .ok (.iload_n 1, 1) := by decide +kernel
theorem d_R_lay_39 : decode (mC M_R_lay) 39 = .ok (.iaload, 1) := by decide +kernel
theorem d_R_lay_40 : decode (mC M_R_lay) 40 = .ok (.iastore, 1) := by decide +kernel
theorem d_R_lay_41 : decode (mC M_R_lay) 41 = .ok (.iinc 1 1, 3) := by decide +kernel
theorem d_R_lay_44 : decode (mC M_R_lay) 44 = .ok (.goto (-21), 3) := by decide +kernel
theorem d_R_lay_47 : decode (mC M_R_lay) 47 = .ok (.aload_n 0, 1) := by decide +kernel
theorem d_R_lay_48 : decode (mC M_R_lay) 48 = .ok (.iconst 0, 1) := by decide +kernel
theorem d_R_lay_49 : decode (mC M_R_lay) 49 = .ok (.putfield 95, 3) := by decide +kernel
theorem d_R_lay_52 : decode (mC M_R_lay) 52 = .ok (.aload_n 0, 1) := by decide +kernel
theorem d_R_lay_53 : decode (mC M_R_lay) 53 = .ok (.getfield 13, 3) := by decide +kernel
theorem d_R_lay_56 : decode (mC M_R_lay) 56 = .ok (.iconst 0, 1) := by decide +kernel
theorem d_R_lay_57 : decode (mC M_R_lay) 57 = .ok (.iaload, 1) := by decide +kernel
theorem d_R_lay_58 : decode (mC M_R_lay) 58 = .ok (.ireturn, 1) := by decide +kernel
def vc_R_lay_47 (r : Option Value) (hf : hc_H) (J : Nat → hc_K) (lv : hc_L) (st : List Value) (h : hc_H) : Prop := (qi_aload 0 (qi_push (nI 0) (qi_put 6 4 .int (qi_aload 0 (qi_get 6 2 (qi_push (nI 0) (qi_iald 0 (qi_iret r hf)))))))) lv st h
theorem sn_R_lay_47 {Ph : Nat → State → Prop} {h0 hf : hc_H} {r : Option Value} : qk Ph M_R_lay h0 hf r 47 (vc_R_lay_47 r hf (cx Ph M_R_lay h0 hf r)) := (qs_aload_n d_R_lay_47 rfl (qs_iconst d_R_lay_48 (by decide) (qs_put d_R_lay_49 ff_R_95 ⟨_, _, _, rfl, rfl, by decide +kernel⟩ (qs_aload_n d_R_lay_52 rfl (qs_get d_R_lay_53 ff_R_13 (qs_iconst d_R_lay_56 (by decide) (qs_iaload d_R_lay_57 (qs_iret d_R_lay_58 rfl))))))))
def vc_R_lay_23 (r : Option Value) (hf : hc_H) (J : Nat → hc_K) (lv : hc_L) (st : List Value) (h : hc_H) : Prop := (qi_iload 1 (qi_push (nI 62) (qi_icmp_ge (vc_R_lay_47 r hf J) (qi_aload 0 (qi_get 6 2 (qi_iload 1 (qi_aload 0 (qi_get 6 5 (qi_iload 1 (qi_iald 0 (qi_iast (qi_iinc 1 (nI 1) (J 23))))))))))))) lv st h
theorem sn_R_lay_23 {Ph : Nat → State → Prop} {h0 hf : hc_H} {r : Option Value} : qk Ph M_R_lay h0 hf r 23 (vc_R_lay_23 r hf (cx Ph M_R_lay h0 hf r)) := (qs_iload_n d_R_lay_23 rfl (qs_bipush d_R_lay_24 (by decide) (qs_icmp_ge (tgt := 47) d_R_lay_26 (by decide) sn_R_lay_47 (qs_aload_n d_R_lay_29 rfl (qs_get d_R_lay_30 ff_R_13 (qs_iload_n d_R_lay_33 rfl (qs_aload_n d_R_lay_34 rfl (qs_get d_R_lay_35 ff_R_19 (qs_iload_n d_R_lay_38 rfl (qs_iaload d_R_lay_39 (qs_iastore d_R_lay_40 (qs_iinc d_R_lay_41 (by decide) (by decide) (qs_goto (tgt := 23) d_R_lay_44 (by decide) (fun _ _ _ h9 => h9))))))))))))))
def vc_R_lay_21 (r : Option Value) (hf : hc_H) (J : Nat → hc_K) (lv : hc_L) (st : List Value) (h : hc_H) : Prop := (qi_push (nI 0) (qi_istore 1 (J 23))) lv st h
theorem sn_R_lay_21 {Ph : Nat → State → Prop} {h0 hf : hc_H} {r : Option Value} : qk Ph M_R_lay h0 hf r 21 (vc_R_lay_21 r hf (cx Ph M_R_lay h0 hf r)) := (qs_iconst d_R_lay_21 (by decide) (qs_istore_n d_R_lay_22 rfl (by decide) (fun _ _ _ h9 => h9)))
def vc_R_lay_18 (r : Option Value) (hf : hc_H) (J : Nat → hc_K) (lv : hc_L) (st : List Value) (h : hc_H) : Prop := (qi_push (-2) (qi_iret r hf)) lv st h
theorem sn_R_lay_18 {Ph : Nat → State → Prop} {h0 hf : hc_H} {r : Option Value} : qk Ph M_R_lay h0 hf r 18 (vc_R_lay_18 r hf (cx Ph M_R_lay h0 hf r)) := (qs_bipush d_R_lay_18 (by decide) (qs_iret d_R_lay_20 rfl))
def vc_R_lay_0 (r : Option Value) (hf : hc_H) (J : Nat → hc_K) (lv : hc_L) (st : List Value) (h : hc_H) : Prop := (qi_aload 0 (qi_invV hc_tt M_R_fault 0 6 (qi_push (-4) (qi_icmp_ne (vc_R_lay_18 r hf J) (qi_aload 0 (qi_get 6 5 (qi_push (nI 0) (qi_iald 0 (qi_if_ne (vc_R_lay_21 r hf J) (vc_R_lay_18 r hf J)))))))))) lv st h
theorem sn_R_lay_0 {Ph : Nat → State → Prop} {h0 hf : hc_H} {r : Option Value} : qk Ph M_R_lay h0 hf r 0 (vc_R_lay_0 r hf (cx Ph M_R_lay h0 hf r)) := (qs_aload_n d_R_lay_0 rfl (qs_invV hc_Ph_tt (fun _ _ _ => trivial) d_R_lay_1 zz_R_fault wk_942 ⟨wk_911, wk_912⟩ ⟨_, rfl, rfl⟩ ⟨by decide, by decide⟩ (qs_bipush d_R_lay_4 (by decide) (qs_icmp_ne (tgt := 18) d_R_lay_6 (by decide) sn_R_lay_18 (qs_aload_n d_R_lay_9 rfl (qs_get d_R_lay_10 ff_R_19 (qs_iconst d_R_lay_13 (by decide) (qs_iaload d_R_lay_14 (qs_if_ne (tgt := 21) d_R_lay_15 (by decide) sn_R_lay_21 sn_R_lay_18)))))))))
/-! BalancedLineModel.note()V -/
abbrev M_R_note : hc_M := (⟨"BalancedLineModel", "note", "()V"⟩, prog_8_method_15_code, 2, none, 0, 0)
theorem d_R_note_0 : decode (mC M_R_note) 0 = .ok (.aload_n 0, 1) := by decide +kernel
theorem d_R_note_1 : decode (mC M_R_note) 1 = .ok (.getfield 95, 3) := by decide +kernel
theorem d_R_note_4 : decode (mC M_R_note) 4 = .ok (.bipush 6, 2) := by decide +kernel
theorem d_R_note_6 : decode (mC M_R_note) 6 = .ok (.if_icmp .ne 43, 3) := by decide +kernel
theorem d_R_note_9 : decode (mC M_R_note) 9 = .ok (.iconst 0, 1) := by decide +kernel
theorem d_R_note_10 : decode (mC M_R_note) 10 = .ok (.istore_n 1, 1) := by decide +kernel
theorem d_R_note_11 : decode (mC M_R_note) 11 = .ok (.iload_n 1, 1) := by decide +kernel
theorem d_R_note_12 : decode (mC M_R_note) 12 = .ok (.sipush 310, 3) := by decide +kernel
theorem d_R_note_15 : decode (mC M_R_note) 15 = .ok (.if_icmp .ge 24, 3) := by decide +kernel
theorem d_R_note_18 : decode (mC M_R_note) 18 = .ok (.aload_n 0, 1) := by decide +kernel
theorem d_R_note_19 : decode (mC M_R_note) 19 = .ok (.getfield 16, 3) := by decide +kernel
theorem d_R_note_22 : decode (mC M_R_note) 22 = .ok (.iload_n 1, 1) := by decide +kernel
theorem d_R_note_23 : decode (mC M_R_note) 23 = .ok (.aload_n 0, 1) := by decide +kernel
theorem d_R_note_24 : decode (mC M_R_note) 24 = .ok (.getfield 16, 3) := by decide +kernel
theorem d_R_note_27 : decode (mC M_R_note) 27 = .ok (.bipush 62, 2) := by decide +kernel
theorem d_R_note_29 : decode (mC M_R_note) 29 = .ok (.iload_n 1, 1) := by decide +kernel
theorem d_R_note_30 : decode (mC M_R_note) 30 = .ok (.iadd, 1) := by decide +kernel
theorem d_R_note_31 : decode (mC M_R_note) 31 = .ok (.iaload, 1) := by decide +kernel
theorem d_R_note_32 : decode (mC M_R_note) 32 = .ok (.iastore, 1) := by decide +kernel
theorem d_R_note_33 : decode (mC M_R_note) 33 = .ok (.iinc 1 1, 3) := by decide +kernel
theorem d_R_note_36 : decode (mC M_R_note) 36 = .ok (.goto (-25), 3) := by decide +kernel
theorem d_R_note_39 : decode (mC M_R_note) 39 = .ok (.aload_n 0, 1) := by decide +kernel
theorem d_R_note_40 : decode (mC M_R_note) 40 = .ok (.dup, 1) := by decide +kernel
theorem d_R_note_41 : decode (mC M_R_note) 41 = .ok (.getfield 95, 3) := by decide +kernel
theorem d_R_note_44 : decode (mC M_R_note) 44 = .ok (.iconst 1, 1) := by decide +kernel
theorem d_R_note_45 : decode (mC M_R_note) 45 = .ok (.isub, 1) := by decide +kernel
theorem d_R_note_46 : decode (mC M_R_note) 46 = .ok (.putfield 95, 3) := by decide +kernel
theorem d_R_note_49 : decode (mC M_R_note) 49 = .ok (.iconst 0, 1) := by decide +kernel
theorem d_R_note_50 : decode (mC M_R_note) 50 = .ok (.istore_n 1, 1) := by decide +kernel
theorem d_R_note_51 : decode (mC M_R_note) 51 = .ok (.iload_n 1, 1) := by decide +kernel
theorem d_R_note_52 : decode (mC M_R_note) 52 = .ok (.bipush 62, 2) := by decide +kernel
theorem d_R_note_54 : decode (mC M_R_note) 54 = .ok (.if_icmp .ge 29, 3) := by decide +kernel
theorem d_R_note_57 : decode (mC M_R_note) 57 = .ok (.aload_n 0, 1) := by decide +kernel
theorem d_R_note_58 : decode (mC M_R_note) 58 = .ok (.getfield 16, 3) := by decide +kernel
theorem d_R_note_61 : decode (mC M_R_note) 61 = .ok (.bipush 62, 2) := by decide +kernel
theorem d_R_note_63 : decode (mC M_R_note) 63 = .ok (.aload_n 0, 1) := by decide +kernel
theorem d_R_note_64 : decode (mC M_R_note) 64 = .ok (.getfield 95, 3) := by decide +kernel
theorem d_R_note_67 : decode (mC M_R_note) 67 = .ok (.imul, 1) := by decide +kernel
theorem d_R_note_68 : decode (mC M_R_note) 68 = .ok (.iload_n 1, 1) := by decide +kernel
theorem d_R_note_69 : decode (mC M_R_note) 69 = .ok (.iadd, 1) := by decide +kernel
theorem d_R_note_70 : decode (mC M_R_note) 70 = .ok (.aload_n 0, 1) := by decide +kernel
theorem d_R_note_71 : decode (mC M_R_note) 71 = .ok (.getfield 13, 3) := by decide +kernel
theorem d_R_note_74 : decode (mC M_R_note) 74 = .ok (.iload_n 1, 1) := by decide +kernel
theorem d_R_note_75 : decode (mC M_R_note) 75 = .ok (.iaload, 1) := by decide +kernel
theorem d_R_note_76 : decode (mC M_R_note) 76 = .ok (.iastore, 1) := by decide +kernel
theorem d_R_note_77 : decode (mC M_R_note) 77 = .ok (.iinc 1 1, 3) := by decide +kernel
theorem d_R_note_80 : decode (mC M_R_note) 80 = .ok (.goto (-29), 3) := by decide +kernel
theorem d_R_note_83 : decode (mC M_R_note) 83 = .ok (.aload_n 0, 1) := by decide +kernel
theorem d_R_note_84 : decode (mC M_R_note) 84 = .ok (.dup, 1) := by decide +kernel
theorem d_R_note_85 : decode (mC M_R_note) 85 = .ok (.getfield 95, 3) := by decide +kernel
theorem d_R_note_88 : decode (mC M_R_note) 88 = .ok (.iconst 1, 1) := by decide +kernel
theorem d_R_note_89 : decode (mC M_R_note) 89 = .ok (.iadd, 1) := by decide +kernel
theorem d_R_note_90 : decode (mC M_R_note) 90 = .ok (.putfield 95, 3) := by decide +kernel
theorem d_R_note_93 : decode (mC M_R_note) 93 = .ok (.return_, 1) := by decide +kernel
def vc_R_note_83 (r : Option Value) (hf : hc_H) (J : Nat → hc_K) (lv : hc_L) (st : List Value) (h : hc_H) : Prop := (qi_aload 0 (qi_dup (qi_get 6 4 (qi_push (nI 1) (qi_iadd (qi_put 6 4 .int (qi_vret r hf))))))) lv st h
theorem sn_R_note_83 {Ph : Nat → State → Prop} {h0 hf : hc_H} {r : Option Value} : qk Ph M_R_note h0 hf r 83 (vc_R_note_83 r hf (cx Ph M_R_note h0 hf r)) := (qs_aload_n d_R_note_83 rfl (qs_dup d_R_note_84 (qs_get d_R_note_85 ff_R_95 (qs_iconst d_R_note_88 (by decide) (qs_iadd d_R_note_89 (qs_put d_R_note_90 ff_R_95 ⟨_, _, _, rfl, rfl, by decide +kernel⟩ (qs_vret d_R_note_93 rfl)))))))
def vc_R_note_51 (r : Option Value) (hf : hc_H) (J : Nat → hc_K) (lv : hc_L) (st : List Value) (h : hc_H) : Prop := (qi_iload 1 (qi_push (nI 62) (qi_icmp_ge (vc_R_note_83 r hf J) (qi_aload 0 (qi_get 6 3 (qi_push (nI 62) (qi_aload 0 (qi_get 6 4 (qi_imul (qi_iload 1 (qi_iadd (qi_aload 0 (qi_get 6 2 (qi_iload 1 (qi_iald 0 (qi_iast (qi_iinc 1 (nI 1) (J 51)))))))))))))))))) lv st h
theorem sn_R_note_51 {Ph : Nat → State → Prop} {h0 hf : hc_H} {r : Option Value} : qk Ph M_R_note h0 hf r 51 (vc_R_note_51 r hf (cx Ph M_R_note h0 hf r)) := (qs_iload_n d_R_note_51 rfl (qs_bipush d_R_note_52 (by decide) (qs_icmp_ge (tgt := 83) d_R_note_54 (by decide) sn_R_note_83 (qs_aload_n d_R_note_57 rfl (qs_get d_R_note_58 ff_R_16 (qs_bipush d_R_note_61 (by decide) (qs_aload_n d_R_note_63 rfl (qs_get d_R_note_64 ff_R_95 (qs_imul d_R_note_67 (qs_iload_n d_R_note_68 rfl (qs_iadd d_R_note_69 (qs_aload_n d_R_note_70 rfl (qs_get d_R_note_71 ff_R_13 (qs_iload_n d_R_note_74 rfl (qs_iaload d_R_note_75 (qs_iastore d_R_note_76 (qs_iinc d_R_note_77 (by decide) (by decide) (qs_goto (tgt := 51) d_R_note_80 (by decide) (fun _ _ _ h9 => h9)))))))))))))))))))
def vc_R_note_49 (r : Option Value) (hf : hc_H) (J : Nat → hc_K) (lv : hc_L) (st : List Value) (h : hc_H) : Prop := (qi_push (nI 0) (qi_istore 1 (J 51))) lv st h
theorem sn_R_note_49 {Ph : Nat → State → Prop} {h0 hf : hc_H} {r : Option Value} : qk Ph M_R_note h0 hf r 49 (vc_R_note_49 r hf (cx Ph M_R_note h0 hf r)) := (qs_iconst d_R_note_49 (by decide) (qs_istore_n d_R_note_50 rfl (by decide) (fun _ _ _ h9 => h9)))
def vc_R_note_39 (r : Option Value) (hf : hc_H) (J : Nat → hc_K) (lv : hc_L) (st : List Value) (h : hc_H) : Prop := (qi_aload 0 (qi_dup (qi_get 6 4 (qi_push (nI 1) (qi_isub (qi_put 6 4 .int (vc_R_note_49 r hf J))))))) lv st h
theorem sn_R_note_39 {Ph : Nat → State → Prop} {h0 hf : hc_H} {r : Option Value} : qk Ph M_R_note h0 hf r 39 (vc_R_note_39 r hf (cx Ph M_R_note h0 hf r)) := (qs_aload_n d_R_note_39 rfl (qs_dup d_R_note_40 (qs_get d_R_note_41 ff_R_95 (qs_iconst d_R_note_44 (by decide) (qs_isub d_R_note_45 (qs_put d_R_note_46 ff_R_95 ⟨_, _, _, rfl, rfl, by decide +kernel⟩ sn_R_note_49))))))
def vc_R_note_11 (r : Option Value) (hf : hc_H) (J : Nat → hc_K) (lv : hc_L) (st : List Value) (h : hc_H) : Prop := (qi_iload 1 (qi_push (nI 310) (qi_icmp_ge (vc_R_note_39 r hf J) (qi_aload 0 (qi_get 6 3 (qi_iload 1 (qi_aload 0 (qi_get 6 3 (qi_push (nI 62) (qi_iload 1 (qi_iadd (qi_iald 0 (qi_iast (qi_iinc 1 (nI 1) (J 11))))))))))))))) lv st h
theorem sn_R_note_11 {Ph : Nat → State → Prop} {h0 hf : hc_H} {r : Option Value} : qk Ph M_R_note h0 hf r 11 (vc_R_note_11 r hf (cx Ph M_R_note h0 hf r)) := (qs_iload_n d_R_note_11 rfl (qs_sipush d_R_note_12 (by decide) (qs_icmp_ge (tgt := 39) d_R_note_15 (by decide) sn_R_note_39 (qs_aload_n d_R_note_18 rfl (qs_get d_R_note_19 ff_R_16 (qs_iload_n d_R_note_22 rfl (qs_aload_n d_R_note_23 rfl (qs_get d_R_note_24 ff_R_16 (qs_bipush d_R_note_27 (by decide) (qs_iload_n d_R_note_29 rfl (qs_iadd d_R_note_30 (qs_iaload d_R_note_31 (qs_iastore d_R_note_32 (qs_iinc d_R_note_33 (by decide) (by decide) (qs_goto (tgt := 11) d_R_note_36 (by decide) (fun _ _ _ h9 => h9))))))))))))))))
def vc_R_note_0 (r : Option Value) (hf : hc_H) (J : Nat → hc_K) (lv : hc_L) (st : List Value) (h : hc_H) : Prop := (qi_aload 0 (qi_get 6 4 (qi_push (nI 6) (qi_icmp_ne (vc_R_note_49 r hf J) (qi_push (nI 0) (qi_istore 1 (J 11))))))) lv st h
theorem sn_R_note_0 {Ph : Nat → State → Prop} {h0 hf : hc_H} {r : Option Value} : qk Ph M_R_note h0 hf r 0 (vc_R_note_0 r hf (cx Ph M_R_note h0 hf r)) := (qs_aload_n d_R_note_0 rfl (qs_get d_R_note_1 ff_R_95 (qs_bipush d_R_note_4 (by decide) (qs_icmp_ne (tgt := 49) d_R_note_6 (by decide) sn_R_note_49 (qs_iconst d_R_note_9 (by decide) (qs_istore_n d_R_note_10 rfl (by decide) (fun _ _ _ h9 => h9)))))))
/-! BalancedLineModel.undo()I -/
abbrev M_R_undo : hc_M := (⟨"BalancedLineModel", "undo", "()I"⟩, prog_8_method_16_code, 2, (some .int), 0, 0)
theorem d_R_undo_0 : decode (mC M_R_undo) 0 = .ok (.aload_n 0, 1) := by decide +kernel
theorem d_R_undo_1 : decode (mC M_R_undo) 1 = .ok (.getfield 95, 3) := by decide +kernel
theorem d_R_undo_4 : decode (mC M_R_undo) 4 = .ok (.ifCond .ne 6, 3) := by decide +kernel
theorem d_R_undo_7 : decode (mC M_R_undo) 7 = .ok (.bipush (-2), 2) := by decide +kernel
theorem d_R_undo_9 : decode (mC M_R_undo) 9 = .ok (.ireturn, 1) := by decide +kernel
theorem d_R_undo_10 : decode (mC M_R_undo) 10 = .ok (.aload_n 0, 1) := by decide +kernel
theorem d_R_undo_11 : decode (mC M_R_undo) 11 = .ok (.dup, 1) := by decide +kernel
theorem d_R_undo_12 : decode (mC M_R_undo) 12 = .ok (.getfield 95, 3) := by decide +kernel
theorem d_R_undo_15 : decode (mC M_R_undo) 15 = .ok (.iconst 1, 1) := by decide +kernel
theorem d_R_undo_16 : decode (mC M_R_undo) 16 = .ok (.isub, 1) := by decide +kernel
theorem d_R_undo_17 : decode (mC M_R_undo) 17 = .ok (.putfield 95, 3) := by decide +kernel
theorem d_R_undo_20 : decode (mC M_R_undo) 20 = .ok (.iconst 0, 1) := by decide +kernel
theorem d_R_undo_21 : decode (mC M_R_undo) 21 = .ok (.istore_n 1, 1) := by decide +kernel
theorem d_R_undo_22 : decode (mC M_R_undo) 22 = .ok (.iload_n 1, 1) := by decide +kernel
theorem d_R_undo_23 : decode (mC M_R_undo) 23 = .ok (.bipush 62, 2) := by decide +kernel
theorem d_R_undo_25 : decode (mC M_R_undo) 25 = .ok (.if_icmp .ge 29, 3) := by decide +kernel
theorem d_R_undo_28 : decode (mC M_R_undo) 28 = .ok (.aload_n 0, 1) := by decide +kernel
theorem d_R_undo_29 : decode (mC M_R_undo) 29 = .ok (.getfield 13, 3) := by decide +kernel
theorem d_R_undo_32 : decode (mC M_R_undo) 32 = .ok (.iload_n 1, 1) := by decide +kernel
theorem d_R_undo_33 : decode (mC M_R_undo) 33 = .ok (.aload_n 0, 1) := by decide +kernel
theorem d_R_undo_34 : decode (mC M_R_undo) 34 = .ok (.getfield 16, 3) := by decide +kernel
theorem d_R_undo_37 : decode (mC M_R_undo) 37 = .ok (.bipush 62, 2) := by decide +kernel
theorem d_R_undo_39 : decode (mC M_R_undo) 39 = .ok (.aload_n 0, 1) := by decide +kernel
theorem d_R_undo_40 : decode (mC M_R_undo) 40 = .ok (.getfield 95, 3) := by decide +kernel
theorem d_R_undo_43 : decode (mC M_R_undo) 43 = .ok (.imul, 1) := by decide +kernel
theorem d_R_undo_44 : decode (mC M_R_undo) 44 = .ok (.iload_n 1, 1) := by decide +kernel
theorem d_R_undo_45 : decode (mC M_R_undo) 45 = .ok (.iadd, 1) := by decide +kernel
theorem d_R_undo_46 : decode (mC M_R_undo) 46 = .ok (.iaload, 1) := by decide +kernel
theorem d_R_undo_47 : decode (mC M_R_undo) 47 = .ok (.iastore, 1) := by decide +kernel
theorem d_R_undo_48 : decode (mC M_R_undo) 48 = .ok (.iinc 1 1, 3) := by decide +kernel
theorem d_R_undo_51 : decode (mC M_R_undo) 51 = .ok (.goto (-29), 3) := by decide +kernel
theorem d_R_undo_54 : decode (mC M_R_undo) 54 = .ok (.aload_n 0, 1) := by decide +kernel
theorem d_R_undo_55 : decode (mC M_R_undo) 55 = .ok (.getfield 95, 3) := by decide +kernel
theorem d_R_undo_58 : decode (mC M_R_undo) 58 = .ok (.ireturn, 1) := by decide +kernel
def vc_R_undo_54 (r : Option Value) (hf : hc_H) (J : Nat → hc_K) (lv : hc_L) (st : List Value) (h : hc_H) : Prop := (qi_aload 0 (qi_get 6 4 (qi_iret r hf))) lv st h
theorem sn_R_undo_54 {Ph : Nat → State → Prop} {h0 hf : hc_H} {r : Option Value} : qk Ph M_R_undo h0 hf r 54 (vc_R_undo_54 r hf (cx Ph M_R_undo h0 hf r)) := (qs_aload_n d_R_undo_54 rfl (qs_get d_R_undo_55 ff_R_95 (qs_iret d_R_undo_58 rfl)))
def vc_R_undo_22 (r : Option Value) (hf : hc_H) (J : Nat → hc_K) (lv : hc_L) (st : List Value) (h : hc_H) : Prop := (qi_iload 1 (qi_push (nI 62) (qi_icmp_ge (vc_R_undo_54 r hf J) (qi_aload 0 (qi_get 6 2 (qi_iload 1 (qi_aload 0 (qi_get 6 3 (qi_push (nI 62) (qi_aload 0 (qi_get 6 4 (qi_imul (qi_iload 1 (qi_iadd (qi_iald 0 (qi_iast (qi_iinc 1 (nI 1) (J 22)))))))))))))))))) lv st h
theorem sn_R_undo_22 {Ph : Nat → State → Prop} {h0 hf : hc_H} {r : Option Value} : qk Ph M_R_undo h0 hf r 22 (vc_R_undo_22 r hf (cx Ph M_R_undo h0 hf r)) := (qs_iload_n d_R_undo_22 rfl (qs_bipush d_R_undo_23 (by decide) (qs_icmp_ge (tgt := 54) d_R_undo_25 (by decide) sn_R_undo_54 (qs_aload_n d_R_undo_28 rfl (qs_get d_R_undo_29 ff_R_13 (qs_iload_n d_R_undo_32 rfl (qs_aload_n d_R_undo_33 rfl (qs_get d_R_undo_34 ff_R_16 (qs_bipush d_R_undo_37 (by decide) (qs_aload_n d_R_undo_39 rfl (qs_get d_R_undo_40 ff_R_95 (qs_imul d_R_undo_43 (qs_iload_n d_R_undo_44 rfl (qs_iadd d_R_undo_45 (qs_iaload d_R_undo_46 (qs_iastore d_R_undo_47 (qs_iinc d_R_undo_48 (by decide) (by decide) (qs_goto (tgt := 22) d_R_undo_51 (by decide) (fun _ _ _ h9 => h9)))))))))))))))))))
def vc_R_undo_10 (r : Option Value) (hf : hc_H) (J : Nat → hc_K) (lv : hc_L) (st : List Value) (h : hc_H) : Prop := (qi_aload 0 (qi_dup (qi_get 6 4 (qi_push (nI 1) (qi_isub (qi_put 6 4 .int (qi_push (nI 0) (qi_istore 1 (J 22))))))))) lv st h
theorem sn_R_undo_10 {Ph : Nat → State → Prop} {h0 hf : hc_H} {r : Option Value} : qk Ph M_R_undo h0 hf r 10 (vc_R_undo_10 r hf (cx Ph M_R_undo h0 hf r)) := (qs_aload_n d_R_undo_10 rfl (qs_dup d_R_undo_11 (qs_get d_R_undo_12 ff_R_95 (qs_iconst d_R_undo_15 (by decide) (qs_isub d_R_undo_16 (qs_put d_R_undo_17 ff_R_95 ⟨_, _, _, rfl, rfl, by decide +kernel⟩ (qs_iconst d_R_undo_20 (by decide) (qs_istore_n d_R_undo_21 rfl (by decide) (fun _ _ _ h9 => h9)))))))))
def vc_R_undo_0 (r : Option Value) (hf : hc_H) (J : Nat → hc_K) (lv : hc_L) (st : List Value) (h : hc_H) : Prop := (qi_aload 0 (qi_get 6 4 (qi_if_ne (vc_R_undo_10 r hf J) (qi_push (-2) (qi_iret r hf))))) lv st h
theorem sn_R_undo_0 {Ph : Nat → State → Prop} {h0 hf : hc_H} {r : Option Value} : qk Ph M_R_undo h0 hf r 0 (vc_R_undo_0 r hf (cx Ph M_R_undo h0 hf r)) := (qs_aload_n d_R_undo_0 rfl (qs_get d_R_undo_1 ff_R_95 (qs_if_ne (tgt := 10) d_R_undo_4 (by decide) sn_R_undo_10 (qs_bipush d_R_undo_7 (by decide) (qs_iret d_R_undo_9 rfl)))))
/-! BalancedLineModel.isTask(I)Z -/
abbrev M_R_isTask : hc_M := (⟨"BalancedLineModel", "isTask", "(I)Z"⟩, prog_8_method_17_code, 2, (some .boolean), 1, 25)
theorem d_R_isTask_0 : decode (mC M_R_isTask) 0 = .ok (.iload_n 1, 1) := by decide +kernel
theorem d_R_isTask_1 : decode (mC M_R_isTask) 1 = .ok (.i2l, 1) := by decide +kernel
theorem d_R_isTask_2 : decode (mC M_R_isTask) 2 = .ok (.lconst 0, 1) := by decide +kernel
theorem d_R_isTask_3 : decode (mC M_R_isTask) 3 = .ok (.aload_n 0, 1) := by decide +kernel
theorem d_R_isTask_4 : decode (mC M_R_isTask) 4 = .ok (.getfield 13, 3) := by decide +kernel
theorem d_R_isTask_7 : decode (mC M_R_isTask) 7 = .ok (.iconst 0, 1) := by decide +kernel
theorem d_R_isTask_8 : decode (mC M_R_isTask) 8 = .ok (.iaload, 1) := by decide +kernel
theorem d_R_isTask_9 : decode (mC M_R_isTask) 9 = .ok (.iconst 1, 1) := by decide +kernel
theorem d_R_isTask_10 : decode (mC M_R_isTask) 10 = .ok (.isub, 1) := by decide +kernel
theorem d_R_isTask_11 : decode (mC M_R_isTask) 11 = .ok (.i2l, 1) := by decide +kernel
theorem d_R_isTask_12 : decode (mC M_R_isTask) 12 = .ok (.invokestatic 56, 3) := by decide +kernel
theorem d_R_isTask_15 : decode (mC M_R_isTask) 15 = .ok (.ireturn, 1) := by decide +kernel
def vc_R_isTask_0 (r : Option Value) (hf : hc_H) (J : Nat → hc_K) (lv : hc_L) (st : List Value) (h : hc_H) : Prop := (qi_iload 1 (qi_i2l (qi_pushl (lN 0) (qi_aload 0 (qi_get 6 2 (qi_push (nI 0) (qi_iald 0 (qi_push (nI 1) (qi_isub (qi_i2l (qi_invS hc_tt M_R_in 3 (qi_zret r hf)))))))))))) lv st h
theorem sn_R_isTask_0 {Ph : Nat → State → Prop} {h0 hf : hc_H} {r : Option Value} : qk Ph M_R_isTask h0 hf r 0 (vc_R_isTask_0 r hf (cx Ph M_R_isTask h0 hf r)) := (qs_iload_n d_R_isTask_0 rfl (qs_i2l d_R_isTask_1 (qs_lconst d_R_isTask_2 rfl (qs_aload_n d_R_isTask_3 rfl (qs_get d_R_isTask_4 ff_R_13 (qs_iconst d_R_isTask_7 (by decide) (qs_iaload d_R_isTask_8 (qs_iconst d_R_isTask_9 (by decide) (qs_isub d_R_isTask_10 (qs_i2l d_R_isTask_11 (qs_invS hc_Ph_tt (fun _ _ _ => trivial) d_R_isTask_12 zz_R_in wk_903 wk_904 ⟨by decide, by decide⟩ (qs_zret d_R_isTask_15 rfl))))))))))))
theorem zz_R_isTask : hc_z M_R_isTask 1 := ⟨wk_991, wk_66, by decide +kernel⟩
/-! BalancedLineModel.isPair(II)Z -/
abbrev M_R_isPair : hc_M := (⟨"BalancedLineModel", "isPair", "(II)Z"⟩, prog_8_method_18_code, 3, (some .boolean), 2, 46)
theorem d_R_isPair_0 : decode (mC M_R_isPair) 0 = .ok (.aload_n 0, 1) := by decide +kernel
theorem d_R_isPair_1 : decode (mC M_R_isPair) 1 = .ok (.iload_n 1, 1) := by decide +kernel
theorem d_R_isPair_2 : decode (mC M_R_isPair) 2 = .ok (.invokevirtual 98, 3) := by decide +kernel
theorem d_R_isPair_5 : decode (mC M_R_isPair) 5 = .ok (.ifCond .eq 20, 3) := by decide +kernel
theorem d_R_isPair_8 : decode (mC M_R_isPair) 8 = .ok (.aload_n 0, 1) := by decide +kernel
theorem d_R_isPair_9 : decode (mC M_R_isPair) 9 = .ok (.iload_n 2, 1) := by decide +kernel
theorem d_R_isPair_10 : decode (mC M_R_isPair) 10 = .ok (.invokevirtual 98, 3) := by decide +kernel
theorem d_R_isPair_13 : decode (mC M_R_isPair) 13 = .ok (.ifCond .eq 12, 3) := by decide +kernel
theorem d_R_isPair_16 : decode (mC M_R_isPair) 16 = .ok (.iload_n 1, 1) := by decide +kernel
theorem d_R_isPair_17 : decode (mC M_R_isPair) 17 = .ok (.iload_n 2, 1) := by decide +kernel
theorem d_R_isPair_18 : decode (mC M_R_isPair) 18 = .ok (.if_icmp .eq 7, 3) := by decide +kernel
theorem d_R_isPair_21 : decode (mC M_R_isPair) 21 = .ok (.iconst 1, 1) := by decide +kernel
theorem d_R_isPair_22 : decode (mC M_R_isPair) 22 = .ok (.goto 4, 3) := by decide +kernel
theorem d_R_isPair_25 : decode (mC M_R_isPair) 25 = .ok (.iconst 0, 1) := by decide +kernel
theorem d_R_isPair_26 : decode (mC M_R_isPair) 26 = .ok (.ireturn, 1) := by decide +kernel
def vc_R_isPair_26 (r : Option Value) (hf : hc_H) (J : Nat → hc_K) (lv : hc_L) (st : List Value) (h : hc_H) : Prop := (qi_zret r hf) lv st h
theorem sn_R_isPair_26 {Ph : Nat → State → Prop} {h0 hf : hc_H} {r : Option Value} : qk Ph M_R_isPair h0 hf r 26 (vc_R_isPair_26 r hf (cx Ph M_R_isPair h0 hf r)) := (qs_zret d_R_isPair_26 rfl)
def vc_R_isPair_25 (r : Option Value) (hf : hc_H) (J : Nat → hc_K) (lv : hc_L) (st : List Value) (h : hc_H) : Prop := (qi_push (nI 0) (vc_R_isPair_26 r hf J)) lv st h
theorem sn_R_isPair_25 {Ph : Nat → State → Prop} {h0 hf : hc_H} {r : Option Value} : qk Ph M_R_isPair h0 hf r 25 (vc_R_isPair_25 r hf (cx Ph M_R_isPair h0 hf r)) := (qs_iconst d_R_isPair_25 (by decide) sn_R_isPair_26)
def vc_R_isPair_0 (r : Option Value) (hf : hc_H) (J : Nat → hc_K) (lv : hc_L) (st : List Value) (h : hc_H) : Prop := (qi_aload 0 (qi_iload 1 (qi_invV hc_tt M_R_isTask 1 6 (qi_if_eq (vc_R_isPair_25 r hf J) (qi_aload 0 (qi_iload 2 (qi_invV hc_tt M_R_isTask 1 6 (qi_if_eq (vc_R_isPair_25 r hf J) (qi_iload 1 (qi_iload 2 (qi_icmp_eq (vc_R_isPair_25 r hf J) (qi_push (nI 1) (vc_R_isPair_26 r hf J))))))))))))) lv st h
theorem sn_R_isPair_0 {Ph : Nat → State → Prop} {h0 hf : hc_H} {r : Option Value} : qk Ph M_R_isPair h0 hf r 0 (vc_R_isPair_0 r hf (cx Ph M_R_isPair h0 hf r)) := (qs_aload_n d_R_isPair_0 rfl (qs_iload_n d_R_isPair_1 rfl (qs_invV hc_Ph_tt (fun _ _ _ => trivial) d_R_isPair_2 zz_R_isTask wk_988 ⟨wk_990, wk_36⟩ ⟨_, rfl, rfl⟩ ⟨by decide, by decide⟩ (qs_if_eq (tgt := 25) d_R_isPair_5 (by decide) sn_R_isPair_25 (qs_aload_n d_R_isPair_8 rfl (qs_iload_n d_R_isPair_9 rfl (qs_invV hc_Ph_tt (fun _ _ _ => trivial) d_R_isPair_10 zz_R_isTask wk_988 ⟨wk_990, wk_36⟩ ⟨_, rfl, rfl⟩ ⟨by decide, by decide⟩ (qs_if_eq (tgt := 25) d_R_isPair_13 (by decide) sn_R_isPair_25 (qs_iload_n d_R_isPair_16 rfl (qs_iload_n d_R_isPair_17 rfl (qs_icmp_eq (tgt := 25) d_R_isPair_18 (by decide) sn_R_isPair_25 (qs_iconst d_R_isPair_21 (by decide) (qs_goto (tgt := 26) d_R_isPair_22 (by decide) sn_R_isPair_26)))))))))))))
/-! BalancedLineModel.putBy(II)I -/
abbrev M_R_putBy : hc_M := (⟨"BalancedLineModel", "putBy", "(II)I"⟩, prog_8_method_31_code, 7, (some .int), 0, 0)
theorem d_R_putBy_0 : decode (mC M_R_putBy) 0 = .ok (.iconst 0, 1) := by decide +kernel
theorem d_R_putBy_1 : decode (mC M_R_putBy) 1 = .ok (.istore_n 3, 1) := by decide +kernel
theorem d_R_putBy_2 : decode (mC M_R_putBy) 2 = .ok (.iconst 0, 1) := by decide +kernel
theorem d_R_putBy_3 : decode (mC M_R_putBy) 3 = .ok (.istore 4, 2) := by decide +kernel
theorem d_R_putBy_5 : decode (mC M_R_putBy) 5 = .ok (.iload 4, 2) := by decide +kernel
theorem d_R_putBy_7 : decode (mC M_R_putBy) 7 = .ok (.aload_n 0, 1) := by decide +kernel
theorem d_R_putBy_8 : decode (mC M_R_putBy) 8 = .ok (.getfield 13, 3) := by decide +kernel
theorem d_R_putBy_11 : decode (mC M_R_putBy) 11 = .ok (.iconst 0, 1) := by decide +kernel
theorem d_R_putBy_12 : decode (mC M_R_putBy) 12 = .ok (.iaload, 1) := by decide +kernel
theorem d_R_putBy_13 : decode (mC M_R_putBy) 13 = .ok (.if_icmp .ge 81, 3) := by decide +kernel
theorem d_R_putBy_16 : decode (mC M_R_putBy) 16 = .ok (.aload_n 0, 1) := by decide +kernel
theorem d_R_putBy_17 : decode (mC M_R_putBy) 17 = .ok (.getfield 13, 3) := by decide +kernel
theorem d_R_putBy_20 : decode (mC M_R_putBy) 20 = .ok (.bipush 50, 2) := by decide +kernel
theorem d_R_putBy_22 : decode (mC M_R_putBy) 22 = .ok (.iload 4, 2) := by decide +kernel
theorem d_R_putBy_24 : decode (mC M_R_putBy) 24 = .ok (.iadd, 1) := by decide +kernel
theorem d_R_putBy_25 : decode (mC M_R_putBy) 25 = .ok (.iaload, 1) := by decide +kernel
theorem d_R_putBy_26 : decode (mC M_R_putBy) 26 = .ok (.istore 5, 2) := by decide +kernel
theorem d_R_putBy_28 : decode (mC M_R_putBy) 28 = .ok (.iload 5, 2) := by decide +kernel
theorem d_R_putBy_30 : decode (mC M_R_putBy) 30 = .ok (.ifCond .le 39, 3) := by decide +kernel
theorem d_R_putBy_33 : decode (mC M_R_putBy) 33 = .ok (.iload_n 2, 1) := by decide +kernel
theorem d_R_putBy_34 : decode (mC M_R_putBy) 34 = .ok (.ifCond .ge 12, 3) := by decide +kernel
theorem d_R_putBy_37 : decode (mC M_R_putBy) 37 = .ok (.iload 5, 2) := by decide +kernel
theorem d_R_putBy_39 : decode (mC M_R_putBy) 39 = .ok (.iload_n 1, 1) := by decide +kernel
theorem d_R_putBy_40 : decode (mC M_R_putBy) 40 = .ok (.if_icmp .ge 29, 3) := by decide +kernel
theorem d_R_putBy_43 : decode (mC M_R_putBy) 43 = .ok (.goto 22, 3) := by decide +kernel
theorem d_R_putBy_46 : decode (mC M_R_putBy) 46 = .ok (.iload_n 2, 1) := by decide +kernel
theorem d_R_putBy_47 : decode (mC M_R_putBy) 47 = .ok (.ifCond .le 12, 3) := by decide +kernel
theorem d_R_putBy_50 : decode (mC M_R_putBy) 50 = .ok (.iload 5, 2) := by decide +kernel
theorem d_R_putBy_52 : decode (mC M_R_putBy) 52 = .ok (.iload_n 1, 1) := by decide +kernel
theorem d_R_putBy_53 : decode (mC M_R_putBy) 53 = .ok (.if_icmp .le 16, 3) := by decide +kernel
theorem d_R_putBy_56 : decode (mC M_R_putBy) 56 = .ok (.goto 9, 3) := by decide +kernel
theorem d_R_putBy_59 : decode (mC M_R_putBy) 59 = .ok (.iload 5, 2) := by decide +kernel
theorem d_R_putBy_61 : decode (mC M_R_putBy) 61 = .ok (.iload_n 1, 1) := by decide +kernel
theorem d_R_putBy_62 : decode (mC M_R_putBy) 62 = .ok (.if_icmp .eq 7, 3) := by decide +kernel
theorem d_R_putBy_65 : decode (mC M_R_putBy) 65 = .ok (.iconst 1, 1) := by decide +kernel
theorem d_R_putBy_66 : decode (mC M_R_putBy) 66 = .ok (.goto 4, 3) := by decide +kernel
theorem d_R_putBy_69 : decode (mC M_R_putBy) 69 = .ok (.iconst 0, 1) := by decide +kernel
theorem d_R_putBy_70 : decode (mC M_R_putBy) 70 = .ok (.istore 6, 2) := by decide +kernel
theorem d_R_putBy_72 : decode (mC M_R_putBy) 72 = .ok (.iload_n 3, 1) := by decide +kernel
theorem d_R_putBy_73 : decode (mC M_R_putBy) 73 = .ok (.iload 6, 2) := by decide +kernel
theorem d_R_putBy_75 : decode (mC M_R_putBy) 75 = .ok (.ifCond .eq 10, 3) := by decide +kernel
theorem d_R_putBy_78 : decode (mC M_R_putBy) 78 = .ok (.iconst 1, 1) := by decide +kernel
theorem d_R_putBy_79 : decode (mC M_R_putBy) 79 = .ok (.iload 4, 2) := by decide +kernel
theorem d_R_putBy_81 : decode (mC M_R_putBy) 81 = .ok (.ishl, 1) := by decide +kernel
theorem d_R_putBy_82 : decode (mC M_R_putBy) 82 = .ok (.goto 4, 3) := by decide +kernel
theorem d_R_putBy_85 : decode (mC M_R_putBy) 85 = .ok (.iconst 0, 1) := by decide +kernel
theorem d_R_putBy_86 : decode (mC M_R_putBy) 86 = .ok (.ior, 1) := by decide +kernel
theorem d_R_putBy_87 : decode (mC M_R_putBy) 87 = .ok (.istore_n 3, 1) := by decide +kernel
theorem d_R_putBy_88 : decode (mC M_R_putBy) 88 = .ok (.iinc 4 1, 3) := by decide +kernel
theorem d_R_putBy_91 : decode (mC M_R_putBy) 91 = .ok (.goto (-86), 3) := by decide +kernel
theorem d_R_putBy_94 : decode (mC M_R_putBy) 94 = .ok (.iload_n 3, 1) := by decide +kernel
theorem d_R_putBy_95 : decode (mC M_R_putBy) 95 = .ok (.ireturn, 1) := by decide +kernel
def vc_R_putBy_94 (r : Option Value) (hf : hc_H) (J : Nat → hc_K) (lv : hc_L) (st : List Value) (h : hc_H) : Prop := (qi_iload 3 (qi_iret r hf)) lv st h
theorem sn_R_putBy_94 {Ph : Nat → State → Prop} {h0 hf : hc_H} {r : Option Value} : qk Ph M_R_putBy h0 hf r 94 (vc_R_putBy_94 r hf (cx Ph M_R_putBy h0 hf r)) := (qs_iload_n d_R_putBy_94 rfl (qs_iret d_R_putBy_95 rfl))
def vc_R_putBy_86 (r : Option Value) (hf : hc_H) (J : Nat → hc_K) (lv : hc_L) (st : List Value) (h : hc_H) : Prop := (qi_ior (qi_istore 3 (qi_iinc 4 (nI 1) (J 5)))) lv st h
theorem sn_R_putBy_86 {Ph : Nat → State → Prop} {h0 hf : hc_H} {r : Option Value} : qk Ph M_R_putBy h0 hf r 86 (vc_R_putBy_86 r hf (cx Ph M_R_putBy h0 hf r)) := (qs_ior d_R_putBy_86 (qs_istore_n d_R_putBy_87 rfl (by decide) (qs_iinc d_R_putBy_88 (by decide) (by decide) (qs_goto (tgt := 5) d_R_putBy_91 (by decide) (fun _ _ _ h9 => h9)))))
def vc_R_putBy_85 (r : Option Value) (hf : hc_H) (J : Nat → hc_K) (lv : hc_L) (st : List Value) (h : hc_H) : Prop := (qi_push (nI 0) (vc_R_putBy_86 r hf J)) lv st h
theorem sn_R_putBy_85 {Ph : Nat → State → Prop} {h0 hf : hc_H} {r : Option Value} : qk Ph M_R_putBy h0 hf r 85 (vc_R_putBy_85 r hf (cx Ph M_R_putBy h0 hf r)) := (qs_iconst d_R_putBy_85 (by decide) sn_R_putBy_86)
def vc_R_putBy_70 (r : Option Value) (hf : hc_H) (J : Nat → hc_K) (lv : hc_L) (st : List Value) (h : hc_H) : Prop := (qi_istore 6 (qi_iload 3 (qi_iload 6 (qi_if_eq (vc_R_putBy_85 r hf J) (qi_push (nI 1) (qi_iload 4 (qi_ishl (vc_R_putBy_86 r hf J)))))))) lv st h
theorem sn_R_putBy_70 {Ph : Nat → State → Prop} {h0 hf : hc_H} {r : Option Value} : qk Ph M_R_putBy h0 hf r 70 (vc_R_putBy_70 r hf (cx Ph M_R_putBy h0 hf r)) := (qs_istore d_R_putBy_70 (by decide) (qs_iload_n d_R_putBy_72 rfl (qs_iload d_R_putBy_73 (qs_if_eq (tgt := 85) d_R_putBy_75 (by decide) sn_R_putBy_85 (qs_iconst d_R_putBy_78 (by decide) (qs_iload d_R_putBy_79 (qs_ishl d_R_putBy_81 (qs_goto (tgt := 86) d_R_putBy_82 (by decide) sn_R_putBy_86))))))))
def vc_R_putBy_69 (r : Option Value) (hf : hc_H) (J : Nat → hc_K) (lv : hc_L) (st : List Value) (h : hc_H) : Prop := (qi_push (nI 0) (vc_R_putBy_70 r hf J)) lv st h
theorem sn_R_putBy_69 {Ph : Nat → State → Prop} {h0 hf : hc_H} {r : Option Value} : qk Ph M_R_putBy h0 hf r 69 (vc_R_putBy_69 r hf (cx Ph M_R_putBy h0 hf r)) := (qs_iconst d_R_putBy_69 (by decide) sn_R_putBy_70)
def vc_R_putBy_65 (r : Option Value) (hf : hc_H) (J : Nat → hc_K) (lv : hc_L) (st : List Value) (h : hc_H) : Prop := (qi_push (nI 1) (vc_R_putBy_70 r hf J)) lv st h
theorem sn_R_putBy_65 {Ph : Nat → State → Prop} {h0 hf : hc_H} {r : Option Value} : qk Ph M_R_putBy h0 hf r 65 (vc_R_putBy_65 r hf (cx Ph M_R_putBy h0 hf r)) := (qs_iconst d_R_putBy_65 (by decide) (qs_goto (tgt := 70) d_R_putBy_66 (by decide) sn_R_putBy_70))
def vc_R_putBy_59 (r : Option Value) (hf : hc_H) (J : Nat → hc_K) (lv : hc_L) (st : List Value) (h : hc_H) : Prop := (qi_iload 5 (qi_iload 1 (qi_icmp_eq (vc_R_putBy_69 r hf J) (vc_R_putBy_65 r hf J)))) lv st h
theorem sn_R_putBy_59 {Ph : Nat → State → Prop} {h0 hf : hc_H} {r : Option Value} : qk Ph M_R_putBy h0 hf r 59 (vc_R_putBy_59 r hf (cx Ph M_R_putBy h0 hf r)) := (qs_iload d_R_putBy_59 (qs_iload_n d_R_putBy_61 rfl (qs_icmp_eq (tgt := 69) d_R_putBy_62 (by decide) sn_R_putBy_69 sn_R_putBy_65)))
def vc_R_putBy_46 (r : Option Value) (hf : hc_H) (J : Nat → hc_K) (lv : hc_L) (st : List Value) (h : hc_H) : Prop := (qi_iload 2 (qi_if_le (vc_R_putBy_59 r hf J) (qi_iload 5 (qi_iload 1 (qi_icmp_le (vc_R_putBy_69 r hf J) (vc_R_putBy_65 r hf J)))))) lv st h
theorem sn_R_putBy_46 {Ph : Nat → State → Prop} {h0 hf : hc_H} {r : Option Value} : qk Ph M_R_putBy h0 hf r 46 (vc_R_putBy_46 r hf (cx Ph M_R_putBy h0 hf r)) := (qs_iload_n d_R_putBy_46 rfl (qs_if_le (tgt := 59) d_R_putBy_47 (by decide) sn_R_putBy_59 (qs_iload d_R_putBy_50 (qs_iload_n d_R_putBy_52 rfl (qs_icmp_le (tgt := 69) d_R_putBy_53 (by decide) sn_R_putBy_69 (qs_goto (tgt := 65) d_R_putBy_56 (by decide) sn_R_putBy_65))))))
def vc_R_putBy_5 (r : Option Value) (hf : hc_H) (J : Nat → hc_K) (lv : hc_L) (st : List Value) (h : hc_H) : Prop := (qi_iload 4 (qi_aload 0 (qi_get 6 2 (qi_push (nI 0) (qi_iald 0 (qi_icmp_ge (vc_R_putBy_94 r hf J) (qi_aload 0 (qi_get 6 2 (qi_push (nI 50) (qi_iload 4 (qi_iadd (qi_iald 0 (qi_istore 5 (qi_iload 5 (qi_if_le (vc_R_putBy_69 r hf J) (qi_iload 2 (qi_if_ge (vc_R_putBy_46 r hf J) (qi_iload 5 (qi_iload 1 (qi_icmp_ge (vc_R_putBy_69 r hf J) (vc_R_putBy_65 r hf J))))))))))))))))))))) lv st h
theorem sn_R_putBy_5 {Ph : Nat → State → Prop} {h0 hf : hc_H} {r : Option Value} : qk Ph M_R_putBy h0 hf r 5 (vc_R_putBy_5 r hf (cx Ph M_R_putBy h0 hf r)) := (qs_iload d_R_putBy_5 (qs_aload_n d_R_putBy_7 rfl (qs_get d_R_putBy_8 ff_R_13 (qs_iconst d_R_putBy_11 (by decide) (qs_iaload d_R_putBy_12 (qs_icmp_ge (tgt := 94) d_R_putBy_13 (by decide) sn_R_putBy_94 (qs_aload_n d_R_putBy_16 rfl (qs_get d_R_putBy_17 ff_R_13 (qs_bipush d_R_putBy_20 (by decide) (qs_iload d_R_putBy_22 (qs_iadd d_R_putBy_24 (qs_iaload d_R_putBy_25 (qs_istore d_R_putBy_26 (by decide) (qs_iload d_R_putBy_28 (qs_if_le (tgt := 69) d_R_putBy_30 (by decide) sn_R_putBy_69 (qs_iload_n d_R_putBy_33 rfl (qs_if_ge (tgt := 46) d_R_putBy_34 (by decide) sn_R_putBy_46 (qs_iload d_R_putBy_37 (qs_iload_n d_R_putBy_39 rfl (qs_icmp_ge (tgt := 69) d_R_putBy_40 (by decide) sn_R_putBy_69 (qs_goto (tgt := 65) d_R_putBy_43 (by decide) sn_R_putBy_65)))))))))))))))))))))
def vc_R_putBy_0 (r : Option Value) (hf : hc_H) (J : Nat → hc_K) (lv : hc_L) (st : List Value) (h : hc_H) : Prop := (qi_push (nI 0) (qi_istore 3 (qi_push (nI 0) (qi_istore 4 (J 5))))) lv st h
theorem sn_R_putBy_0 {Ph : Nat → State → Prop} {h0 hf : hc_H} {r : Option Value} : qk Ph M_R_putBy h0 hf r 0 (vc_R_putBy_0 r hf (cx Ph M_R_putBy h0 hf r)) := (qs_iconst d_R_putBy_0 (by decide) (qs_istore_n d_R_putBy_1 rfl (by decide) (qs_iconst d_R_putBy_2 (by decide) (qs_istore d_R_putBy_3 (by decide) (fun _ _ _ h9 => h9)))))
/-! BalancedLineModel.aheadOf(I)I -/
abbrev M_R_aheadOf : hc_M := (⟨"BalancedLineModel", "aheadOf", "(I)I"⟩, prog_8_method_26_code, 4, (some .int), 1, 21)
theorem d_R_aheadOf_0 : decode (mC M_R_aheadOf) 0 = .ok (.iconst 0, 1) := by decide +kernel
theorem d_R_aheadOf_1 : decode (mC M_R_aheadOf) 1 = .ok (.istore_n 2, 1) := by decide +kernel
theorem d_R_aheadOf_2 : decode (mC M_R_aheadOf) 2 = .ok (.iconst 0, 1) := by decide +kernel
theorem d_R_aheadOf_3 : decode (mC M_R_aheadOf) 3 = .ok (.istore_n 3, 1) := by decide +kernel
theorem d_R_aheadOf_4 : decode (mC M_R_aheadOf) 4 = .ok (.iload_n 3, 1) := by decide +kernel
theorem d_R_aheadOf_5 : decode (mC M_R_aheadOf) 5 = .ok (.aload_n 0, 1) := by decide +kernel
theorem d_R_aheadOf_6 : decode (mC M_R_aheadOf) 6 = .ok (.getfield 13, 3) := by decide +kernel
theorem d_R_aheadOf_9 : decode (mC M_R_aheadOf) 9 = .ok (.iconst 0, 1) := by decide +kernel
theorem d_R_aheadOf_10 : decode (mC M_R_aheadOf) 10 = .ok (.iaload, 1) := by decide +kernel
theorem d_R_aheadOf_11 : decode (mC M_R_aheadOf) 11 = .ok (.if_icmp .ge 35, 3) := by decide +kernel
theorem d_R_aheadOf_14 : decode (mC M_R_aheadOf) 14 = .ok (.iload_n 2, 1) := by decide +kernel
theorem d_R_aheadOf_15 : decode (mC M_R_aheadOf) 15 = .ok (.aload_n 0, 1) := by decide +kernel
theorem d_R_aheadOf_16 : decode (mC M_R_aheadOf) 16 = .ok (.getfield 13, 3) := by decide +kernel
theorem d_R_aheadOf_19 : decode (mC M_R_aheadOf) 19 = .ok (.bipush 14, 2) := by decide +kernel
theorem d_R_aheadOf_21 : decode (mC M_R_aheadOf) 21 = .ok (.iload_n 3, 1) := by decide +kernel
theorem d_R_aheadOf_22 : decode (mC M_R_aheadOf) 22 = .ok (.iadd, 1) := by decide +kernel
theorem d_R_aheadOf_23 : decode (mC M_R_aheadOf) 23 = .ok (.iaload, 1) := by decide +kernel
theorem d_R_aheadOf_24 : decode (mC M_R_aheadOf) 24 = .ok (.iload_n 1, 1) := by decide +kernel
theorem d_R_aheadOf_25 : decode (mC M_R_aheadOf) 25 = .ok (.invokestatic 48, 3) := by decide +kernel
theorem d_R_aheadOf_28 : decode (mC M_R_aheadOf) 28 = .ok (.ifCond .eq 9, 3) := by decide +kernel
theorem d_R_aheadOf_31 : decode (mC M_R_aheadOf) 31 = .ok (.iconst 1, 1) := by decide +kernel
theorem d_R_aheadOf_32 : decode (mC M_R_aheadOf) 32 = .ok (.iload_n 3, 1) := by decide +kernel
theorem d_R_aheadOf_33 : decode (mC M_R_aheadOf) 33 = .ok (.ishl, 1) := by decide +kernel
theorem d_R_aheadOf_34 : decode (mC M_R_aheadOf) 34 = .ok (.goto 4, 3) := by decide +kernel
theorem d_R_aheadOf_37 : decode (mC M_R_aheadOf) 37 = .ok (.iconst 0, 1) := by decide +kernel
theorem d_R_aheadOf_38 : decode (mC M_R_aheadOf) 38 = .ok (.ior, 1) := by decide +kernel
theorem d_R_aheadOf_39 : decode (mC M_R_aheadOf) 39 = .ok (.istore_n 2, 1) := by decide +kernel
theorem d_R_aheadOf_40 : decode (mC M_R_aheadOf) 40 = .ok (.iinc 3 1, 3) := by decide +kernel
theorem d_R_aheadOf_43 : decode (mC M_R_aheadOf) 43 = .ok (.goto (-39), 3) := by decide +kernel
theorem d_R_aheadOf_46 : decode (mC M_R_aheadOf) 46 = .ok (.iload_n 2, 1) := by decide +kernel
theorem d_R_aheadOf_47 : decode (mC M_R_aheadOf) 47 = .ok (.ireturn, 1) := by decide +kernel
def vc_R_aheadOf_46 (r : Option Value) (hf : hc_H) (J : Nat → hc_K) (lv : hc_L) (st : List Value) (h : hc_H) : Prop := (qi_iload 2 (qi_iret r hf)) lv st h
theorem sn_R_aheadOf_46 {Ph : Nat → State → Prop} {h0 hf : hc_H} {r : Option Value} : qk Ph M_R_aheadOf h0 hf r 46 (vc_R_aheadOf_46 r hf (cx Ph M_R_aheadOf h0 hf r)) := (qs_iload_n d_R_aheadOf_46 rfl (qs_iret d_R_aheadOf_47 rfl))
def vc_R_aheadOf_38 (r : Option Value) (hf : hc_H) (J : Nat → hc_K) (lv : hc_L) (st : List Value) (h : hc_H) : Prop := (qi_ior (qi_istore 2 (qi_iinc 3 (nI 1) (J 4)))) lv st h
theorem sn_R_aheadOf_38 {Ph : Nat → State → Prop} {h0 hf : hc_H} {r : Option Value} : qk Ph M_R_aheadOf h0 hf r 38 (vc_R_aheadOf_38 r hf (cx Ph M_R_aheadOf h0 hf r)) := (qs_ior d_R_aheadOf_38 (qs_istore_n d_R_aheadOf_39 rfl (by decide) (qs_iinc d_R_aheadOf_40 (by decide) (by decide) (qs_goto (tgt := 4) d_R_aheadOf_43 (by decide) (fun _ _ _ h9 => h9)))))
def vc_R_aheadOf_37 (r : Option Value) (hf : hc_H) (J : Nat → hc_K) (lv : hc_L) (st : List Value) (h : hc_H) : Prop := (qi_push (nI 0) (vc_R_aheadOf_38 r hf J)) lv st h
theorem sn_R_aheadOf_37 {Ph : Nat → State → Prop} {h0 hf : hc_H} {r : Option Value} : qk Ph M_R_aheadOf h0 hf r 37 (vc_R_aheadOf_37 r hf (cx Ph M_R_aheadOf h0 hf r)) := (qs_iconst d_R_aheadOf_37 (by decide) sn_R_aheadOf_38)
def vc_R_aheadOf_4 (r : Option Value) (hf : hc_H) (J : Nat → hc_K) (lv : hc_L) (st : List Value) (h : hc_H) : Prop := (qi_iload 3 (qi_aload 0 (qi_get 6 2 (qi_push (nI 0) (qi_iald 0 (qi_icmp_ge (vc_R_aheadOf_46 r hf J) (qi_iload 2 (qi_aload 0 (qi_get 6 2 (qi_push (nI 14) (qi_iload 3 (qi_iadd (qi_iald 0 (qi_iload 1 (qi_invS hc_tt M_R_has 2 (qi_if_eq (vc_R_aheadOf_37 r hf J) (qi_push (nI 1) (qi_iload 3 (qi_ishl (vc_R_aheadOf_38 r hf J)))))))))))))))))))) lv st h
theorem sn_R_aheadOf_4 {Ph : Nat → State → Prop} {h0 hf : hc_H} {r : Option Value} : qk Ph M_R_aheadOf h0 hf r 4 (vc_R_aheadOf_4 r hf (cx Ph M_R_aheadOf h0 hf r)) := (qs_iload_n d_R_aheadOf_4 rfl (qs_aload_n d_R_aheadOf_5 rfl (qs_get d_R_aheadOf_6 ff_R_13 (qs_iconst d_R_aheadOf_9 (by decide) (qs_iaload d_R_aheadOf_10 (qs_icmp_ge (tgt := 46) d_R_aheadOf_11 (by decide) sn_R_aheadOf_46 (qs_iload_n d_R_aheadOf_14 rfl (qs_aload_n d_R_aheadOf_15 rfl (qs_get d_R_aheadOf_16 ff_R_13 (qs_bipush d_R_aheadOf_19 (by decide) (qs_iload_n d_R_aheadOf_21 rfl (qs_iadd d_R_aheadOf_22 (qs_iaload d_R_aheadOf_23 (qs_iload_n d_R_aheadOf_24 rfl (qs_invS hc_Ph_tt (fun _ _ _ => trivial) d_R_aheadOf_25 zz_R_has wk_932 wk_933 ⟨by decide, by decide⟩ (qs_if_eq (tgt := 37) d_R_aheadOf_28 (by decide) sn_R_aheadOf_37 (qs_iconst d_R_aheadOf_31 (by decide) (qs_iload_n d_R_aheadOf_32 rfl (qs_ishl d_R_aheadOf_33 (qs_goto (tgt := 38) d_R_aheadOf_34 (by decide) sn_R_aheadOf_38))))))))))))))))))))
def vc_R_aheadOf_0 (r : Option Value) (hf : hc_H) (J : Nat → hc_K) (lv : hc_L) (st : List Value) (h : hc_H) : Prop := (qi_push (nI 0) (qi_istore 2 (qi_push (nI 0) (qi_istore 3 (J 4))))) lv st h
theorem sn_R_aheadOf_0 {Ph : Nat → State → Prop} {h0 hf : hc_H} {r : Option Value} : qk Ph M_R_aheadOf h0 hf r 0 (vc_R_aheadOf_0 r hf (cx Ph M_R_aheadOf h0 hf r)) := (qs_iconst d_R_aheadOf_0 (by decide) (qs_istore_n d_R_aheadOf_1 rfl (by decide) (qs_iconst d_R_aheadOf_2 (by decide) (qs_istore_n d_R_aheadOf_3 rfl (by decide) (fun _ _ _ h9 => h9)))))
/-! BalancedLineModel.putIn(I)I -/
abbrev M_R_putIn : hc_M := (⟨"BalancedLineModel", "putIn", "(I)I"⟩, prog_8_method_29_code, 4, (some .int), 0, 0)
theorem d_R_putIn_0 : decode (mC M_R_putIn) 0 = .ok (.iconst 0, 1) := by decide +kernel
theorem d_R_putIn_1 : decode (mC M_R_putIn) 1 = .ok (.istore_n 2, 1) := by decide +kernel
theorem d_R_putIn_2 : decode (mC M_R_putIn) 2 = .ok (.iconst 0, 1) := by decide +kernel
theorem d_R_putIn_3 : decode (mC M_R_putIn) 3 = .ok (.istore_n 3, 1) := by decide +kernel
theorem d_R_putIn_4 : decode (mC M_R_putIn) 4 = .ok (.iload_n 3, 1) := by decide +kernel
theorem d_R_putIn_5 : decode (mC M_R_putIn) 5 = .ok (.aload_n 0, 1) := by decide +kernel
theorem d_R_putIn_6 : decode (mC M_R_putIn) 6 = .ok (.getfield 13, 3) := by decide +kernel
theorem d_R_putIn_9 : decode (mC M_R_putIn) 9 = .ok (.iconst 0, 1) := by decide +kernel
theorem d_R_putIn_10 : decode (mC M_R_putIn) 10 = .ok (.iaload, 1) := by decide +kernel
theorem d_R_putIn_11 : decode (mC M_R_putIn) 11 = .ok (.if_icmp .ge 32, 3) := by decide +kernel
theorem d_R_putIn_14 : decode (mC M_R_putIn) 14 = .ok (.iload_n 2, 1) := by decide +kernel
theorem d_R_putIn_15 : decode (mC M_R_putIn) 15 = .ok (.aload_n 0, 1) := by decide +kernel
theorem d_R_putIn_16 : decode (mC M_R_putIn) 16 = .ok (.getfield 13, 3) := by decide +kernel
theorem d_R_putIn_19 : decode (mC M_R_putIn) 19 = .ok (.bipush 50, 2) := by decide +kernel
theorem d_R_putIn_21 : decode (mC M_R_putIn) 21 = .ok (.iload_n 3, 1) := by decide +kernel
theorem d_R_putIn_22 : decode (mC M_R_putIn) 22 = .ok (.iadd, 1) := by decide +kernel
theorem d_R_putIn_23 : decode (mC M_R_putIn) 23 = .ok (.iaload, 1) := by decide +kernel
theorem d_R_putIn_24 : decode (mC M_R_putIn) 24 = .ok (.iload_n 1, 1) := by decide +kernel
theorem d_R_putIn_25 : decode (mC M_R_putIn) 25 = .ok (.if_icmp .ne 9, 3) := by decide +kernel
theorem d_R_putIn_28 : decode (mC M_R_putIn) 28 = .ok (.iconst 1, 1) := by decide +kernel
theorem d_R_putIn_29 : decode (mC M_R_putIn) 29 = .ok (.iload_n 3, 1) := by decide +kernel
theorem d_R_putIn_30 : decode (mC M_R_putIn) 30 = .ok (.ishl, 1) := by decide +kernel
theorem d_R_putIn_31 : decode (mC M_R_putIn) 31 = .ok (.goto 4, 3) := by decide +kernel
theorem d_R_putIn_34 : decode (mC M_R_putIn) 34 = .ok (.iconst 0, 1) := by decide +kernel
theorem d_R_putIn_35 : decode (mC M_R_putIn) 35 = .ok (.ior, 1) := by decide +kernel
theorem d_R_putIn_36 : decode (mC M_R_putIn) 36 = .ok (.istore_n 2, 1) := by decide +kernel
theorem d_R_putIn_37 : decode (mC M_R_putIn) 37 = .ok (.iinc 3 1, 3) := by decide +kernel
theorem d_R_putIn_40 : decode (mC M_R_putIn) 40 = .ok (.goto (-36), 3) := by decide +kernel
theorem d_R_putIn_43 : decode (mC M_R_putIn) 43 = .ok (.iload_n 2, 1) := by decide +kernel
theorem d_R_putIn_44 : decode (mC M_R_putIn) 44 = .ok (.ireturn, 1) := by decide +kernel
def vc_R_putIn_43 (r : Option Value) (hf : hc_H) (J : Nat → hc_K) (lv : hc_L) (st : List Value) (h : hc_H) : Prop := (qi_iload 2 (qi_iret r hf)) lv st h
theorem sn_R_putIn_43 {Ph : Nat → State → Prop} {h0 hf : hc_H} {r : Option Value} : qk Ph M_R_putIn h0 hf r 43 (vc_R_putIn_43 r hf (cx Ph M_R_putIn h0 hf r)) := (qs_iload_n d_R_putIn_43 rfl (qs_iret d_R_putIn_44 rfl))
def vc_R_putIn_35 (r : Option Value) (hf : hc_H) (J : Nat → hc_K) (lv : hc_L) (st : List Value) (h : hc_H) : Prop := (qi_ior (qi_istore 2 (qi_iinc 3 (nI 1) (J 4)))) lv st h
theorem sn_R_putIn_35 {Ph : Nat → State → Prop} {h0 hf : hc_H} {r : Option Value} : qk Ph M_R_putIn h0 hf r 35 (vc_R_putIn_35 r hf (cx Ph M_R_putIn h0 hf r)) := (qs_ior d_R_putIn_35 (qs_istore_n d_R_putIn_36 rfl (by decide) (qs_iinc d_R_putIn_37 (by decide) (by decide) (qs_goto (tgt := 4) d_R_putIn_40 (by decide) (fun _ _ _ h9 => h9)))))
def vc_R_putIn_34 (r : Option Value) (hf : hc_H) (J : Nat → hc_K) (lv : hc_L) (st : List Value) (h : hc_H) : Prop := (qi_push (nI 0) (vc_R_putIn_35 r hf J)) lv st h
theorem sn_R_putIn_34 {Ph : Nat → State → Prop} {h0 hf : hc_H} {r : Option Value} : qk Ph M_R_putIn h0 hf r 34 (vc_R_putIn_34 r hf (cx Ph M_R_putIn h0 hf r)) := (qs_iconst d_R_putIn_34 (by decide) sn_R_putIn_35)
def vc_R_putIn_4 (r : Option Value) (hf : hc_H) (J : Nat → hc_K) (lv : hc_L) (st : List Value) (h : hc_H) : Prop := (qi_iload 3 (qi_aload 0 (qi_get 6 2 (qi_push (nI 0) (qi_iald 0 (qi_icmp_ge (vc_R_putIn_43 r hf J) (qi_iload 2 (qi_aload 0 (qi_get 6 2 (qi_push (nI 50) (qi_iload 3 (qi_iadd (qi_iald 0 (qi_iload 1 (qi_icmp_ne (vc_R_putIn_34 r hf J) (qi_push (nI 1) (qi_iload 3 (qi_ishl (vc_R_putIn_35 r hf J))))))))))))))))))) lv st h
theorem sn_R_putIn_4 {Ph : Nat → State → Prop} {h0 hf : hc_H} {r : Option Value} : qk Ph M_R_putIn h0 hf r 4 (vc_R_putIn_4 r hf (cx Ph M_R_putIn h0 hf r)) := (qs_iload_n d_R_putIn_4 rfl (qs_aload_n d_R_putIn_5 rfl (qs_get d_R_putIn_6 ff_R_13 (qs_iconst d_R_putIn_9 (by decide) (qs_iaload d_R_putIn_10 (qs_icmp_ge (tgt := 43) d_R_putIn_11 (by decide) sn_R_putIn_43 (qs_iload_n d_R_putIn_14 rfl (qs_aload_n d_R_putIn_15 rfl (qs_get d_R_putIn_16 ff_R_13 (qs_bipush d_R_putIn_19 (by decide) (qs_iload_n d_R_putIn_21 rfl (qs_iadd d_R_putIn_22 (qs_iaload d_R_putIn_23 (qs_iload_n d_R_putIn_24 rfl (qs_icmp_ne (tgt := 34) d_R_putIn_25 (by decide) sn_R_putIn_34 (qs_iconst d_R_putIn_28 (by decide) (qs_iload_n d_R_putIn_29 rfl (qs_ishl d_R_putIn_30 (qs_goto (tgt := 35) d_R_putIn_31 (by decide) sn_R_putIn_35)))))))))))))))))))
def vc_R_putIn_0 (r : Option Value) (hf : hc_H) (J : Nat → hc_K) (lv : hc_L) (st : List Value) (h : hc_H) : Prop := (qi_push (nI 0) (qi_istore 2 (qi_push (nI 0) (qi_istore 3 (J 4))))) lv st h
theorem sn_R_putIn_0 {Ph : Nat → State → Prop} {h0 hf : hc_H} {r : Option Value} : qk Ph M_R_putIn h0 hf r 0 (vc_R_putIn_0 r hf (cx Ph M_R_putIn h0 hf r)) := (qs_iconst d_R_putIn_0 (by decide) (qs_istore_n d_R_putIn_1 rfl (by decide) (qs_iconst d_R_putIn_2 (by decide) (qs_istore_n d_R_putIn_3 rfl (by decide) (fun _ _ _ h9 => h9)))))
/-! BalancedLineModel.timesOf(I)I -/
abbrev M_R_timesOf : hc_M := (⟨"BalancedLineModel", "timesOf", "(I)I"⟩, prog_8_method_30_code, 4, (some .int), 1, 21)
theorem d_R_timesOf_0 : decode (mC M_R_timesOf) 0 = .ok (.iconst 0, 1) := by decide +kernel
theorem d_R_timesOf_1 : decode (mC M_R_timesOf) 1 = .ok (.istore_n 2, 1) := by decide +kernel
theorem d_R_timesOf_2 : decode (mC M_R_timesOf) 2 = .ok (.iconst 0, 1) := by decide +kernel
theorem d_R_timesOf_3 : decode (mC M_R_timesOf) 3 = .ok (.istore_n 3, 1) := by decide +kernel
theorem d_R_timesOf_4 : decode (mC M_R_timesOf) 4 = .ok (.iload_n 3, 1) := by decide +kernel
theorem d_R_timesOf_5 : decode (mC M_R_timesOf) 5 = .ok (.aload_n 0, 1) := by decide +kernel
theorem d_R_timesOf_6 : decode (mC M_R_timesOf) 6 = .ok (.getfield 13, 3) := by decide +kernel
theorem d_R_timesOf_9 : decode (mC M_R_timesOf) 9 = .ok (.iconst 0, 1) := by decide +kernel
theorem d_R_timesOf_10 : decode (mC M_R_timesOf) 10 = .ok (.iaload, 1) := by decide +kernel
theorem d_R_timesOf_11 : decode (mC M_R_timesOf) 11 = .ok (.if_icmp .ge 32, 3) := by decide +kernel
theorem d_R_timesOf_14 : decode (mC M_R_timesOf) 14 = .ok (.iload_n 2, 1) := by decide +kernel
theorem d_R_timesOf_15 : decode (mC M_R_timesOf) 15 = .ok (.iload_n 1, 1) := by decide +kernel
theorem d_R_timesOf_16 : decode (mC M_R_timesOf) 16 = .ok (.iload_n 3, 1) := by decide +kernel
theorem d_R_timesOf_17 : decode (mC M_R_timesOf) 17 = .ok (.invokestatic 48, 3) := by decide +kernel
theorem d_R_timesOf_20 : decode (mC M_R_timesOf) 20 = .ok (.ifCond .eq 14, 3) := by decide +kernel
theorem d_R_timesOf_23 : decode (mC M_R_timesOf) 23 = .ok (.aload_n 0, 1) := by decide +kernel
theorem d_R_timesOf_24 : decode (mC M_R_timesOf) 24 = .ok (.getfield 13, 3) := by decide +kernel
theorem d_R_timesOf_27 : decode (mC M_R_timesOf) 27 = .ok (.iconst 2, 1) := by decide +kernel
theorem d_R_timesOf_28 : decode (mC M_R_timesOf) 28 = .ok (.iload_n 3, 1) := by decide +kernel
theorem d_R_timesOf_29 : decode (mC M_R_timesOf) 29 = .ok (.iadd, 1) := by decide +kernel
theorem d_R_timesOf_30 : decode (mC M_R_timesOf) 30 = .ok (.iaload, 1) := by decide +kernel
theorem d_R_timesOf_31 : decode (mC M_R_timesOf) 31 = .ok (.goto 4, 3) := by decide +kernel
theorem d_R_timesOf_34 : decode (mC M_R_timesOf) 34 = .ok (.iconst 0, 1) := by decide +kernel
theorem d_R_timesOf_35 : decode (mC M_R_timesOf) 35 = .ok (.iadd, 1) := by decide +kernel
theorem d_R_timesOf_36 : decode (mC M_R_timesOf) 36 = .ok (.istore_n 2, 1) := by decide +kernel
theorem d_R_timesOf_37 : decode (mC M_R_timesOf) 37 = .ok (.iinc 3 1, 3) := by decide +kernel
theorem d_R_timesOf_40 : decode (mC M_R_timesOf) 40 = .ok (.goto (-36), 3) := by decide +kernel
theorem d_R_timesOf_43 : decode (mC M_R_timesOf) 43 = .ok (.iload_n 2, 1) := by decide +kernel
theorem d_R_timesOf_44 : decode (mC M_R_timesOf) 44 = .ok (.ireturn, 1) := by decide +kernel
def vc_R_timesOf_43 (r : Option Value) (hf : hc_H) (J : Nat → hc_K) (lv : hc_L) (st : List Value) (h : hc_H) : Prop := (qi_iload 2 (qi_iret r hf)) lv st h
theorem sn_R_timesOf_43 {Ph : Nat → State → Prop} {h0 hf : hc_H} {r : Option Value} : qk Ph M_R_timesOf h0 hf r 43 (vc_R_timesOf_43 r hf (cx Ph M_R_timesOf h0 hf r)) := (qs_iload_n d_R_timesOf_43 rfl (qs_iret d_R_timesOf_44 rfl))
def vc_R_timesOf_35 (r : Option Value) (hf : hc_H) (J : Nat → hc_K) (lv : hc_L) (st : List Value) (h : hc_H) : Prop := (qi_iadd (qi_istore 2 (qi_iinc 3 (nI 1) (J 4)))) lv st h
theorem sn_R_timesOf_35 {Ph : Nat → State → Prop} {h0 hf : hc_H} {r : Option Value} : qk Ph M_R_timesOf h0 hf r 35 (vc_R_timesOf_35 r hf (cx Ph M_R_timesOf h0 hf r)) := (qs_iadd d_R_timesOf_35 (qs_istore_n d_R_timesOf_36 rfl (by decide) (qs_iinc d_R_timesOf_37 (by decide) (by decide) (qs_goto (tgt := 4) d_R_timesOf_40 (by decide) (fun _ _ _ h9 => h9)))))
def vc_R_timesOf_34 (r : Option Value) (hf : hc_H) (J : Nat → hc_K) (lv : hc_L) (st : List Value) (h : hc_H) : Prop := (qi_push (nI 0) (vc_R_timesOf_35 r hf J)) lv st h
theorem sn_R_timesOf_34 {Ph : Nat → State → Prop} {h0 hf : hc_H} {r : Option Value} : qk Ph M_R_timesOf h0 hf r 34 (vc_R_timesOf_34 r hf (cx Ph M_R_timesOf h0 hf r)) := (qs_iconst d_R_timesOf_34 (by decide) sn_R_timesOf_35)
def vc_R_timesOf_4 (r : Option Value) (hf : hc_H) (J : Nat → hc_K) (lv : hc_L) (st : List Value) (h : hc_H) : Prop := (qi_iload 3 (qi_aload 0 (qi_get 6 2 (qi_push (nI 0) (qi_iald 0 (qi_icmp_ge (vc_R_timesOf_43 r hf J) (qi_iload 2 (qi_iload 1 (qi_iload 3 (qi_invS hc_tt M_R_has 2 (qi_if_eq (vc_R_timesOf_34 r hf J) (qi_aload 0 (qi_get 6 2 (qi_push (nI 2) (qi_iload 3 (qi_iadd (qi_iald 0 (vc_R_timesOf_35 r hf J)))))))))))))))))) lv st h
theorem sn_R_timesOf_4 {Ph : Nat → State → Prop} {h0 hf : hc_H} {r : Option Value} : qk Ph M_R_timesOf h0 hf r 4 (vc_R_timesOf_4 r hf (cx Ph M_R_timesOf h0 hf r)) := (qs_iload_n d_R_timesOf_4 rfl (qs_aload_n d_R_timesOf_5 rfl (qs_get d_R_timesOf_6 ff_R_13 (qs_iconst d_R_timesOf_9 (by decide) (qs_iaload d_R_timesOf_10 (qs_icmp_ge (tgt := 43) d_R_timesOf_11 (by decide) sn_R_timesOf_43 (qs_iload_n d_R_timesOf_14 rfl (qs_iload_n d_R_timesOf_15 rfl (qs_iload_n d_R_timesOf_16 rfl (qs_invS hc_Ph_tt (fun _ _ _ => trivial) d_R_timesOf_17 zz_R_has wk_932 wk_933 ⟨by decide, by decide⟩ (qs_if_eq (tgt := 34) d_R_timesOf_20 (by decide) sn_R_timesOf_34 (qs_aload_n d_R_timesOf_23 rfl (qs_get d_R_timesOf_24 ff_R_13 (qs_iconst d_R_timesOf_27 (by decide) (qs_iload_n d_R_timesOf_28 rfl (qs_iadd d_R_timesOf_29 (qs_iaload d_R_timesOf_30 (qs_goto (tgt := 35) d_R_timesOf_31 (by decide) sn_R_timesOf_35))))))))))))))))))
def vc_R_timesOf_0 (r : Option Value) (hf : hc_H) (J : Nat → hc_K) (lv : hc_L) (st : List Value) (h : hc_H) : Prop := (qi_push (nI 0) (qi_istore 2 (qi_push (nI 0) (qi_istore 3 (J 4))))) lv st h
theorem sn_R_timesOf_0 {Ph : Nat → State → Prop} {h0 hf : hc_H} {r : Option Value} : qk Ph M_R_timesOf h0 hf r 0 (vc_R_timesOf_0 r hf (cx Ph M_R_timesOf h0 hf r)) := (qs_iconst d_R_timesOf_0 (by decide) (qs_istore_n d_R_timesOf_1 rfl (by decide) (qs_iconst d_R_timesOf_2 (by decide) (qs_istore_n d_R_timesOf_3 rfl (by decide) (fun _ _ _ h9 => h9)))))
theorem zz_R_putBy : hc_z M_R_putBy 2 := ⟨wk_971, wk_66, by decide +kernel⟩
theorem zz_R_putIn : hc_z M_R_putIn 1 := ⟨wk_979, wk_66, by decide +kernel⟩
theorem zz_R_timesOf : hc_z M_R_timesOf 1 := ⟨wk_983, wk_66, by decide +kernel⟩
theorem zz_R_aheadOf : hc_z M_R_aheadOf 1 := ⟨wk_975, wk_66, by decide +kernel⟩
/-! BalancedLineModel.whyNot(II)I -/
abbrev M_R_whyNot : hc_M := (⟨"BalancedLineModel", "whyNot", "(II)I"⟩, prog_8_method_32_code, 4, (some .int), 2, 44)
theorem d_R_whyNot_0 : decode (mC M_R_whyNot) 0 = .ok (.aload_n 0, 1) := by decide +kernel
theorem d_R_whyNot_1 : decode (mC M_R_whyNot) 1 = .ok (.getfield 13, 3) := by decide +kernel
theorem d_R_whyNot_4 : decode (mC M_R_whyNot) 4 = .ok (.bipush 14, 2) := by decide +kernel
theorem d_R_whyNot_6 : decode (mC M_R_whyNot) 6 = .ok (.iload_n 1, 1) := by decide +kernel
theorem d_R_whyNot_7 : decode (mC M_R_whyNot) 7 = .ok (.iadd, 1) := by decide +kernel
theorem d_R_whyNot_8 : decode (mC M_R_whyNot) 8 = .ok (.iaload, 1) := by decide +kernel
theorem d_R_whyNot_9 : decode (mC M_R_whyNot) 9 = .ok (.aload_n 0, 1) := by decide +kernel
theorem d_R_whyNot_10 : decode (mC M_R_whyNot) 10 = .ok (.iload_n 2, 1) := by decide +kernel
theorem d_R_whyNot_11 : decode (mC M_R_whyNot) 11 = .ok (.iconst 1, 1) := by decide +kernel
theorem d_R_whyNot_12 : decode (mC M_R_whyNot) 12 = .ok (.invokevirtual 135, 3) := by decide +kernel
theorem d_R_whyNot_15 : decode (mC M_R_whyNot) 15 = .ok (.iand, 1) := by decide +kernel
theorem d_R_whyNot_16 : decode (mC M_R_whyNot) 16 = .ok (.ifCond .eq 5, 3) := by decide +kernel
theorem d_R_whyNot_19 : decode (mC M_R_whyNot) 19 = .ok (.iconst 1, 1) := by decide +kernel
theorem d_R_whyNot_20 : decode (mC M_R_whyNot) 20 = .ok (.ireturn, 1) := by decide +kernel
theorem d_R_whyNot_21 : decode (mC M_R_whyNot) 21 = .ok (.aload_n 0, 1) := by decide +kernel
theorem d_R_whyNot_22 : decode (mC M_R_whyNot) 22 = .ok (.iload_n 1, 1) := by decide +kernel
theorem d_R_whyNot_23 : decode (mC M_R_whyNot) 23 = .ok (.invokevirtual 129, 3) := by decide +kernel
theorem d_R_whyNot_26 : decode (mC M_R_whyNot) 26 = .ok (.aload_n 0, 1) := by decide +kernel
theorem d_R_whyNot_27 : decode (mC M_R_whyNot) 27 = .ok (.iload_n 2, 1) := by decide +kernel
theorem d_R_whyNot_28 : decode (mC M_R_whyNot) 28 = .ok (.iconst (-1), 1) := by decide +kernel
theorem d_R_whyNot_29 : decode (mC M_R_whyNot) 29 = .ok (.invokevirtual 135, 3) := by decide +kernel
theorem d_R_whyNot_32 : decode (mC M_R_whyNot) 32 = .ok (.iand, 1) := by decide +kernel
theorem d_R_whyNot_33 : decode (mC M_R_whyNot) 33 = .ok (.ifCond .eq 5, 3) := by decide +kernel
theorem d_R_whyNot_36 : decode (mC M_R_whyNot) 36 = .ok (.iconst 2, 1) := by decide +kernel
theorem d_R_whyNot_37 : decode (mC M_R_whyNot) 37 = .ok (.ireturn, 1) := by decide +kernel
theorem d_R_whyNot_38 : decode (mC M_R_whyNot) 38 = .ok (.aload_n 0, 1) := by decide +kernel
theorem d_R_whyNot_39 : decode (mC M_R_whyNot) 39 = .ok (.iload_n 2, 1) := by decide +kernel
theorem d_R_whyNot_40 : decode (mC M_R_whyNot) 40 = .ok (.invokevirtual 138, 3) := by decide +kernel
theorem d_R_whyNot_43 : decode (mC M_R_whyNot) 43 = .ok (.iconst 1, 1) := by decide +kernel
theorem d_R_whyNot_44 : decode (mC M_R_whyNot) 44 = .ok (.iload_n 1, 1) := by decide +kernel
theorem d_R_whyNot_45 : decode (mC M_R_whyNot) 45 = .ok (.ishl, 1) := by decide +kernel
theorem d_R_whyNot_46 : decode (mC M_R_whyNot) 46 = .ok (.iconst (-1), 1) := by decide +kernel
theorem d_R_whyNot_47 : decode (mC M_R_whyNot) 47 = .ok (.ixor, 1) := by decide +kernel
theorem d_R_whyNot_48 : decode (mC M_R_whyNot) 48 = .ok (.iand, 1) := by decide +kernel
theorem d_R_whyNot_49 : decode (mC M_R_whyNot) 49 = .ok (.istore_n 3, 1) := by decide +kernel
theorem d_R_whyNot_50 : decode (mC M_R_whyNot) 50 = .ok (.aload_n 0, 1) := by decide +kernel
theorem d_R_whyNot_51 : decode (mC M_R_whyNot) 51 = .ok (.iload_n 3, 1) := by decide +kernel
theorem d_R_whyNot_52 : decode (mC M_R_whyNot) 52 = .ok (.invokevirtual 141, 3) := by decide +kernel
theorem d_R_whyNot_55 : decode (mC M_R_whyNot) 55 = .ok (.aload_n 0, 1) := by decide +kernel
theorem d_R_whyNot_56 : decode (mC M_R_whyNot) 56 = .ok (.getfield 13, 3) := by decide +kernel
theorem d_R_whyNot_59 : decode (mC M_R_whyNot) 59 = .ok (.iconst 2, 1) := by decide +kernel
theorem d_R_whyNot_60 : decode (mC M_R_whyNot) 60 = .ok (.iload_n 1, 1) := by decide +kernel
theorem d_R_whyNot_61 : decode (mC M_R_whyNot) 61 = .ok (.iadd, 1) := by decide +kernel
theorem d_R_whyNot_62 : decode (mC M_R_whyNot) 62 = .ok (.iaload, 1) := by decide +kernel
theorem d_R_whyNot_63 : decode (mC M_R_whyNot) 63 = .ok (.iadd, 1) := by decide +kernel
theorem d_R_whyNot_64 : decode (mC M_R_whyNot) 64 = .ok (.aload_n 0, 1) := by decide +kernel
theorem d_R_whyNot_65 : decode (mC M_R_whyNot) 65 = .ok (.getfield 13, 3) := by decide +kernel
theorem d_R_whyNot_68 : decode (mC M_R_whyNot) 68 = .ok (.iconst 1, 1) := by decide +kernel
theorem d_R_whyNot_69 : decode (mC M_R_whyNot) 69 = .ok (.iaload, 1) := by decide +kernel
theorem d_R_whyNot_70 : decode (mC M_R_whyNot) 70 = .ok (.if_icmp .le 5, 3) := by decide +kernel
theorem d_R_whyNot_73 : decode (mC M_R_whyNot) 73 = .ok (.iconst 3, 1) := by decide +kernel
theorem d_R_whyNot_74 : decode (mC M_R_whyNot) 74 = .ok (.ireturn, 1) := by decide +kernel
theorem d_R_whyNot_75 : decode (mC M_R_whyNot) 75 = .ok (.aload_n 0, 1) := by decide +kernel
theorem d_R_whyNot_76 : decode (mC M_R_whyNot) 76 = .ok (.getfield 13, 3) := by decide +kernel
theorem d_R_whyNot_79 : decode (mC M_R_whyNot) 79 = .ok (.bipush 26, 2) := by decide +kernel
theorem d_R_whyNot_81 : decode (mC M_R_whyNot) 81 = .ok (.iload_n 1, 1) := by decide +kernel
theorem d_R_whyNot_82 : decode (mC M_R_whyNot) 82 = .ok (.iadd, 1) := by decide +kernel
theorem d_R_whyNot_83 : decode (mC M_R_whyNot) 83 = .ok (.iaload, 1) := by decide +kernel
theorem d_R_whyNot_84 : decode (mC M_R_whyNot) 84 = .ok (.iload_n 3, 1) := by decide +kernel
theorem d_R_whyNot_85 : decode (mC M_R_whyNot) 85 = .ok (.iand, 1) := by decide +kernel
theorem d_R_whyNot_86 : decode (mC M_R_whyNot) 86 = .ok (.ifCond .eq 5, 3) := by decide +kernel
theorem d_R_whyNot_89 : decode (mC M_R_whyNot) 89 = .ok (.iconst 4, 1) := by decide +kernel
theorem d_R_whyNot_90 : decode (mC M_R_whyNot) 90 = .ok (.ireturn, 1) := by decide +kernel
theorem d_R_whyNot_91 : decode (mC M_R_whyNot) 91 = .ok (.aload_n 0, 1) := by decide +kernel
theorem d_R_whyNot_92 : decode (mC M_R_whyNot) 92 = .ok (.getfield 13, 3) := by decide +kernel
theorem d_R_whyNot_95 : decode (mC M_R_whyNot) 95 = .ok (.bipush 38, 2) := by decide +kernel
theorem d_R_whyNot_97 : decode (mC M_R_whyNot) 97 = .ok (.iload_n 1, 1) := by decide +kernel
theorem d_R_whyNot_98 : decode (mC M_R_whyNot) 98 = .ok (.iadd, 1) := by decide +kernel
theorem d_R_whyNot_99 : decode (mC M_R_whyNot) 99 = .ok (.iaload, 1) := by decide +kernel
theorem d_R_whyNot_100 : decode (mC M_R_whyNot) 100 = .ok (.aload_n 0, 1) := by decide +kernel
theorem d_R_whyNot_101 : decode (mC M_R_whyNot) 101 = .ok (.iload_n 2, 1) := by decide +kernel
theorem d_R_whyNot_102 : decode (mC M_R_whyNot) 102 = .ok (.iconst 0, 1) := by decide +kernel
theorem d_R_whyNot_103 : decode (mC M_R_whyNot) 103 = .ok (.invokevirtual 135, 3) := by decide +kernel
theorem d_R_whyNot_106 : decode (mC M_R_whyNot) 106 = .ok (.iand, 1) := by decide +kernel
theorem d_R_whyNot_107 : decode (mC M_R_whyNot) 107 = .ok (.ifCond .eq 7, 3) := by decide +kernel
theorem d_R_whyNot_110 : decode (mC M_R_whyNot) 110 = .ok (.iconst 5, 1) := by decide +kernel
theorem d_R_whyNot_111 : decode (mC M_R_whyNot) 111 = .ok (.goto 4, 3) := by decide +kernel
theorem d_R_whyNot_114 : decode (mC M_R_whyNot) 114 = .ok (.iconst 0, 1) := by decide +kernel
theorem d_R_whyNot_115 : decode (mC M_R_whyNot) 115 = .ok (.ireturn, 1) := by decide +kernel
def vc_R_whyNot_115 (r : Option Value) (hf : hc_H) (J : Nat → hc_K) (lv : hc_L) (st : List Value) (h : hc_H) : Prop := (qi_iret r hf) lv st h
theorem sn_R_whyNot_115 {Ph : Nat → State → Prop} {h0 hf : hc_H} {r : Option Value} : qk Ph M_R_whyNot h0 hf r 115 (vc_R_whyNot_115 r hf (cx Ph M_R_whyNot h0 hf r)) := (qs_iret d_R_whyNot_115 rfl)
def vc_R_whyNot_114 (r : Option Value) (hf : hc_H) (J : Nat → hc_K) (lv : hc_L) (st : List Value) (h : hc_H) : Prop := (qi_push (nI 0) (vc_R_whyNot_115 r hf J)) lv st h
theorem sn_R_whyNot_114 {Ph : Nat → State → Prop} {h0 hf : hc_H} {r : Option Value} : qk Ph M_R_whyNot h0 hf r 114 (vc_R_whyNot_114 r hf (cx Ph M_R_whyNot h0 hf r)) := (qs_iconst d_R_whyNot_114 (by decide) sn_R_whyNot_115)
def vc_R_whyNot_91 (r : Option Value) (hf : hc_H) (J : Nat → hc_K) (lv : hc_L) (st : List Value) (h : hc_H) : Prop := (qi_aload 0 (qi_get 6 2 (qi_push (nI 38) (qi_iload 1 (qi_iadd (qi_iald 0 (qi_aload 0 (qi_iload 2 (qi_push (nI 0) (qi_invV hc_tt M_R_putBy 2 6 (qi_iand (qi_if_eq (vc_R_whyNot_114 r hf J) (qi_push (nI 5) (vc_R_whyNot_115 r hf J)))))))))))))) lv st h
theorem sn_R_whyNot_91 {Ph : Nat → State → Prop} {h0 hf : hc_H} {r : Option Value} : qk Ph M_R_whyNot h0 hf r 91 (vc_R_whyNot_91 r hf (cx Ph M_R_whyNot h0 hf r)) := (qs_aload_n d_R_whyNot_91 rfl (qs_get d_R_whyNot_92 ff_R_13 (qs_bipush d_R_whyNot_95 (by decide) (qs_iload_n d_R_whyNot_97 rfl (qs_iadd d_R_whyNot_98 (qs_iaload d_R_whyNot_99 (qs_aload_n d_R_whyNot_100 rfl (qs_iload_n d_R_whyNot_101 rfl (qs_iconst d_R_whyNot_102 (by decide) (qs_invV hc_Ph_tt (fun _ _ _ => trivial) d_R_whyNot_103 zz_R_putBy wk_968 ⟨wk_970, wk_32⟩ ⟨_, rfl, rfl⟩ ⟨by decide, by decide⟩ (qs_iand d_R_whyNot_106 (qs_if_eq (tgt := 114) d_R_whyNot_107 (by decide) sn_R_whyNot_114 (qs_iconst d_R_whyNot_110 (by decide) (qs_goto (tgt := 115) d_R_whyNot_111 (by decide) sn_R_whyNot_115))))))))))))))
def vc_R_whyNot_75 (r : Option Value) (hf : hc_H) (J : Nat → hc_K) (lv : hc_L) (st : List Value) (h : hc_H) : Prop := (qi_aload 0 (qi_get 6 2 (qi_push (nI 26) (qi_iload 1 (qi_iadd (qi_iald 0 (qi_iload 3 (qi_iand (qi_if_eq (vc_R_whyNot_91 r hf J) (qi_push (nI 4) (qi_iret r hf))))))))))) lv st h
theorem sn_R_whyNot_75 {Ph : Nat → State → Prop} {h0 hf : hc_H} {r : Option Value} : qk Ph M_R_whyNot h0 hf r 75 (vc_R_whyNot_75 r hf (cx Ph M_R_whyNot h0 hf r)) := (qs_aload_n d_R_whyNot_75 rfl (qs_get d_R_whyNot_76 ff_R_13 (qs_bipush d_R_whyNot_79 (by decide) (qs_iload_n d_R_whyNot_81 rfl (qs_iadd d_R_whyNot_82 (qs_iaload d_R_whyNot_83 (qs_iload_n d_R_whyNot_84 rfl (qs_iand d_R_whyNot_85 (qs_if_eq (tgt := 91) d_R_whyNot_86 (by decide) sn_R_whyNot_91 (qs_iconst d_R_whyNot_89 (by decide) (qs_iret d_R_whyNot_90 rfl)))))))))))
def vc_R_whyNot_38 (r : Option Value) (hf : hc_H) (J : Nat → hc_K) (lv : hc_L) (st : List Value) (h : hc_H) : Prop := (qi_aload 0 (qi_iload 2 (qi_invV hc_tt M_R_putIn 1 6 (qi_push (nI 1) (qi_iload 1 (qi_ishl (qi_push (-1) (qi_ixor (qi_iand (qi_istore 3 (qi_aload 0 (qi_iload 3 (qi_invV hc_tt M_R_timesOf 1 6 (qi_aload 0 (qi_get 6 2 (qi_push (nI 2) (qi_iload 1 (qi_iadd (qi_iald 0 (qi_iadd (qi_aload 0 (qi_get 6 2 (qi_push (nI 1) (qi_iald 0 (qi_icmp_le (vc_R_whyNot_75 r hf J) (qi_push (nI 3) (qi_iret r hf))))))))))))))))))))))))))) lv st h
theorem sn_R_whyNot_38 {Ph : Nat → State → Prop} {h0 hf : hc_H} {r : Option Value} : qk Ph M_R_whyNot h0 hf r 38 (vc_R_whyNot_38 r hf (cx Ph M_R_whyNot h0 hf r)) := (qs_aload_n d_R_whyNot_38 rfl (qs_iload_n d_R_whyNot_39 rfl (qs_invV hc_Ph_tt (fun _ _ _ => trivial) d_R_whyNot_40 zz_R_putIn wk_976 ⟨wk_978, wk_34⟩ ⟨_, rfl, rfl⟩ ⟨by decide, by decide⟩ (qs_iconst d_R_whyNot_43 (by decide) (qs_iload_n d_R_whyNot_44 rfl (qs_ishl d_R_whyNot_45 (qs_iconst d_R_whyNot_46 (by decide) (qs_ixor d_R_whyNot_47 (qs_iand d_R_whyNot_48 (qs_istore_n d_R_whyNot_49 rfl (by decide) (qs_aload_n d_R_whyNot_50 rfl (qs_iload_n d_R_whyNot_51 rfl (qs_invV hc_Ph_tt (fun _ _ _ => trivial) d_R_whyNot_52 zz_R_timesOf wk_980 ⟨wk_982, wk_35⟩ ⟨_, rfl, rfl⟩ ⟨by decide, by decide⟩ (qs_aload_n d_R_whyNot_55 rfl (qs_get d_R_whyNot_56 ff_R_13 (qs_iconst d_R_whyNot_59 (by decide) (qs_iload_n d_R_whyNot_60 rfl (qs_iadd d_R_whyNot_61 (qs_iaload d_R_whyNot_62 (qs_iadd d_R_whyNot_63 (qs_aload_n d_R_whyNot_64 rfl (qs_get d_R_whyNot_65 ff_R_13 (qs_iconst d_R_whyNot_68 (by decide) (qs_iaload d_R_whyNot_69 (qs_icmp_le (tgt := 75) d_R_whyNot_70 (by decide) sn_R_whyNot_75 (qs_iconst d_R_whyNot_73 (by decide) (qs_iret d_R_whyNot_74 rfl)))))))))))))))))))))))))))
def vc_R_whyNot_21 (r : Option Value) (hf : hc_H) (J : Nat → hc_K) (lv : hc_L) (st : List Value) (h : hc_H) : Prop := (qi_aload 0 (qi_iload 1 (qi_invV hc_tt M_R_aheadOf 1 6 (qi_aload 0 (qi_iload 2 (qi_push (-1) (qi_invV hc_tt M_R_putBy 2 6 (qi_iand (qi_if_eq (vc_R_whyNot_38 r hf J) (qi_push (nI 2) (qi_iret r hf))))))))))) lv st h
theorem sn_R_whyNot_21 {Ph : Nat → State → Prop} {h0 hf : hc_H} {r : Option Value} : qk Ph M_R_whyNot h0 hf r 21 (vc_R_whyNot_21 r hf (cx Ph M_R_whyNot h0 hf r)) := (qs_aload_n d_R_whyNot_21 rfl (qs_iload_n d_R_whyNot_22 rfl (qs_invV hc_Ph_tt (fun _ _ _ => trivial) d_R_whyNot_23 zz_R_aheadOf wk_972 ⟨wk_974, wk_33⟩ ⟨_, rfl, rfl⟩ ⟨by decide, by decide⟩ (qs_aload_n d_R_whyNot_26 rfl (qs_iload_n d_R_whyNot_27 rfl (qs_iconst d_R_whyNot_28 (by decide) (qs_invV hc_Ph_tt (fun _ _ _ => trivial) d_R_whyNot_29 zz_R_putBy wk_968 ⟨wk_970, wk_32⟩ ⟨_, rfl, rfl⟩ ⟨by decide, by decide⟩ (qs_iand d_R_whyNot_32 (qs_if_eq (tgt := 38) d_R_whyNot_33 (by decide) sn_R_whyNot_38 (qs_iconst d_R_whyNot_36 (by decide) (qs_iret d_R_whyNot_37 rfl)))))))))))
def vc_R_whyNot_0 (r : Option Value) (hf : hc_H) (J : Nat → hc_K) (lv : hc_L) (st : List Value) (h : hc_H) : Prop := (qi_aload 0 (qi_get 6 2 (qi_push (nI 14) (qi_iload 1 (qi_iadd (qi_iald 0 (qi_aload 0 (qi_iload 2 (qi_push (nI 1) (qi_invV hc_tt M_R_putBy 2 6 (qi_iand (qi_if_eq (vc_R_whyNot_21 r hf J) (qi_push (nI 1) (qi_iret r hf)))))))))))))) lv st h
theorem sn_R_whyNot_0 {Ph : Nat → State → Prop} {h0 hf : hc_H} {r : Option Value} : qk Ph M_R_whyNot h0 hf r 0 (vc_R_whyNot_0 r hf (cx Ph M_R_whyNot h0 hf r)) := (qs_aload_n d_R_whyNot_0 rfl (qs_get d_R_whyNot_1 ff_R_13 (qs_bipush d_R_whyNot_4 (by decide) (qs_iload_n d_R_whyNot_6 rfl (qs_iadd d_R_whyNot_7 (qs_iaload d_R_whyNot_8 (qs_aload_n d_R_whyNot_9 rfl (qs_iload_n d_R_whyNot_10 rfl (qs_iconst d_R_whyNot_11 (by decide) (qs_invV hc_Ph_tt (fun _ _ _ => trivial) d_R_whyNot_12 zz_R_putBy wk_968 ⟨wk_970, wk_32⟩ ⟨_, rfl, rfl⟩ ⟨by decide, by decide⟩ (qs_iand d_R_whyNot_15 (qs_if_eq (tgt := 21) d_R_whyNot_16 (by decide) sn_R_whyNot_21 (qs_iconst d_R_whyNot_19 (by decide) (qs_iret d_R_whyNot_20 rfl))))))))))))))
theorem zz_R_whyNot : hc_z M_R_whyNot 2 := ⟨wk_967, wk_66, by decide +kernel⟩
