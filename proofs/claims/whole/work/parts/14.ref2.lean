/-! BalancedLineModel.takesOff()V -/
abbrev M_R_takesOff : hc_M := (⟨"BalancedLineModel", "takesOff", "()V"⟩, prog_8_method_19_code, 3, none, 3, 67)
theorem d_R_takesOff_0 : decode (mC M_R_takesOff) 0 = .ok (.iconst 0, 1) := by decide +kernel
theorem d_R_takesOff_1 : decode (mC M_R_takesOff) 1 = .ok (.istore_n 1, 1) := by decide +kernel
theorem d_R_takesOff_2 : decode (mC M_R_takesOff) 2 = .ok (.iload_n 1, 1) := by decide +kernel
theorem d_R_takesOff_3 : decode (mC M_R_takesOff) 3 = .ok (.aload_n 0, 1) := by decide +kernel
theorem d_R_takesOff_4 : decode (mC M_R_takesOff) 4 = .ok (.getfield 13, 3) := by decide +kernel
theorem d_R_takesOff_7 : decode (mC M_R_takesOff) 7 = .ok (.iconst 0, 1) := by decide +kernel
theorem d_R_takesOff_8 : decode (mC M_R_takesOff) 8 = .ok (.iaload, 1) := by decide +kernel
theorem d_R_takesOff_9 : decode (mC M_R_takesOff) 9 = .ok (.if_icmp .ge 79, 3) := by decide +kernel
theorem d_R_takesOff_12 : decode (mC M_R_takesOff) 12 = .ok (.aload_n 0, 1) := by decide +kernel
theorem d_R_takesOff_13 : decode (mC M_R_takesOff) 13 = .ok (.getfield 13, 3) := by decide +kernel
theorem d_R_takesOff_16 : decode (mC M_R_takesOff) 16 = .ok (.bipush 50, 2) := by decide +kernel
theorem d_R_takesOff_18 : decode (mC M_R_takesOff) 18 = .ok (.iload_n 1, 1) := by decide +kernel
theorem d_R_takesOff_19 : decode (mC M_R_takesOff) 19 = .ok (.iadd, 1) := by decide +kernel
theorem d_R_takesOff_20 : decode (mC M_R_takesOff) 20 = .ok (.iaload, 1) := by decide +kernel
theorem d_R_takesOff_21 : decode (mC M_R_takesOff) 21 = .ok (.ifCond .le 24, 3) := by decide +kernel
theorem d_R_takesOff_24 : decode (mC M_R_takesOff) 24 = .ok (.aload_n 0, 1) := by decide +kernel
theorem d_R_takesOff_25 : decode (mC M_R_takesOff) 25 = .ok (.iload_n 1, 1) := by decide +kernel
theorem d_R_takesOff_26 : decode (mC M_R_takesOff) 26 = .ok (.aload_n 0, 1) := by decide +kernel
theorem d_R_takesOff_27 : decode (mC M_R_takesOff) 27 = .ok (.getfield 13, 3) := by decide +kernel
theorem d_R_takesOff_30 : decode (mC M_R_takesOff) 30 = .ok (.bipush 50, 2) := by decide +kernel
theorem d_R_takesOff_32 : decode (mC M_R_takesOff) 32 = .ok (.iload_n 1, 1) := by decide +kernel
theorem d_R_takesOff_33 : decode (mC M_R_takesOff) 33 = .ok (.iadd, 1) := by decide +kernel
theorem d_R_takesOff_34 : decode (mC M_R_takesOff) 34 = .ok (.iaload, 1) := by decide +kernel
theorem d_R_takesOff_35 : decode (mC M_R_takesOff) 35 = .ok (.invokevirtual 101, 3) := by decide +kernel
theorem d_R_takesOff_38 : decode (mC M_R_takesOff) 38 = .ok (.ifCond .le 7, 3) := by decide +kernel
theorem d_R_takesOff_41 : decode (mC M_R_takesOff) 41 = .ok (.iconst 1, 1) := by decide +kernel
theorem d_R_takesOff_42 : decode (mC M_R_takesOff) 42 = .ok (.goto 4, 3) := by decide +kernel
theorem d_R_takesOff_45 : decode (mC M_R_takesOff) 45 = .ok (.iconst 0, 1) := by decide +kernel
theorem d_R_takesOff_46 : decode (mC M_R_takesOff) 46 = .ok (.istore_n 2, 1) := by decide +kernel
theorem d_R_takesOff_47 : decode (mC M_R_takesOff) 47 = .ok (.aload_n 0, 1) := by decide +kernel
theorem d_R_takesOff_48 : decode (mC M_R_takesOff) 48 = .ok (.getfield 13, 3) := by decide +kernel
theorem d_R_takesOff_51 : decode (mC M_R_takesOff) 51 = .ok (.bipush 50, 2) := by decide +kernel
theorem d_R_takesOff_53 : decode (mC M_R_takesOff) 53 = .ok (.iload_n 1, 1) := by decide +kernel
theorem d_R_takesOff_54 : decode (mC M_R_takesOff) 54 = .ok (.iadd, 1) := by decide +kernel
theorem d_R_takesOff_55 : decode (mC M_R_takesOff) 55 = .ok (.iload_n 2, 1) := by decide +kernel
theorem d_R_takesOff_56 : decode (mC M_R_takesOff) 56 = .ok (.ifCond .eq 7, 3) := by decide +kernel
theorem d_R_takesOff_59 : decode (mC M_R_takesOff) 59 = .ok (.iconst 0, 1) := by decide +kernel
theorem d_R_takesOff_60 : decode (mC M_R_takesOff) 60 = .ok (.goto 12, 3) := by decide +kernel
theorem d_R_takesOff_63 : decode (mC M_R_takesOff) 63 = .ok (.aload_n 0, 1) := by decide +kernel
theorem d_R_takesOff_64 : decode (mC M_R_takesOff) 64 = .ok (.getfield 13, 3) := by decide +kernel
theorem d_R_takesOff_67 : decode (mC M_R_takesOff) 67 = .ok (.bipush 50, 2) := by decide +kernel
theorem d_R_takesOff_69 : decode (mC M_R_takesOff) 69 = .ok (.iload_n 1, 1) := by decide +kernel
theorem d_R_takesOff_70 : decode (mC M_R_takesOff) 70 = .ok (.iadd, 1) := by decide +kernel
theorem d_R_takesOff_71 : decode (mC M_R_takesOff) 71 = .ok (.iaload, 1) := by decide +kernel
theorem d_R_takesOff_72 : decode (mC M_R_takesOff) 72 = .ok (.iastore, 1) := by decide +kernel
theorem d_R_takesOff_73 : decode (mC M_R_takesOff) 73 = .ok (.iload_n 2, 1) := by decide +kernel
theorem d_R_takesOff_74 : decode (mC M_R_takesOff) 74 = .ok (.ifCond .eq 7, 3) := by decide +kernel
theorem d_R_takesOff_77 : decode (mC M_R_takesOff) 77 = .ok (.iconst 0, 1) := by decide +kernel
theorem d_R_takesOff_78 : decode (mC M_R_takesOff) 78 = .ok (.goto 6, 3) := by decide +kernel
theorem d_R_takesOff_81 : decode (mC M_R_takesOff) 81 = .ok (.iload_n 1, 1) := by decide +kernel
theorem d_R_takesOff_82 : decode (mC M_R_takesOff) 82 = .ok (.iconst 1, 1) := by decide +kernel
theorem d_R_takesOff_83 : decode (mC M_R_takesOff) 83 = .ok (.iadd, 1) := by decide +kernel
theorem d_R_takesOff_84 : decode (mC M_R_takesOff) 84 = .ok (.istore_n 1, 1) := by decide +kernel
theorem d_R_takesOff_85 : decode (mC M_R_takesOff) 85 = .ok (.goto (-83), 3) := by decide +kernel
theorem d_R_takesOff_88 : decode (mC M_R_takesOff) 88 = .ok (.return_, 1) := by decide +kernel
def vc_R_takesOff_88 (r : Option Value) (hf : hc_H) (J : Nat → hc_K) (lv : hc_L) (st : List Value) (h : hc_H) : Prop := (qi_vret r hf) lv st h
theorem sn_R_takesOff_88 {Ph : Nat → State → Prop} {h0 hf : hc_H} {r : Option Value} : qk Ph M_R_takesOff h0 hf r 88 (vc_R_takesOff_88 r hf (cx Ph M_R_takesOff h0 hf r)) := (qs_vret d_R_takesOff_88 rfl)
def vc_R_takesOff_84 (r : Option Value) (hf : hc_H) (J : Nat → hc_K) (lv : hc_L) (st : List Value) (h : hc_H) : Prop := (qi_istore 1 (J 2)) lv st h
theorem sn_R_takesOff_84 {Ph : Nat → State → Prop} {h0 hf : hc_H} {r : Option Value} : qk Ph M_R_takesOff h0 hf r 84 (vc_R_takesOff_84 r hf (cx Ph M_R_takesOff h0 hf r)) := (qs_istore_n d_R_takesOff_84 rfl (by decide) (qs_goto (tgt := 2) d_R_takesOff_85 (by decide) (fun _ _ _ h9 => h9)))
def vc_R_takesOff_81 (r : Option Value) (hf : hc_H) (J : Nat → hc_K) (lv : hc_L) (st : List Value) (h : hc_H) : Prop := (qi_iload 1 (qi_push (nI 1) (qi_iadd (vc_R_takesOff_84 r hf J)))) lv st h
theorem sn_R_takesOff_81 {Ph : Nat → State → Prop} {h0 hf : hc_H} {r : Option Value} : qk Ph M_R_takesOff h0 hf r 81 (vc_R_takesOff_81 r hf (cx Ph M_R_takesOff h0 hf r)) := (qs_iload_n d_R_takesOff_81 rfl (qs_iconst d_R_takesOff_82 (by decide) (qs_iadd d_R_takesOff_83 sn_R_takesOff_84)))
def vc_R_takesOff_72 (r : Option Value) (hf : hc_H) (J : Nat → hc_K) (lv : hc_L) (st : List Value) (h : hc_H) : Prop := (qi_iast (qi_iload 2 (qi_if_eq (vc_R_takesOff_81 r hf J) (qi_push (nI 0) (vc_R_takesOff_84 r hf J))))) lv st h
theorem sn_R_takesOff_72 {Ph : Nat → State → Prop} {h0 hf : hc_H} {r : Option Value} : qk Ph M_R_takesOff h0 hf r 72 (vc_R_takesOff_72 r hf (cx Ph M_R_takesOff h0 hf r)) := (qs_iastore d_R_takesOff_72 (qs_iload_n d_R_takesOff_73 rfl (qs_if_eq (tgt := 81) d_R_takesOff_74 (by decide) sn_R_takesOff_81 (qs_iconst d_R_takesOff_77 (by decide) (qs_goto (tgt := 84) d_R_takesOff_78 (by decide) sn_R_takesOff_84)))))
def vc_R_takesOff_63 (r : Option Value) (hf : hc_H) (J : Nat → hc_K) (lv : hc_L) (st : List Value) (h : hc_H) : Prop := (qi_aload 0 (qi_get 6 2 (qi_push (nI 50) (qi_iload 1 (qi_iadd (qi_iald 0 (vc_R_takesOff_72 r hf J))))))) lv st h
theorem sn_R_takesOff_63 {Ph : Nat → State → Prop} {h0 hf : hc_H} {r : Option Value} : qk Ph M_R_takesOff h0 hf r 63 (vc_R_takesOff_63 r hf (cx Ph M_R_takesOff h0 hf r)) := (qs_aload_n d_R_takesOff_63 rfl (qs_get d_R_takesOff_64 ff_R_13 (qs_bipush d_R_takesOff_67 (by decide) (qs_iload_n d_R_takesOff_69 rfl (qs_iadd d_R_takesOff_70 (qs_iaload d_R_takesOff_71 sn_R_takesOff_72))))))
def vc_R_takesOff_46 (r : Option Value) (hf : hc_H) (J : Nat → hc_K) (lv : hc_L) (st : List Value) (h : hc_H) : Prop := (qi_istore 2 (qi_aload 0 (qi_get 6 2 (qi_push (nI 50) (qi_iload 1 (qi_iadd (qi_iload 2 (qi_if_eq (vc_R_takesOff_63 r hf J) (qi_push (nI 0) (vc_R_takesOff_72 r hf J)))))))))) lv st h
theorem sn_R_takesOff_46 {Ph : Nat → State → Prop} {h0 hf : hc_H} {r : Option Value} : qk Ph M_R_takesOff h0 hf r 46 (vc_R_takesOff_46 r hf (cx Ph M_R_takesOff h0 hf r)) := (qs_istore_n d_R_takesOff_46 rfl (by decide) (qs_aload_n d_R_takesOff_47 rfl (qs_get d_R_takesOff_48 ff_R_13 (qs_bipush d_R_takesOff_51 (by decide) (qs_iload_n d_R_takesOff_53 rfl (qs_iadd d_R_takesOff_54 (qs_iload_n d_R_takesOff_55 rfl (qs_if_eq (tgt := 63) d_R_takesOff_56 (by decide) sn_R_takesOff_63 (qs_iconst d_R_takesOff_59 (by decide) (qs_goto (tgt := 72) d_R_takesOff_60 (by decide) sn_R_takesOff_72))))))))))
def vc_R_takesOff_45 (r : Option Value) (hf : hc_H) (J : Nat → hc_K) (lv : hc_L) (st : List Value) (h : hc_H) : Prop := (qi_push (nI 0) (vc_R_takesOff_46 r hf J)) lv st h
theorem sn_R_takesOff_45 {Ph : Nat → State → Prop} {h0 hf : hc_H} {r : Option Value} : qk Ph M_R_takesOff h0 hf r 45 (vc_R_takesOff_45 r hf (cx Ph M_R_takesOff h0 hf r)) := (qs_iconst d_R_takesOff_45 (by decide) sn_R_takesOff_46)
def vc_R_takesOff_2 (r : Option Value) (hf : hc_H) (J : Nat → hc_K) (lv : hc_L) (st : List Value) (h : hc_H) : Prop := (qi_iload 1 (qi_aload 0 (qi_get 6 2 (qi_push (nI 0) (qi_iald 0 (qi_icmp_ge (vc_R_takesOff_88 r hf J) (qi_aload 0 (qi_get 6 2 (qi_push (nI 50) (qi_iload 1 (qi_iadd (qi_iald 0 (qi_if_le (vc_R_takesOff_45 r hf J) (qi_aload 0 (qi_iload 1 (qi_aload 0 (qi_get 6 2 (qi_push (nI 50) (qi_iload 1 (qi_iadd (qi_iald 0 (qi_invV hc_tt M_R_whyNot 2 6 (qi_if_le (vc_R_takesOff_45 r hf J) (qi_push (nI 1) (vc_R_takesOff_46 r hf J))))))))))))))))))))))))) lv st h
theorem sn_R_takesOff_2 {Ph : Nat → State → Prop} {h0 hf : hc_H} {r : Option Value} : qk Ph M_R_takesOff h0 hf r 2 (vc_R_takesOff_2 r hf (cx Ph M_R_takesOff h0 hf r)) := (qs_iload_n d_R_takesOff_2 rfl (qs_aload_n d_R_takesOff_3 rfl (qs_get d_R_takesOff_4 ff_R_13 (qs_iconst d_R_takesOff_7 (by decide) (qs_iaload d_R_takesOff_8 (qs_icmp_ge (tgt := 88) d_R_takesOff_9 (by decide) sn_R_takesOff_88 (qs_aload_n d_R_takesOff_12 rfl (qs_get d_R_takesOff_13 ff_R_13 (qs_bipush d_R_takesOff_16 (by decide) (qs_iload_n d_R_takesOff_18 rfl (qs_iadd d_R_takesOff_19 (qs_iaload d_R_takesOff_20 (qs_if_le (tgt := 45) d_R_takesOff_21 (by decide) sn_R_takesOff_45 (qs_aload_n d_R_takesOff_24 rfl (qs_iload_n d_R_takesOff_25 rfl (qs_aload_n d_R_takesOff_26 rfl (qs_get d_R_takesOff_27 ff_R_13 (qs_bipush d_R_takesOff_30 (by decide) (qs_iload_n d_R_takesOff_32 rfl (qs_iadd d_R_takesOff_33 (qs_iaload d_R_takesOff_34 (qs_invV hc_Ph_tt (fun _ _ _ => trivial) d_R_takesOff_35 zz_R_whyNot wk_964 ⟨wk_966, wk_31⟩ ⟨_, rfl, rfl⟩ ⟨by decide, by decide⟩ (qs_if_le (tgt := 45) d_R_takesOff_38 (by decide) sn_R_takesOff_45 (qs_iconst d_R_takesOff_41 (by decide) (qs_goto (tgt := 46) d_R_takesOff_42 (by decide) sn_R_takesOff_46)))))))))))))))))))))))))
def vc_R_takesOff_0 (r : Option Value) (hf : hc_H) (J : Nat → hc_K) (lv : hc_L) (st : List Value) (h : hc_H) : Prop := (qi_push (nI 0) (qi_istore 1 (J 2))) lv st h
theorem sn_R_takesOff_0 {Ph : Nat → State → Prop} {h0 hf : hc_H} {r : Option Value} : qk Ph M_R_takesOff h0 hf r 0 (vc_R_takesOff_0 r hf (cx Ph M_R_takesOff h0 hf r)) := (qs_iconst d_R_takesOff_0 (by decide) (qs_istore_n d_R_takesOff_1 rfl (by decide) (fun _ _ _ h9 => h9)))
theorem zz_R_note : hc_z M_R_note 0 := ⟨wk_959, wk_66, by decide +kernel⟩
theorem zz_R_takesOff : hc_z M_R_takesOff 0 := ⟨wk_963, wk_66, by decide +kernel⟩
/-! BalancedLineModel.tells(II)I -/
abbrev M_R_tells : hc_M := (⟨"BalancedLineModel", "tells", "(II)I"⟩, prog_8_method_20_code, 4, (some .int), 4, 89)
theorem d_R_tells_0 : decode (mC M_R_tells) 0 = .ok (.aload_n 0, 1) := by decide +kernel
theorem d_R_tells_1 : decode (mC M_R_tells) 1 = .ok (.getfield 13, 3) := by decide +kernel
theorem d_R_tells_4 : decode (mC M_R_tells) 4 = .ok (.iload_n 1, 1) := by decide +kernel
theorem d_R_tells_5 : decode (mC M_R_tells) 5 = .ok (.iaload, 1) := by decide +kernel
theorem d_R_tells_6 : decode (mC M_R_tells) 6 = .ok (.istore_n 3, 1) := by decide +kernel
theorem d_R_tells_7 : decode (mC M_R_tells) 7 = .ok (.iload_n 3, 1) := by decide +kernel
theorem d_R_tells_8 : decode (mC M_R_tells) 8 = .ok (.iload_n 2, 1) := by decide +kernel
theorem d_R_tells_9 : decode (mC M_R_tells) 9 = .ok (.if_icmp .ne 6, 3) := by decide +kernel
theorem d_R_tells_12 : decode (mC M_R_tells) 12 = .ok (.bipush (-2), 2) := by decide +kernel
theorem d_R_tells_14 : decode (mC M_R_tells) 14 = .ok (.ireturn, 1) := by decide +kernel
theorem d_R_tells_15 : decode (mC M_R_tells) 15 = .ok (.aload_n 0, 1) := by decide +kernel
theorem d_R_tells_16 : decode (mC M_R_tells) 16 = .ok (.invokevirtual 105, 3) := by decide +kernel
theorem d_R_tells_19 : decode (mC M_R_tells) 19 = .ok (.aload_n 0, 1) := by decide +kernel
theorem d_R_tells_20 : decode (mC M_R_tells) 20 = .ok (.getfield 13, 3) := by decide +kernel
theorem d_R_tells_23 : decode (mC M_R_tells) 23 = .ok (.iload_n 1, 1) := by decide +kernel
theorem d_R_tells_24 : decode (mC M_R_tells) 24 = .ok (.iload_n 2, 1) := by decide +kernel
theorem d_R_tells_25 : decode (mC M_R_tells) 25 = .ok (.iastore, 1) := by decide +kernel
theorem d_R_tells_26 : decode (mC M_R_tells) 26 = .ok (.aload_n 0, 1) := by decide +kernel
theorem d_R_tells_27 : decode (mC M_R_tells) 27 = .ok (.invokevirtual 108, 3) := by decide +kernel
theorem d_R_tells_30 : decode (mC M_R_tells) 30 = .ok (.iload_n 3, 1) := by decide +kernel
theorem d_R_tells_31 : decode (mC M_R_tells) 31 = .ok (.ireturn, 1) := by decide +kernel
def vc_R_tells_15 (r : Option Value) (hf : hc_H) (J : Nat → hc_K) (lv : hc_L) (st : List Value) (h : hc_H) : Prop := (qi_aload 0 (qi_invV hc_tt M_R_note 0 6 (qi_aload 0 (qi_get 6 2 (qi_iload 1 (qi_iload 2 (qi_iast (qi_aload 0 (qi_invV hc_tt M_R_takesOff 0 6 (qi_iload 3 (qi_iret r hf))))))))))) lv st h
theorem sn_R_tells_15 {Ph : Nat → State → Prop} {h0 hf : hc_H} {r : Option Value} : qk Ph M_R_tells h0 hf r 15 (vc_R_tells_15 r hf (cx Ph M_R_tells h0 hf r)) := (qs_aload_n d_R_tells_15 rfl (qs_invV hc_Ph_tt (fun _ _ _ => trivial) d_R_tells_16 zz_R_note wk_956 ⟨wk_958, wk_29⟩ ⟨_, rfl, rfl⟩ ⟨by decide, by decide⟩ (qs_aload_n d_R_tells_19 rfl (qs_get d_R_tells_20 ff_R_13 (qs_iload_n d_R_tells_23 rfl (qs_iload_n d_R_tells_24 rfl (qs_iastore d_R_tells_25 (qs_aload_n d_R_tells_26 rfl (qs_invV hc_Ph_tt (fun _ _ _ => trivial) d_R_tells_27 zz_R_takesOff wk_960 ⟨wk_962, wk_30⟩ ⟨_, rfl, rfl⟩ ⟨by decide, by decide⟩ (qs_iload_n d_R_tells_30 rfl (qs_iret d_R_tells_31 rfl)))))))))))
def vc_R_tells_0 (r : Option Value) (hf : hc_H) (J : Nat → hc_K) (lv : hc_L) (st : List Value) (h : hc_H) : Prop := (qi_aload 0 (qi_get 6 2 (qi_iload 1 (qi_iald 0 (qi_istore 3 (qi_iload 3 (qi_iload 2 (qi_icmp_ne (vc_R_tells_15 r hf J) (qi_push (-2) (qi_iret r hf)))))))))) lv st h
theorem sn_R_tells_0 {Ph : Nat → State → Prop} {h0 hf : hc_H} {r : Option Value} : qk Ph M_R_tells h0 hf r 0 (vc_R_tells_0 r hf (cx Ph M_R_tells h0 hf r)) := (qs_aload_n d_R_tells_0 rfl (qs_get d_R_tells_1 ff_R_13 (qs_iload_n d_R_tells_4 rfl (qs_iaload d_R_tells_5 (qs_istore_n d_R_tells_6 rfl (by decide) (qs_iload_n d_R_tells_7 rfl (qs_iload_n d_R_tells_8 rfl (qs_icmp_ne (tgt := 15) d_R_tells_9 (by decide) sn_R_tells_15 (qs_bipush d_R_tells_12 (by decide) (qs_iret d_R_tells_14 rfl))))))))))
theorem zz_R_tells : hc_z M_R_tells 2 := ⟨wk_955, wk_66, by decide +kernel⟩
/-! BalancedLineModel.cycle(I)I -/
abbrev M_R_cycle : hc_M := (⟨"BalancedLineModel", "cycle", "(I)I"⟩, prog_8_method_21_code, 2, (some .int), 5, 112)
theorem d_R_cycle_0 : decode (mC M_R_cycle) 0 = .ok (.iload_n 1, 1) := by decide +kernel
theorem d_R_cycle_1 : decode (mC M_R_cycle) 1 = .ok (.i2l, 1) := by decide +kernel
theorem d_R_cycle_2 : decode (mC M_R_cycle) 2 = .ok (.lconst 1, 1) := by decide +kernel
theorem d_R_cycle_3 : decode (mC M_R_cycle) 3 = .ok (.ldc2_w 111, 3) := by decide +kernel
theorem d_R_cycle_6 : decode (mC M_R_cycle) 6 = .ok (.invokestatic 56, 3) := by decide +kernel
theorem d_R_cycle_9 : decode (mC M_R_cycle) 9 = .ok (.ifCond .eq 12, 3) := by decide +kernel
theorem d_R_cycle_12 : decode (mC M_R_cycle) 12 = .ok (.aload_n 0, 1) := by decide +kernel
theorem d_R_cycle_13 : decode (mC M_R_cycle) 13 = .ok (.iconst 1, 1) := by decide +kernel
theorem d_R_cycle_14 : decode (mC M_R_cycle) 14 = .ok (.iload_n 1, 1) := by decide +kernel
theorem d_R_cycle_15 : decode (mC M_R_cycle) 15 = .ok (.invokevirtual 113, 3) := by decide +kernel
theorem d_R_cycle_18 : decode (mC M_R_cycle) 18 = .ok (.goto 4, 3) := by decide +kernel
theorem d_R_cycle_21 : decode (mC M_R_cycle) 21 = .ok (.iconst (-1), 1) := by decide +kernel
theorem d_R_cycle_22 : decode (mC M_R_cycle) 22 = .ok (.ireturn, 1) := by decide +kernel
def vc_R_cycle_22 (r : Option Value) (hf : hc_H) (J : Nat → hc_K) (lv : hc_L) (st : List Value) (h : hc_H) : Prop := (qi_iret r hf) lv st h
theorem sn_R_cycle_22 {Ph : Nat → State → Prop} {h0 hf : hc_H} {r : Option Value} : qk Ph M_R_cycle h0 hf r 22 (vc_R_cycle_22 r hf (cx Ph M_R_cycle h0 hf r)) := (qs_iret d_R_cycle_22 rfl)
def vc_R_cycle_21 (r : Option Value) (hf : hc_H) (J : Nat → hc_K) (lv : hc_L) (st : List Value) (h : hc_H) : Prop := (qi_push (-1) (vc_R_cycle_22 r hf J)) lv st h
theorem sn_R_cycle_21 {Ph : Nat → State → Prop} {h0 hf : hc_H} {r : Option Value} : qk Ph M_R_cycle h0 hf r 21 (vc_R_cycle_21 r hf (cx Ph M_R_cycle h0 hf r)) := (qs_iconst d_R_cycle_21 (by decide) sn_R_cycle_22)
def vc_R_cycle_0 (r : Option Value) (hf : hc_H) (J : Nat → hc_K) (lv : hc_L) (st : List Value) (h : hc_H) : Prop := (qi_iload 1 (qi_i2l (qi_pushl (lN 1) (qi_pushl (lN 120) (qi_invS hc_tt M_R_in 3 (qi_if_eq (vc_R_cycle_21 r hf J) (qi_aload 0 (qi_push (nI 1) (qi_iload 1 (qi_invV hc_tt M_R_tells 2 6 (vc_R_cycle_22 r hf J))))))))))) lv st h
theorem sn_R_cycle_0 {Ph : Nat → State → Prop} {h0 hf : hc_H} {r : Option Value} : qk Ph M_R_cycle h0 hf r 0 (vc_R_cycle_0 r hf (cx Ph M_R_cycle h0 hf r)) := (qs_iload_n d_R_cycle_0 rfl (qs_i2l d_R_cycle_1 (qs_lconst d_R_cycle_2 rfl (qs_ldc2 d_R_cycle_3 (by first | exact wk_951 | exact (show _ ∈ lw_g from wk_951)) (qs_invS hc_Ph_tt (fun _ _ _ => trivial) d_R_cycle_6 zz_R_in wk_903 wk_904 ⟨by decide, by decide⟩ (qs_if_eq (tgt := 21) d_R_cycle_9 (by decide) sn_R_cycle_21 (qs_aload_n d_R_cycle_12 rfl (qs_iconst d_R_cycle_13 (by decide) (qs_iload_n d_R_cycle_14 rfl (qs_invV hc_Ph_tt (fun _ _ _ => trivial) d_R_cycle_15 zz_R_tells wk_952 ⟨wk_954, wk_28⟩ ⟨_, rfl, rfl⟩ ⟨by decide, by decide⟩ (qs_goto (tgt := 22) d_R_cycle_18 (by decide) sn_R_cycle_22)))))))))))
/-! BalancedLineModel.time(II)I -/
abbrev M_R_time : hc_M := (⟨"BalancedLineModel", "time", "(II)I"⟩, prog_8_method_22_code, 3, (some .int), 5, 112)
theorem d_R_time_0 : decode (mC M_R_time) 0 = .ok (.aload_n 0, 1) := by decide +kernel
theorem d_R_time_1 : decode (mC M_R_time) 1 = .ok (.iload_n 1, 1) := by decide +kernel
theorem d_R_time_2 : decode (mC M_R_time) 2 = .ok (.invokevirtual 98, 3) := by decide +kernel
theorem d_R_time_5 : decode (mC M_R_time) 5 = .ok (.ifCond .eq 26, 3) := by decide +kernel
theorem d_R_time_8 : decode (mC M_R_time) 8 = .ok (.iload_n 2, 1) := by decide +kernel
theorem d_R_time_9 : decode (mC M_R_time) 9 = .ok (.i2l, 1) := by decide +kernel
theorem d_R_time_10 : decode (mC M_R_time) 10 = .ok (.lconst 1, 1) := by decide +kernel
theorem d_R_time_11 : decode (mC M_R_time) 11 = .ok (.ldc2_w 116, 3) := by decide +kernel
theorem d_R_time_14 : decode (mC M_R_time) 14 = .ok (.invokestatic 56, 3) := by decide +kernel
theorem d_R_time_17 : decode (mC M_R_time) 17 = .ok (.ifCond .eq 14, 3) := by decide +kernel
theorem d_R_time_20 : decode (mC M_R_time) 20 = .ok (.aload_n 0, 1) := by decide +kernel
theorem d_R_time_21 : decode (mC M_R_time) 21 = .ok (.iconst 2, 1) := by decide +kernel
theorem d_R_time_22 : decode (mC M_R_time) 22 = .ok (.iload_n 1, 1) := by decide +kernel
theorem d_R_time_23 : decode (mC M_R_time) 23 = .ok (.iadd, 1) := by decide +kernel
theorem d_R_time_24 : decode (mC M_R_time) 24 = .ok (.iload_n 2, 1) := by decide +kernel
theorem d_R_time_25 : decode (mC M_R_time) 25 = .ok (.invokevirtual 113, 3) := by decide +kernel
theorem d_R_time_28 : decode (mC M_R_time) 28 = .ok (.goto 4, 3) := by decide +kernel
theorem d_R_time_31 : decode (mC M_R_time) 31 = .ok (.iconst (-1), 1) := by decide +kernel
theorem d_R_time_32 : decode (mC M_R_time) 32 = .ok (.ireturn, 1) := by decide +kernel
def vc_R_time_32 (r : Option Value) (hf : hc_H) (J : Nat → hc_K) (lv : hc_L) (st : List Value) (h : hc_H) : Prop := (qi_iret r hf) lv st h
theorem sn_R_time_32 {Ph : Nat → State → Prop} {h0 hf : hc_H} {r : Option Value} : qk Ph M_R_time h0 hf r 32 (vc_R_time_32 r hf (cx Ph M_R_time h0 hf r)) := (qs_iret d_R_time_32 rfl)
def vc_R_time_31 (r : Option Value) (hf : hc_H) (J : Nat → hc_K) (lv : hc_L) (st : List Value) (h : hc_H) : Prop := (qi_push (-1) (vc_R_time_32 r hf J)) lv st h
theorem sn_R_time_31 {Ph : Nat → State → Prop} {h0 hf : hc_H} {r : Option Value} : qk Ph M_R_time h0 hf r 31 (vc_R_time_31 r hf (cx Ph M_R_time h0 hf r)) := (qs_iconst d_R_time_31 (by decide) sn_R_time_32)
def vc_R_time_0 (r : Option Value) (hf : hc_H) (J : Nat → hc_K) (lv : hc_L) (st : List Value) (h : hc_H) : Prop := (qi_aload 0 (qi_iload 1 (qi_invV hc_tt M_R_isTask 1 6 (qi_if_eq (vc_R_time_31 r hf J) (qi_iload 2 (qi_i2l (qi_pushl (lN 1) (qi_pushl (lN 60) (qi_invS hc_tt M_R_in 3 (qi_if_eq (vc_R_time_31 r hf J) (qi_aload 0 (qi_push (nI 2) (qi_iload 1 (qi_iadd (qi_iload 2 (qi_invV hc_tt M_R_tells 2 6 (vc_R_time_32 r hf J))))))))))))))))) lv st h
theorem sn_R_time_0 {Ph : Nat → State → Prop} {h0 hf : hc_H} {r : Option Value} : qk Ph M_R_time h0 hf r 0 (vc_R_time_0 r hf (cx Ph M_R_time h0 hf r)) := (qs_aload_n d_R_time_0 rfl (qs_iload_n d_R_time_1 rfl (qs_invV hc_Ph_tt (fun _ _ _ => trivial) d_R_time_2 zz_R_isTask wk_988 ⟨wk_990, wk_36⟩ ⟨_, rfl, rfl⟩ ⟨by decide, by decide⟩ (qs_if_eq (tgt := 31) d_R_time_5 (by decide) sn_R_time_31 (qs_iload_n d_R_time_8 rfl (qs_i2l d_R_time_9 (qs_lconst d_R_time_10 rfl (qs_ldc2 d_R_time_11 (by first | exact wk_992 | exact (show _ ∈ lw_g from wk_992)) (qs_invS hc_Ph_tt (fun _ _ _ => trivial) d_R_time_14 zz_R_in wk_903 wk_904 ⟨by decide, by decide⟩ (qs_if_eq (tgt := 31) d_R_time_17 (by decide) sn_R_time_31 (qs_aload_n d_R_time_20 rfl (qs_iconst d_R_time_21 (by decide) (qs_iload_n d_R_time_22 rfl (qs_iadd d_R_time_23 (qs_iload_n d_R_time_24 rfl (qs_invV hc_Ph_tt (fun _ _ _ => trivial) d_R_time_25 zz_R_tells wk_952 ⟨wk_954, wk_28⟩ ⟨_, rfl, rfl⟩ ⟨by decide, by decide⟩ (qs_goto (tgt := 32) d_R_time_28 (by decide) sn_R_time_32)))))))))))))))))
theorem zz_R_ones : hc_z M_R_ones 1 := ⟨wk_1007, wk_66, by decide +kernel⟩
/-! BalancedLineModel.ordersMany()I -/
abbrev M_R_ordersMany : hc_M := (⟨"BalancedLineModel", "ordersMany", "()I"⟩, prog_8_method_23_code, 3, (some .int), 1, 22)
theorem d_R_ordersMany_0 : decode (mC M_R_ordersMany) 0 = .ok (.iconst 0, 1) := by decide +kernel
theorem d_R_ordersMany_1 : decode (mC M_R_ordersMany) 1 = .ok (.istore_n 1, 1) := by decide +kernel
theorem d_R_ordersMany_2 : decode (mC M_R_ordersMany) 2 = .ok (.iconst 0, 1) := by decide +kernel
theorem d_R_ordersMany_3 : decode (mC M_R_ordersMany) 3 = .ok (.istore_n 2, 1) := by decide +kernel
theorem d_R_ordersMany_4 : decode (mC M_R_ordersMany) 4 = .ok (.iload_n 2, 1) := by decide +kernel
theorem d_R_ordersMany_5 : decode (mC M_R_ordersMany) 5 = .ok (.aload_n 0, 1) := by decide +kernel
theorem d_R_ordersMany_6 : decode (mC M_R_ordersMany) 6 = .ok (.getfield 13, 3) := by decide +kernel
theorem d_R_ordersMany_9 : decode (mC M_R_ordersMany) 9 = .ok (.iconst 0, 1) := by decide +kernel
theorem d_R_ordersMany_10 : decode (mC M_R_ordersMany) 10 = .ok (.iaload, 1) := by decide +kernel
theorem d_R_ordersMany_11 : decode (mC M_R_ordersMany) 11 = .ok (.if_icmp .ge 24, 3) := by decide +kernel
theorem d_R_ordersMany_14 : decode (mC M_R_ordersMany) 14 = .ok (.iload_n 1, 1) := by decide +kernel
theorem d_R_ordersMany_15 : decode (mC M_R_ordersMany) 15 = .ok (.aload_n 0, 1) := by decide +kernel
theorem d_R_ordersMany_16 : decode (mC M_R_ordersMany) 16 = .ok (.getfield 13, 3) := by decide +kernel
theorem d_R_ordersMany_19 : decode (mC M_R_ordersMany) 19 = .ok (.bipush 14, 2) := by decide +kernel
theorem d_R_ordersMany_21 : decode (mC M_R_ordersMany) 21 = .ok (.iload_n 2, 1) := by decide +kernel
theorem d_R_ordersMany_22 : decode (mC M_R_ordersMany) 22 = .ok (.iadd, 1) := by decide +kernel
theorem d_R_ordersMany_23 : decode (mC M_R_ordersMany) 23 = .ok (.iaload, 1) := by decide +kernel
theorem d_R_ordersMany_24 : decode (mC M_R_ordersMany) 24 = .ok (.invokestatic 118, 3) := by decide +kernel
theorem d_R_ordersMany_27 : decode (mC M_R_ordersMany) 27 = .ok (.iadd, 1) := by decide +kernel
theorem d_R_ordersMany_28 : decode (mC M_R_ordersMany) 28 = .ok (.istore_n 1, 1) := by decide +kernel
theorem d_R_ordersMany_29 : decode (mC M_R_ordersMany) 29 = .ok (.iinc 2 1, 3) := by decide +kernel
theorem d_R_ordersMany_32 : decode (mC M_R_ordersMany) 32 = .ok (.goto (-28), 3) := by decide +kernel
theorem d_R_ordersMany_35 : decode (mC M_R_ordersMany) 35 = .ok (.iload_n 1, 1) := by decide +kernel
theorem d_R_ordersMany_36 : decode (mC M_R_ordersMany) 36 = .ok (.ireturn, 1) := by decide +kernel
def vc_R_ordersMany_35 (r : Option Value) (hf : hc_H) (J : Nat → hc_K) (lv : hc_L) (st : List Value) (h : hc_H) : Prop := (qi_iload 1 (qi_iret r hf)) lv st h
theorem sn_R_ordersMany_35 {Ph : Nat → State → Prop} {h0 hf : hc_H} {r : Option Value} : qk Ph M_R_ordersMany h0 hf r 35 (vc_R_ordersMany_35 r hf (cx Ph M_R_ordersMany h0 hf r)) := (qs_iload_n d_R_ordersMany_35 rfl (qs_iret d_R_ordersMany_36 rfl))
def vc_R_ordersMany_4 (r : Option Value) (hf : hc_H) (J : Nat → hc_K) (lv : hc_L) (st : List Value) (h : hc_H) : Prop := (qi_iload 2 (qi_aload 0 (qi_get 6 2 (qi_push (nI 0) (qi_iald 0 (qi_icmp_ge (vc_R_ordersMany_35 r hf J) (qi_iload 1 (qi_aload 0 (qi_get 6 2 (qi_push (nI 14) (qi_iload 2 (qi_iadd (qi_iald 0 (qi_invS hc_tt M_R_ones 1 (qi_iadd (qi_istore 1 (qi_iinc 2 (nI 1) (J 4)))))))))))))))))) lv st h
theorem sn_R_ordersMany_4 {Ph : Nat → State → Prop} {h0 hf : hc_H} {r : Option Value} : qk Ph M_R_ordersMany h0 hf r 4 (vc_R_ordersMany_4 r hf (cx Ph M_R_ordersMany h0 hf r)) := (qs_iload_n d_R_ordersMany_4 rfl (qs_aload_n d_R_ordersMany_5 rfl (qs_get d_R_ordersMany_6 ff_R_13 (qs_iconst d_R_ordersMany_9 (by decide) (qs_iaload d_R_ordersMany_10 (qs_icmp_ge (tgt := 35) d_R_ordersMany_11 (by decide) sn_R_ordersMany_35 (qs_iload_n d_R_ordersMany_14 rfl (qs_aload_n d_R_ordersMany_15 rfl (qs_get d_R_ordersMany_16 ff_R_13 (qs_bipush d_R_ordersMany_19 (by decide) (qs_iload_n d_R_ordersMany_21 rfl (qs_iadd d_R_ordersMany_22 (qs_iaload d_R_ordersMany_23 (qs_invS hc_Ph_tt (fun _ _ _ => trivial) d_R_ordersMany_24 zz_R_ones wk_1005 wk_1006 ⟨by decide, by decide⟩ (qs_iadd d_R_ordersMany_27 (qs_istore_n d_R_ordersMany_28 rfl (by decide) (qs_iinc d_R_ordersMany_29 (by decide) (by decide) (qs_goto (tgt := 4) d_R_ordersMany_32 (by decide) (fun _ _ _ h9 => h9)))))))))))))))))))
def vc_R_ordersMany_0 (r : Option Value) (hf : hc_H) (J : Nat → hc_K) (lv : hc_L) (st : List Value) (h : hc_H) : Prop := (qi_push (nI 0) (qi_istore 1 (qi_push (nI 0) (qi_istore 2 (J 4))))) lv st h
theorem sn_R_ordersMany_0 {Ph : Nat → State → Prop} {h0 hf : hc_H} {r : Option Value} : qk Ph M_R_ordersMany h0 hf r 0 (vc_R_ordersMany_0 r hf (cx Ph M_R_ordersMany h0 hf r)) := (qs_iconst d_R_ordersMany_0 (by decide) (qs_istore_n d_R_ordersMany_1 rfl (by decide) (qs_iconst d_R_ordersMany_2 (by decide) (qs_istore_n d_R_ordersMany_3 rfl (by decide) (fun _ _ _ h9 => h9)))))
theorem zz_R_ordersMany : hc_z M_R_ordersMany 0 := ⟨wk_1004, wk_66, by decide +kernel⟩
theorem zz_R_isPair : hc_z M_R_isPair 2 := ⟨wk_1000, wk_66, by decide +kernel⟩
/-! BalancedLineModel.order(III)I -/
abbrev M_R_order : hc_M := (⟨"BalancedLineModel", "order", "(III)I"⟩, prog_8_method_24_code, 4, (some .int), 4, 89)
theorem d_R_order_0 : decode (mC M_R_order) 0 = .ok (.aload_n 0, 1) := by decide +kernel
theorem d_R_order_1 : decode (mC M_R_order) 1 = .ok (.iload_n 1, 1) := by decide +kernel
theorem d_R_order_2 : decode (mC M_R_order) 2 = .ok (.iload_n 2, 1) := by decide +kernel
theorem d_R_order_3 : decode (mC M_R_order) 3 = .ok (.invokevirtual 121, 3) := by decide +kernel
theorem d_R_order_6 : decode (mC M_R_order) 6 = .ok (.ifCond .eq 13, 3) := by decide +kernel
theorem d_R_order_9 : decode (mC M_R_order) 9 = .ok (.iload_n 3, 1) := by decide +kernel
theorem d_R_order_10 : decode (mC M_R_order) 10 = .ok (.i2l, 1) := by decide +kernel
theorem d_R_order_11 : decode (mC M_R_order) 11 = .ok (.lconst 0, 1) := by decide +kernel
theorem d_R_order_12 : decode (mC M_R_order) 12 = .ok (.lconst 1, 1) := by decide +kernel
theorem d_R_order_13 : decode (mC M_R_order) 13 = .ok (.invokestatic 56, 3) := by decide +kernel
theorem d_R_order_16 : decode (mC M_R_order) 16 = .ok (.ifCond .ne 5, 3) := by decide +kernel
theorem d_R_order_19 : decode (mC M_R_order) 19 = .ok (.iconst (-1), 1) := by decide +kernel
theorem d_R_order_20 : decode (mC M_R_order) 20 = .ok (.ireturn, 1) := by decide +kernel
theorem d_R_order_21 : decode (mC M_R_order) 21 = .ok (.aload_n 0, 1) := by decide +kernel
theorem d_R_order_22 : decode (mC M_R_order) 22 = .ok (.getfield 13, 3) := by decide +kernel
theorem d_R_order_25 : decode (mC M_R_order) 25 = .ok (.bipush 14, 2) := by decide +kernel
theorem d_R_order_27 : decode (mC M_R_order) 27 = .ok (.iload_n 2, 1) := by decide +kernel
theorem d_R_order_28 : decode (mC M_R_order) 28 = .ok (.iadd, 1) := by decide +kernel
theorem d_R_order_29 : decode (mC M_R_order) 29 = .ok (.iaload, 1) := by decide +kernel
theorem d_R_order_30 : decode (mC M_R_order) 30 = .ok (.iload_n 1, 1) := by decide +kernel
theorem d_R_order_31 : decode (mC M_R_order) 31 = .ok (.invokestatic 48, 3) := by decide +kernel
theorem d_R_order_34 : decode (mC M_R_order) 34 = .ok (.iload_n 3, 1) := by decide +kernel
theorem d_R_order_35 : decode (mC M_R_order) 35 = .ok (.iconst 1, 1) := by decide +kernel
theorem d_R_order_36 : decode (mC M_R_order) 36 = .ok (.if_icmp .ne 7, 3) := by decide +kernel
theorem d_R_order_39 : decode (mC M_R_order) 39 = .ok (.iconst 1, 1) := by decide +kernel
theorem d_R_order_40 : decode (mC M_R_order) 40 = .ok (.goto 4, 3) := by decide +kernel
theorem d_R_order_43 : decode (mC M_R_order) 43 = .ok (.iconst 0, 1) := by decide +kernel
theorem d_R_order_44 : decode (mC M_R_order) 44 = .ok (.if_icmp .eq 23, 3) := by decide +kernel
theorem d_R_order_47 : decode (mC M_R_order) 47 = .ok (.iload_n 3, 1) := by decide +kernel
theorem d_R_order_48 : decode (mC M_R_order) 48 = .ok (.iconst 1, 1) := by decide +kernel
theorem d_R_order_49 : decode (mC M_R_order) 49 = .ok (.if_icmp .ne 21, 3) := by decide +kernel
theorem d_R_order_52 : decode (mC M_R_order) 52 = .ok (.aload_n 0, 1) := by decide +kernel
theorem d_R_order_53 : decode (mC M_R_order) 53 = .ok (.getfield 13, 3) := by decide +kernel
theorem d_R_order_56 : decode (mC M_R_order) 56 = .ok (.iload_n 1, 1) := by decide +kernel
theorem d_R_order_57 : decode (mC M_R_order) 57 = .ok (.invokestatic 75, 3) := by decide +kernel
theorem d_R_order_60 : decode (mC M_R_order) 60 = .ok (.iload_n 2, 1) := by decide +kernel
theorem d_R_order_61 : decode (mC M_R_order) 61 = .ok (.invokestatic 48, 3) := by decide +kernel
theorem d_R_order_64 : decode (mC M_R_order) 64 = .ok (.ifCond .eq 6, 3) := by decide +kernel
theorem d_R_order_67 : decode (mC M_R_order) 67 = .ok (.bipush (-2), 2) := by decide +kernel
theorem d_R_order_69 : decode (mC M_R_order) 69 = .ok (.ireturn, 1) := by decide +kernel
theorem d_R_order_70 : decode (mC M_R_order) 70 = .ok (.aload_n 0, 1) := by decide +kernel
theorem d_R_order_71 : decode (mC M_R_order) 71 = .ok (.invokevirtual 105, 3) := by decide +kernel
theorem d_R_order_74 : decode (mC M_R_order) 74 = .ok (.aload_n 0, 1) := by decide +kernel
theorem d_R_order_75 : decode (mC M_R_order) 75 = .ok (.getfield 13, 3) := by decide +kernel
theorem d_R_order_78 : decode (mC M_R_order) 78 = .ok (.bipush 14, 2) := by decide +kernel
theorem d_R_order_80 : decode (mC M_R_order) 80 = .ok (.iload_n 2, 1) := by decide +kernel
theorem d_R_order_81 : decode (mC M_R_order) 81 = .ok (.iadd, 1) := by decide +kernel
theorem d_R_order_82 : decode (mC M_R_order) 82 = .ok (.dup2, 1) := by decide +kernel
theorem d_R_order_83 : decode (mC M_R_order) 83 = .ok (.iaload, 1) := by decide +kernel
theorem d_R_order_84 : decode (mC M_R_order) 84 = .ok (.iconst 1, 1) := by decide +kernel
theorem d_R_order_85 : decode (mC M_R_order) 85 = .ok (.iload_n 1, 1) := by decide +kernel
theorem d_R_order_86 : decode (mC M_R_order) 86 = .ok (.ishl, 1) := by decide +kernel
theorem d_R_order_87 : decode (mC M_R_order) 87 = .ok (.ixor, 1) := by decide +kernel
theorem d_R_order_88 : decode (mC M_R_order) 88 = .ok (.iastore, 1) := by decide +kernel
theorem d_R_order_89 : decode (mC M_R_order) 89 = .ok (.aload_n 0, 1) := by decide +kernel
theorem d_R_order_90 : decode (mC M_R_order) 90 = .ok (.invokevirtual 108, 3) := by decide +kernel
theorem d_R_order_93 : decode (mC M_R_order) 93 = .ok (.aload_n 0, 1) := by decide +kernel
theorem d_R_order_94 : decode (mC M_R_order) 94 = .ok (.invokevirtual 124, 3) := by decide +kernel
theorem d_R_order_97 : decode (mC M_R_order) 97 = .ok (.ireturn, 1) := by decide +kernel
def vc_R_order_70 (r : Option Value) (hf : hc_H) (J : Nat → hc_K) (lv : hc_L) (st : List Value) (h : hc_H) : Prop := (qi_aload 0 (qi_invV hc_tt M_R_note 0 6 (qi_aload 0 (qi_get 6 2 (qi_push (nI 14) (qi_iload 2 (qi_iadd (qi_dup2 (qi_iald 0 (qi_push (nI 1) (qi_iload 1 (qi_ishl (qi_ixor (qi_iast (qi_aload 0 (qi_invV hc_tt M_R_takesOff 0 6 (qi_aload 0 (qi_invV hc_tt M_R_ordersMany 0 6 (qi_iret r hf))))))))))))))))))) lv st h
theorem sn_R_order_70 {Ph : Nat → State → Prop} {h0 hf : hc_H} {r : Option Value} : qk Ph M_R_order h0 hf r 70 (vc_R_order_70 r hf (cx Ph M_R_order h0 hf r)) := (qs_aload_n d_R_order_70 rfl (qs_invV hc_Ph_tt (fun _ _ _ => trivial) d_R_order_71 zz_R_note wk_956 ⟨wk_958, wk_29⟩ ⟨_, rfl, rfl⟩ ⟨by decide, by decide⟩ (qs_aload_n d_R_order_74 rfl (qs_get d_R_order_75 ff_R_13 (qs_bipush d_R_order_78 (by decide) (qs_iload_n d_R_order_80 rfl (qs_iadd d_R_order_81 (qs_dup2 d_R_order_82 (qs_iaload d_R_order_83 (qs_iconst d_R_order_84 (by decide) (qs_iload_n d_R_order_85 rfl (qs_ishl d_R_order_86 (qs_ixor d_R_order_87 (qs_iastore d_R_order_88 (qs_aload_n d_R_order_89 rfl (qs_invV hc_Ph_tt (fun _ _ _ => trivial) d_R_order_90 zz_R_takesOff wk_960 ⟨wk_962, wk_30⟩ ⟨_, rfl, rfl⟩ ⟨by decide, by decide⟩ (qs_aload_n d_R_order_93 rfl (qs_invV hc_Ph_tt (fun _ _ _ => trivial) d_R_order_94 zz_R_ordersMany wk_1001 ⟨wk_1003, wk_38⟩ ⟨_, rfl, rfl⟩ ⟨by decide, by decide⟩ (qs_iret d_R_order_97 rfl)))))))))))))))))))
def vc_R_order_67 (r : Option Value) (hf : hc_H) (J : Nat → hc_K) (lv : hc_L) (st : List Value) (h : hc_H) : Prop := (qi_push (-2) (qi_iret r hf)) lv st h
theorem sn_R_order_67 {Ph : Nat → State → Prop} {h0 hf : hc_H} {r : Option Value} : qk Ph M_R_order h0 hf r 67 (vc_R_order_67 r hf (cx Ph M_R_order h0 hf r)) := (qs_bipush d_R_order_67 (by decide) (qs_iret d_R_order_69 rfl))
def vc_R_order_44 (r : Option Value) (hf : hc_H) (J : Nat → hc_K) (lv : hc_L) (st : List Value) (h : hc_H) : Prop := (qi_icmp_eq (vc_R_order_67 r hf J) (qi_iload 3 (qi_push (nI 1) (qi_icmp_ne (vc_R_order_70 r hf J) (qi_aload 0 (qi_get 6 2 (qi_iload 1 (qi_invS hc_tt M_R_allBehind 2 (qi_iload 2 (qi_invS hc_tt M_R_has 2 (qi_if_eq (vc_R_order_70 r hf J) (vc_R_order_67 r hf J)))))))))))) lv st h
theorem sn_R_order_44 {Ph : Nat → State → Prop} {h0 hf : hc_H} {r : Option Value} : qk Ph M_R_order h0 hf r 44 (vc_R_order_44 r hf (cx Ph M_R_order h0 hf r)) := (qs_icmp_eq (tgt := 67) d_R_order_44 (by decide) sn_R_order_67 (qs_iload_n d_R_order_47 rfl (qs_iconst d_R_order_48 (by decide) (qs_icmp_ne (tgt := 70) d_R_order_49 (by decide) sn_R_order_70 (qs_aload_n d_R_order_52 rfl (qs_get d_R_order_53 ff_R_13 (qs_iload_n d_R_order_56 rfl (qs_invS hc_Ph_tt (fun _ _ _ => trivial) d_R_order_57 zz_R_allBehind wk_935 wk_936 ⟨by decide, by decide⟩ (qs_iload_n d_R_order_60 rfl (qs_invS hc_Ph_tt (fun _ _ _ => trivial) d_R_order_61 zz_R_has wk_932 wk_933 ⟨by decide, by decide⟩ (qs_if_eq (tgt := 70) d_R_order_64 (by decide) sn_R_order_70 sn_R_order_67)))))))))))
def vc_R_order_43 (r : Option Value) (hf : hc_H) (J : Nat → hc_K) (lv : hc_L) (st : List Value) (h : hc_H) : Prop := (qi_push (nI 0) (vc_R_order_44 r hf J)) lv st h
theorem sn_R_order_43 {Ph : Nat → State → Prop} {h0 hf : hc_H} {r : Option Value} : qk Ph M_R_order h0 hf r 43 (vc_R_order_43 r hf (cx Ph M_R_order h0 hf r)) := (qs_iconst d_R_order_43 (by decide) sn_R_order_44)
def vc_R_order_21 (r : Option Value) (hf : hc_H) (J : Nat → hc_K) (lv : hc_L) (st : List Value) (h : hc_H) : Prop := (qi_aload 0 (qi_get 6 2 (qi_push (nI 14) (qi_iload 2 (qi_iadd (qi_iald 0 (qi_iload 1 (qi_invS hc_tt M_R_has 2 (qi_iload 3 (qi_push (nI 1) (qi_icmp_ne (vc_R_order_43 r hf J) (qi_push (nI 1) (vc_R_order_44 r hf J))))))))))))) lv st h
theorem sn_R_order_21 {Ph : Nat → State → Prop} {h0 hf : hc_H} {r : Option Value} : qk Ph M_R_order h0 hf r 21 (vc_R_order_21 r hf (cx Ph M_R_order h0 hf r)) := (qs_aload_n d_R_order_21 rfl (qs_get d_R_order_22 ff_R_13 (qs_bipush d_R_order_25 (by decide) (qs_iload_n d_R_order_27 rfl (qs_iadd d_R_order_28 (qs_iaload d_R_order_29 (qs_iload_n d_R_order_30 rfl (qs_invS hc_Ph_tt (fun _ _ _ => trivial) d_R_order_31 zz_R_has wk_932 wk_933 ⟨by decide, by decide⟩ (qs_iload_n d_R_order_34 rfl (qs_iconst d_R_order_35 (by decide) (qs_icmp_ne (tgt := 43) d_R_order_36 (by decide) sn_R_order_43 (qs_iconst d_R_order_39 (by decide) (qs_goto (tgt := 44) d_R_order_40 (by decide) sn_R_order_44)))))))))))))
def vc_R_order_19 (r : Option Value) (hf : hc_H) (J : Nat → hc_K) (lv : hc_L) (st : List Value) (h : hc_H) : Prop := (qi_push (-1) (qi_iret r hf)) lv st h
theorem sn_R_order_19 {Ph : Nat → State → Prop} {h0 hf : hc_H} {r : Option Value} : qk Ph M_R_order h0 hf r 19 (vc_R_order_19 r hf (cx Ph M_R_order h0 hf r)) := (qs_iconst d_R_order_19 (by decide) (qs_iret d_R_order_20 rfl))
def vc_R_order_0 (r : Option Value) (hf : hc_H) (J : Nat → hc_K) (lv : hc_L) (st : List Value) (h : hc_H) : Prop := (qi_aload 0 (qi_iload 1 (qi_iload 2 (qi_invV hc_tt M_R_isPair 2 6 (qi_if_eq (vc_R_order_19 r hf J) (qi_iload 3 (qi_i2l (qi_pushl (lN 0) (qi_pushl (lN 1) (qi_invS hc_tt M_R_in 3 (qi_if_ne (vc_R_order_21 r hf J) (vc_R_order_19 r hf J)))))))))))) lv st h
theorem sn_R_order_0 {Ph : Nat → State → Prop} {h0 hf : hc_H} {r : Option Value} : qk Ph M_R_order h0 hf r 0 (vc_R_order_0 r hf (cx Ph M_R_order h0 hf r)) := (qs_aload_n d_R_order_0 rfl (qs_iload_n d_R_order_1 rfl (qs_iload_n d_R_order_2 rfl (qs_invV hc_Ph_tt (fun _ _ _ => trivial) d_R_order_3 zz_R_isPair wk_997 ⟨wk_999, wk_37⟩ ⟨_, rfl, rfl⟩ ⟨by decide, by decide⟩ (qs_if_eq (tgt := 19) d_R_order_6 (by decide) sn_R_order_19 (qs_iload_n d_R_order_9 rfl (qs_i2l d_R_order_10 (qs_lconst d_R_order_11 rfl (qs_lconst d_R_order_12 rfl (qs_invS hc_Ph_tt (fun _ _ _ => trivial) d_R_order_13 zz_R_in wk_903 wk_904 ⟨by decide, by decide⟩ (qs_if_ne (tgt := 21) d_R_order_16 (by decide) sn_R_order_21 sn_R_order_19)))))))))))
/-! BalancedLineModel.zone(III)I -/
abbrev M_R_zone : hc_M := (⟨"BalancedLineModel", "zone", "(III)I"⟩, prog_8_method_25_code, 5, (some .int), 4, 89)
theorem d_R_zone_0 : decode (mC M_R_zone) 0 = .ok (.aload_n 0, 1) := by decide +kernel
theorem d_R_zone_1 : decode (mC M_R_zone) 1 = .ok (.iload_n 1, 1) := by decide +kernel
theorem d_R_zone_2 : decode (mC M_R_zone) 2 = .ok (.iload_n 2, 1) := by decide +kernel
theorem d_R_zone_3 : decode (mC M_R_zone) 3 = .ok (.invokevirtual 121, 3) := by decide +kernel
theorem d_R_zone_6 : decode (mC M_R_zone) 6 = .ok (.ifCond .eq 15, 3) := by decide +kernel
theorem d_R_zone_9 : decode (mC M_R_zone) 9 = .ok (.iload_n 3, 1) := by decide +kernel
theorem d_R_zone_10 : decode (mC M_R_zone) 10 = .ok (.i2l, 1) := by decide +kernel
theorem d_R_zone_11 : decode (mC M_R_zone) 11 = .ok (.lconst 0, 1) := by decide +kernel
theorem d_R_zone_12 : decode (mC M_R_zone) 12 = .ok (.ldc2_w 127, 3) := by decide +kernel
theorem d_R_zone_15 : decode (mC M_R_zone) 15 = .ok (.invokestatic 56, 3) := by decide +kernel
theorem d_R_zone_18 : decode (mC M_R_zone) 18 = .ok (.ifCond .ne 5, 3) := by decide +kernel
theorem d_R_zone_21 : decode (mC M_R_zone) 21 = .ok (.iconst (-1), 1) := by decide +kernel
theorem d_R_zone_22 : decode (mC M_R_zone) 22 = .ok (.ireturn, 1) := by decide +kernel
theorem d_R_zone_23 : decode (mC M_R_zone) 23 = .ok (.aload_n 0, 1) := by decide +kernel
theorem d_R_zone_24 : decode (mC M_R_zone) 24 = .ok (.getfield 13, 3) := by decide +kernel
theorem d_R_zone_27 : decode (mC M_R_zone) 27 = .ok (.bipush 26, 2) := by decide +kernel
theorem d_R_zone_29 : decode (mC M_R_zone) 29 = .ok (.iload_n 1, 1) := by decide +kernel
theorem d_R_zone_30 : decode (mC M_R_zone) 30 = .ok (.iadd, 1) := by decide +kernel
theorem d_R_zone_31 : decode (mC M_R_zone) 31 = .ok (.iaload, 1) := by decide +kernel
theorem d_R_zone_32 : decode (mC M_R_zone) 32 = .ok (.iload_n 2, 1) := by decide +kernel
theorem d_R_zone_33 : decode (mC M_R_zone) 33 = .ok (.invokestatic 48, 3) := by decide +kernel
theorem d_R_zone_36 : decode (mC M_R_zone) 36 = .ok (.ifCond .eq 7, 3) := by decide +kernel
theorem d_R_zone_39 : decode (mC M_R_zone) 39 = .ok (.iconst 1, 1) := by decide +kernel
theorem d_R_zone_40 : decode (mC M_R_zone) 40 = .ok (.goto 24, 3) := by decide +kernel
theorem d_R_zone_43 : decode (mC M_R_zone) 43 = .ok (.aload_n 0, 1) := by decide +kernel
theorem d_R_zone_44 : decode (mC M_R_zone) 44 = .ok (.getfield 13, 3) := by decide +kernel
theorem d_R_zone_47 : decode (mC M_R_zone) 47 = .ok (.bipush 38, 2) := by decide +kernel
theorem d_R_zone_49 : decode (mC M_R_zone) 49 = .ok (.iload_n 1, 1) := by decide +kernel
theorem d_R_zone_50 : decode (mC M_R_zone) 50 = .ok (.iadd, 1) := by decide +kernel
theorem d_R_zone_51 : decode (mC M_R_zone) 51 = .ok (.iaload, 1) := by decide +kernel
theorem d_R_zone_52 : decode (mC M_R_zone) 52 = .ok (.iload_n 2, 1) := by decide +kernel
theorem d_R_zone_53 : decode (mC M_R_zone) 53 = .ok (.invokestatic 48, 3) := by decide +kernel
theorem d_R_zone_56 : decode (mC M_R_zone) 56 = .ok (.ifCond .eq 7, 3) := by decide +kernel
theorem d_R_zone_59 : decode (mC M_R_zone) 59 = .ok (.iconst 2, 1) := by decide +kernel
theorem d_R_zone_60 : decode (mC M_R_zone) 60 = .ok (.goto 4, 3) := by decide +kernel
theorem d_R_zone_63 : decode (mC M_R_zone) 63 = .ok (.iconst 0, 1) := by decide +kernel
theorem d_R_zone_64 : decode (mC M_R_zone) 64 = .ok (.istore 4, 2) := by decide +kernel
theorem d_R_zone_66 : decode (mC M_R_zone) 66 = .ok (.iload 4, 2) := by decide +kernel
theorem d_R_zone_68 : decode (mC M_R_zone) 68 = .ok (.iload_n 3, 1) := by decide +kernel
theorem d_R_zone_69 : decode (mC M_R_zone) 69 = .ok (.if_icmp .ne 6, 3) := by decide +kernel
theorem d_R_zone_72 : decode (mC M_R_zone) 72 = .ok (.bipush (-2), 2) := by decide +kernel
theorem d_R_zone_74 : decode (mC M_R_zone) 74 = .ok (.ireturn, 1) := by decide +kernel
theorem d_R_zone_75 : decode (mC M_R_zone) 75 = .ok (.aload_n 0, 1) := by decide +kernel
theorem d_R_zone_76 : decode (mC M_R_zone) 76 = .ok (.invokevirtual 105, 3) := by decide +kernel
theorem d_R_zone_79 : decode (mC M_R_zone) 79 = .ok (.aload_n 0, 1) := by decide +kernel
theorem d_R_zone_80 : decode (mC M_R_zone) 80 = .ok (.getfield 13, 3) := by decide +kernel
theorem d_R_zone_83 : decode (mC M_R_zone) 83 = .ok (.bipush 26, 2) := by decide +kernel
theorem d_R_zone_85 : decode (mC M_R_zone) 85 = .ok (.iload_n 1, 1) := by decide +kernel
theorem d_R_zone_86 : decode (mC M_R_zone) 86 = .ok (.iload_n 2, 1) := by decide +kernel
theorem d_R_zone_87 : decode (mC M_R_zone) 87 = .ok (.iload_n 3, 1) := by decide +kernel
theorem d_R_zone_88 : decode (mC M_R_zone) 88 = .ok (.iconst 1, 1) := by decide +kernel
theorem d_R_zone_89 : decode (mC M_R_zone) 89 = .ok (.if_icmp .ne 7, 3) := by decide +kernel
theorem d_R_zone_92 : decode (mC M_R_zone) 92 = .ok (.iconst 1, 1) := by decide +kernel
theorem d_R_zone_93 : decode (mC M_R_zone) 93 = .ok (.goto 4, 3) := by decide +kernel
theorem d_R_zone_96 : decode (mC M_R_zone) 96 = .ok (.iconst 0, 1) := by decide +kernel
theorem d_R_zone_97 : decode (mC M_R_zone) 97 = .ok (.invokestatic 44, 3) := by decide +kernel
theorem d_R_zone_100 : decode (mC M_R_zone) 100 = .ok (.aload_n 0, 1) := by decide +kernel
theorem d_R_zone_101 : decode (mC M_R_zone) 101 = .ok (.getfield 13, 3) := by decide +kernel
theorem d_R_zone_104 : decode (mC M_R_zone) 104 = .ok (.bipush 38, 2) := by decide +kernel
theorem d_R_zone_106 : decode (mC M_R_zone) 106 = .ok (.iload_n 1, 1) := by decide +kernel
theorem d_R_zone_107 : decode (mC M_R_zone) 107 = .ok (.iload_n 2, 1) := by decide +kernel
theorem d_R_zone_108 : decode (mC M_R_zone) 108 = .ok (.iload_n 3, 1) := by decide +kernel
theorem d_R_zone_109 : decode (mC M_R_zone) 109 = .ok (.iconst 2, 1) := by decide +kernel
theorem d_R_zone_110 : decode (mC M_R_zone) 110 = .ok (.if_icmp .ne 7, 3) := by decide +kernel
theorem d_R_zone_113 : decode (mC M_R_zone) 113 = .ok (.iconst 1, 1) := by decide +kernel
theorem d_R_zone_114 : decode (mC M_R_zone) 114 = .ok (.goto 4, 3) := by decide +kernel
theorem d_R_zone_117 : decode (mC M_R_zone) 117 = .ok (.iconst 0, 1) := by decide +kernel
theorem d_R_zone_118 : decode (mC M_R_zone) 118 = .ok (.invokestatic 44, 3) := by decide +kernel
theorem d_R_zone_121 : decode (mC M_R_zone) 121 = .ok (.aload_n 0, 1) := by decide +kernel
theorem d_R_zone_122 : decode (mC M_R_zone) 122 = .ok (.invokevirtual 108, 3) := by decide +kernel
theorem d_R_zone_125 : decode (mC M_R_zone) 125 = .ok (.iload 4, 2) := by decide +kernel
theorem d_R_zone_127 : decode (mC M_R_zone) 127 = .ok (.ireturn, 1) := by decide +kernel
def vc_R_zone_118 (r : Option Value) (hf : hc_H) (J : Nat → hc_K) (lv : hc_L) (st : List Value) (h : hc_H) : Prop := (qi_invS hc_tt M_R_pairs 5 (qi_aload 0 (qi_invV hc_tt M_R_takesOff 0 6 (qi_iload 4 (qi_iret r hf))))) lv st h
theorem sn_R_zone_118 {Ph : Nat → State → Prop} {h0 hf : hc_H} {r : Option Value} : qk Ph M_R_zone h0 hf r 118 (vc_R_zone_118 r hf (cx Ph M_R_zone h0 hf r)) := (qs_invS hc_Ph_tt (fun _ _ _ => trivial) d_R_zone_118 zz_R_pairs wk_848 wk_849 ⟨by decide, by decide⟩ (qs_aload_n d_R_zone_121 rfl (qs_invV hc_Ph_tt (fun _ _ _ => trivial) d_R_zone_122 zz_R_takesOff wk_960 ⟨wk_962, wk_30⟩ ⟨_, rfl, rfl⟩ ⟨by decide, by decide⟩ (qs_iload d_R_zone_125 (qs_iret d_R_zone_127 rfl)))))
def vc_R_zone_117 (r : Option Value) (hf : hc_H) (J : Nat → hc_K) (lv : hc_L) (st : List Value) (h : hc_H) : Prop := (qi_push (nI 0) (vc_R_zone_118 r hf J)) lv st h
theorem sn_R_zone_117 {Ph : Nat → State → Prop} {h0 hf : hc_H} {r : Option Value} : qk Ph M_R_zone h0 hf r 117 (vc_R_zone_117 r hf (cx Ph M_R_zone h0 hf r)) := (qs_iconst d_R_zone_117 (by decide) sn_R_zone_118)
def vc_R_zone_97 (r : Option Value) (hf : hc_H) (J : Nat → hc_K) (lv : hc_L) (st : List Value) (h : hc_H) : Prop := (qi_invS hc_tt M_R_pairs 5 (qi_aload 0 (qi_get 6 2 (qi_push (nI 38) (qi_iload 1 (qi_iload 2 (qi_iload 3 (qi_push (nI 2) (qi_icmp_ne (vc_R_zone_117 r hf J) (qi_push (nI 1) (vc_R_zone_118 r hf J))))))))))) lv st h
theorem sn_R_zone_97 {Ph : Nat → State → Prop} {h0 hf : hc_H} {r : Option Value} : qk Ph M_R_zone h0 hf r 97 (vc_R_zone_97 r hf (cx Ph M_R_zone h0 hf r)) := (qs_invS hc_Ph_tt (fun _ _ _ => trivial) d_R_zone_97 zz_R_pairs wk_848 wk_849 ⟨by decide, by decide⟩ (qs_aload_n d_R_zone_100 rfl (qs_get d_R_zone_101 ff_R_13 (qs_bipush d_R_zone_104 (by decide) (qs_iload_n d_R_zone_106 rfl (qs_iload_n d_R_zone_107 rfl (qs_iload_n d_R_zone_108 rfl (qs_iconst d_R_zone_109 (by decide) (qs_icmp_ne (tgt := 117) d_R_zone_110 (by decide) sn_R_zone_117 (qs_iconst d_R_zone_113 (by decide) (qs_goto (tgt := 118) d_R_zone_114 (by decide) sn_R_zone_118)))))))))))
def vc_R_zone_96 (r : Option Value) (hf : hc_H) (J : Nat → hc_K) (lv : hc_L) (st : List Value) (h : hc_H) : Prop := (qi_push (nI 0) (vc_R_zone_97 r hf J)) lv st h
theorem sn_R_zone_96 {Ph : Nat → State → Prop} {h0 hf : hc_H} {r : Option Value} : qk Ph M_R_zone h0 hf r 96 (vc_R_zone_96 r hf (cx Ph M_R_zone h0 hf r)) := (qs_iconst d_R_zone_96 (by decide) sn_R_zone_97)
def vc_R_zone_75 (r : Option Value) (hf : hc_H) (J : Nat → hc_K) (lv : hc_L) (st : List Value) (h : hc_H) : Prop := (qi_aload 0 (qi_invV hc_tt M_R_note 0 6 (qi_aload 0 (qi_get 6 2 (qi_push (nI 26) (qi_iload 1 (qi_iload 2 (qi_iload 3 (qi_push (nI 1) (qi_icmp_ne (vc_R_zone_96 r hf J) (qi_push (nI 1) (vc_R_zone_97 r hf J)))))))))))) lv st h
theorem sn_R_zone_75 {Ph : Nat → State → Prop} {h0 hf : hc_H} {r : Option Value} : qk Ph M_R_zone h0 hf r 75 (vc_R_zone_75 r hf (cx Ph M_R_zone h0 hf r)) := (qs_aload_n d_R_zone_75 rfl (qs_invV hc_Ph_tt (fun _ _ _ => trivial) d_R_zone_76 zz_R_note wk_956 ⟨wk_958, wk_29⟩ ⟨_, rfl, rfl⟩ ⟨by decide, by decide⟩ (qs_aload_n d_R_zone_79 rfl (qs_get d_R_zone_80 ff_R_13 (qs_bipush d_R_zone_83 (by decide) (qs_iload_n d_R_zone_85 rfl (qs_iload_n d_R_zone_86 rfl (qs_iload_n d_R_zone_87 rfl (qs_iconst d_R_zone_88 (by decide) (qs_icmp_ne (tgt := 96) d_R_zone_89 (by decide) sn_R_zone_96 (qs_iconst d_R_zone_92 (by decide) (qs_goto (tgt := 97) d_R_zone_93 (by decide) sn_R_zone_97))))))))))))
def vc_R_zone_64 (r : Option Value) (hf : hc_H) (J : Nat → hc_K) (lv : hc_L) (st : List Value) (h : hc_H) : Prop := (qi_istore 4 (qi_iload 4 (qi_iload 3 (qi_icmp_ne (vc_R_zone_75 r hf J) (qi_push (-2) (qi_iret r hf)))))) lv st h
theorem sn_R_zone_64 {Ph : Nat → State → Prop} {h0 hf : hc_H} {r : Option Value} : qk Ph M_R_zone h0 hf r 64 (vc_R_zone_64 r hf (cx Ph M_R_zone h0 hf r)) := (qs_istore d_R_zone_64 (by decide) (qs_iload d_R_zone_66 (qs_iload_n d_R_zone_68 rfl (qs_icmp_ne (tgt := 75) d_R_zone_69 (by decide) sn_R_zone_75 (qs_bipush d_R_zone_72 (by decide) (qs_iret d_R_zone_74 rfl))))))
def vc_R_zone_63 (r : Option Value) (hf : hc_H) (J : Nat → hc_K) (lv : hc_L) (st : List Value) (h : hc_H) : Prop := (qi_push (nI 0) (vc_R_zone_64 r hf J)) lv st h
theorem sn_R_zone_63 {Ph : Nat → State → Prop} {h0 hf : hc_H} {r : Option Value} : qk Ph M_R_zone h0 hf r 63 (vc_R_zone_63 r hf (cx Ph M_R_zone h0 hf r)) := (qs_iconst d_R_zone_63 (by decide) sn_R_zone_64)
def vc_R_zone_43 (r : Option Value) (hf : hc_H) (J : Nat → hc_K) (lv : hc_L) (st : List Value) (h : hc_H) : Prop := (qi_aload 0 (qi_get 6 2 (qi_push (nI 38) (qi_iload 1 (qi_iadd (qi_iald 0 (qi_iload 2 (qi_invS hc_tt M_R_has 2 (qi_if_eq (vc_R_zone_63 r hf J) (qi_push (nI 2) (vc_R_zone_64 r hf J))))))))))) lv st h
theorem sn_R_zone_43 {Ph : Nat → State → Prop} {h0 hf : hc_H} {r : Option Value} : qk Ph M_R_zone h0 hf r 43 (vc_R_zone_43 r hf (cx Ph M_R_zone h0 hf r)) := (qs_aload_n d_R_zone_43 rfl (qs_get d_R_zone_44 ff_R_13 (qs_bipush d_R_zone_47 (by decide) (qs_iload_n d_R_zone_49 rfl (qs_iadd d_R_zone_50 (qs_iaload d_R_zone_51 (qs_iload_n d_R_zone_52 rfl (qs_invS hc_Ph_tt (fun _ _ _ => trivial) d_R_zone_53 zz_R_has wk_932 wk_933 ⟨by decide, by decide⟩ (qs_if_eq (tgt := 63) d_R_zone_56 (by decide) sn_R_zone_63 (qs_iconst d_R_zone_59 (by decide) (qs_goto (tgt := 64) d_R_zone_60 (by decide) sn_R_zone_64)))))))))))
def vc_R_zone_23 (r : Option Value) (hf : hc_H) (J : Nat → hc_K) (lv : hc_L) (st : List Value) (h : hc_H) : Prop := (qi_aload 0 (qi_get 6 2 (qi_push (nI 26) (qi_iload 1 (qi_iadd (qi_iald 0 (qi_iload 2 (qi_invS hc_tt M_R_has 2 (qi_if_eq (vc_R_zone_43 r hf J) (qi_push (nI 1) (vc_R_zone_64 r hf J))))))))))) lv st h
theorem sn_R_zone_23 {Ph : Nat → State → Prop} {h0 hf : hc_H} {r : Option Value} : qk Ph M_R_zone h0 hf r 23 (vc_R_zone_23 r hf (cx Ph M_R_zone h0 hf r)) := (qs_aload_n d_R_zone_23 rfl (qs_get d_R_zone_24 ff_R_13 (qs_bipush d_R_zone_27 (by decide) (qs_iload_n d_R_zone_29 rfl (qs_iadd d_R_zone_30 (qs_iaload d_R_zone_31 (qs_iload_n d_R_zone_32 rfl (qs_invS hc_Ph_tt (fun _ _ _ => trivial) d_R_zone_33 zz_R_has wk_932 wk_933 ⟨by decide, by decide⟩ (qs_if_eq (tgt := 43) d_R_zone_36 (by decide) sn_R_zone_43 (qs_iconst d_R_zone_39 (by decide) (qs_goto (tgt := 64) d_R_zone_40 (by decide) sn_R_zone_64)))))))))))
def vc_R_zone_21 (r : Option Value) (hf : hc_H) (J : Nat → hc_K) (lv : hc_L) (st : List Value) (h : hc_H) : Prop := (qi_push (-1) (qi_iret r hf)) lv st h
theorem sn_R_zone_21 {Ph : Nat → State → Prop} {h0 hf : hc_H} {r : Option Value} : qk Ph M_R_zone h0 hf r 21 (vc_R_zone_21 r hf (cx Ph M_R_zone h0 hf r)) := (qs_iconst d_R_zone_21 (by decide) (qs_iret d_R_zone_22 rfl))
def vc_R_zone_0 (r : Option Value) (hf : hc_H) (J : Nat → hc_K) (lv : hc_L) (st : List Value) (h : hc_H) : Prop := (qi_aload 0 (qi_iload 1 (qi_iload 2 (qi_invV hc_tt M_R_isPair 2 6 (qi_if_eq (vc_R_zone_21 r hf J) (qi_iload 3 (qi_i2l (qi_pushl (lN 0) (qi_pushl (lN 2) (qi_invS hc_tt M_R_in 3 (qi_if_ne (vc_R_zone_23 r hf J) (vc_R_zone_21 r hf J)))))))))))) lv st h
theorem sn_R_zone_0 {Ph : Nat → State → Prop} {h0 hf : hc_H} {r : Option Value} : qk Ph M_R_zone h0 hf r 0 (vc_R_zone_0 r hf (cx Ph M_R_zone h0 hf r)) := (qs_aload_n d_R_zone_0 rfl (qs_iload_n d_R_zone_1 rfl (qs_iload_n d_R_zone_2 rfl (qs_invV hc_Ph_tt (fun _ _ _ => trivial) d_R_zone_3 zz_R_isPair wk_997 ⟨wk_999, wk_37⟩ ⟨_, rfl, rfl⟩ ⟨by decide, by decide⟩ (qs_if_eq (tgt := 21) d_R_zone_6 (by decide) sn_R_zone_21 (qs_iload_n d_R_zone_9 rfl (qs_i2l d_R_zone_10 (qs_lconst d_R_zone_11 rfl (qs_ldc2 d_R_zone_12 (by first | exact wk_1012 | exact (show _ ∈ lw_g from wk_1012)) (qs_invS hc_Ph_tt (fun _ _ _ => trivial) d_R_zone_15 zz_R_in wk_903 wk_904 ⟨by decide, by decide⟩ (qs_if_ne (tgt := 23) d_R_zone_18 (by decide) sn_R_zone_23 sn_R_zone_21)))))))))))
/-! BalancedLineModel.farBehind(I)I -/
abbrev M_R_farBehind : hc_M := (⟨"BalancedLineModel", "farBehind", "(I)I"⟩, prog_8_method_27_code, 4, (some .int), 2, 45)
theorem d_R_farBehind_0 : decode (mC M_R_farBehind) 0 = .ok (.iconst 0, 1) := by decide +kernel
theorem d_R_farBehind_1 : decode (mC M_R_farBehind) 1 = .ok (.istore_n 2, 1) := by decide +kernel
theorem d_R_farBehind_2 : decode (mC M_R_farBehind) 2 = .ok (.iconst 0, 1) := by decide +kernel
theorem d_R_farBehind_3 : decode (mC M_R_farBehind) 3 = .ok (.istore_n 3, 1) := by decide +kernel
theorem d_R_farBehind_4 : decode (mC M_R_farBehind) 4 = .ok (.iload_n 3, 1) := by decide +kernel
theorem d_R_farBehind_5 : decode (mC M_R_farBehind) 5 = .ok (.aload_n 0, 1) := by decide +kernel
theorem d_R_farBehind_6 : decode (mC M_R_farBehind) 6 = .ok (.getfield 13, 3) := by decide +kernel
theorem d_R_farBehind_9 : decode (mC M_R_farBehind) 9 = .ok (.iconst 0, 1) := by decide +kernel
theorem d_R_farBehind_10 : decode (mC M_R_farBehind) 10 = .ok (.iaload, 1) := by decide +kernel
theorem d_R_farBehind_11 : decode (mC M_R_farBehind) 11 = .ok (.if_icmp .ge 34, 3) := by decide +kernel
theorem d_R_farBehind_14 : decode (mC M_R_farBehind) 14 = .ok (.iload_n 2, 1) := by decide +kernel
theorem d_R_farBehind_15 : decode (mC M_R_farBehind) 15 = .ok (.aload_n 0, 1) := by decide +kernel
theorem d_R_farBehind_16 : decode (mC M_R_farBehind) 16 = .ok (.getfield 13, 3) := by decide +kernel
theorem d_R_farBehind_19 : decode (mC M_R_farBehind) 19 = .ok (.iload_n 3, 1) := by decide +kernel
theorem d_R_farBehind_20 : decode (mC M_R_farBehind) 20 = .ok (.invokestatic 75, 3) := by decide +kernel
theorem d_R_farBehind_23 : decode (mC M_R_farBehind) 23 = .ok (.iload_n 1, 1) := by decide +kernel
theorem d_R_farBehind_24 : decode (mC M_R_farBehind) 24 = .ok (.invokestatic 48, 3) := by decide +kernel
theorem d_R_farBehind_27 : decode (mC M_R_farBehind) 27 = .ok (.ifCond .eq 9, 3) := by decide +kernel
theorem d_R_farBehind_30 : decode (mC M_R_farBehind) 30 = .ok (.iconst 1, 1) := by decide +kernel
theorem d_R_farBehind_31 : decode (mC M_R_farBehind) 31 = .ok (.iload_n 3, 1) := by decide +kernel
theorem d_R_farBehind_32 : decode (mC M_R_farBehind) 32 = .ok (.ishl, 1) := by decide +kernel
theorem d_R_farBehind_33 : decode (mC M_R_farBehind) 33 = .ok (.goto 4, 3) := by decide +kernel
theorem d_R_farBehind_36 : decode (mC M_R_farBehind) 36 = .ok (.iconst 0, 1) := by decide +kernel
theorem d_R_farBehind_37 : decode (mC M_R_farBehind) 37 = .ok (.ior, 1) := by decide +kernel
theorem d_R_farBehind_38 : decode (mC M_R_farBehind) 38 = .ok (.istore_n 2, 1) := by decide +kernel
theorem d_R_farBehind_39 : decode (mC M_R_farBehind) 39 = .ok (.iinc 3 1, 3) := by decide +kernel
theorem d_R_farBehind_42 : decode (mC M_R_farBehind) 42 = .ok (.goto (-38), 3) := by decide +kernel
theorem d_R_farBehind_45 : decode (mC M_R_farBehind) 45 = .ok (.iload_n 2, 1) := by decide +kernel
theorem d_R_farBehind_46 : decode (mC M_R_farBehind) 46 = .ok (.ireturn, 1) := by decide +kernel
def vc_R_farBehind_45 (r : Option Value) (hf : hc_H) (J : Nat → hc_K) (lv : hc_L) (st : List Value) (h : hc_H) : Prop := (qi_iload 2 (qi_iret r hf)) lv st h
theorem sn_R_farBehind_45 {Ph : Nat → State → Prop} {h0 hf : hc_H} {r : Option Value} : qk Ph M_R_farBehind h0 hf r 45 (vc_R_farBehind_45 r hf (cx Ph M_R_farBehind h0 hf r)) := (qs_iload_n d_R_farBehind_45 rfl (qs_iret d_R_farBehind_46 rfl))
def vc_R_farBehind_37 (r : Option Value) (hf : hc_H) (J : Nat → hc_K) (lv : hc_L) (st : List Value) (h : hc_H) : Prop := (qi_ior (qi_istore 2 (qi_iinc 3 (nI 1) (J 4)))) lv st h
theorem sn_R_farBehind_37 {Ph : Nat → State → Prop} {h0 hf : hc_H} {r : Option Value} : qk Ph M_R_farBehind h0 hf r 37 (vc_R_farBehind_37 r hf (cx Ph M_R_farBehind h0 hf r)) := (qs_ior d_R_farBehind_37 (qs_istore_n d_R_farBehind_38 rfl (by decide) (qs_iinc d_R_farBehind_39 (by decide) (by decide) (qs_goto (tgt := 4) d_R_farBehind_42 (by decide) (fun _ _ _ h9 => h9)))))
def vc_R_farBehind_36 (r : Option Value) (hf : hc_H) (J : Nat → hc_K) (lv : hc_L) (st : List Value) (h : hc_H) : Prop := (qi_push (nI 0) (vc_R_farBehind_37 r hf J)) lv st h
theorem sn_R_farBehind_36 {Ph : Nat → State → Prop} {h0 hf : hc_H} {r : Option Value} : qk Ph M_R_farBehind h0 hf r 36 (vc_R_farBehind_36 r hf (cx Ph M_R_farBehind h0 hf r)) := (qs_iconst d_R_farBehind_36 (by decide) sn_R_farBehind_37)
def vc_R_farBehind_4 (r : Option Value) (hf : hc_H) (J : Nat → hc_K) (lv : hc_L) (st : List Value) (h : hc_H) : Prop := (qi_iload 3 (qi_aload 0 (qi_get 6 2 (qi_push (nI 0) (qi_iald 0 (qi_icmp_ge (vc_R_farBehind_45 r hf J) (qi_iload 2 (qi_aload 0 (qi_get 6 2 (qi_iload 3 (qi_invS hc_tt M_R_allBehind 2 (qi_iload 1 (qi_invS hc_tt M_R_has 2 (qi_if_eq (vc_R_farBehind_36 r hf J) (qi_push (nI 1) (qi_iload 3 (qi_ishl (vc_R_farBehind_37 r hf J)))))))))))))))))) lv st h
theorem sn_R_farBehind_4 {Ph : Nat → State → Prop} {h0 hf : hc_H} {r : Option Value} : qk Ph M_R_farBehind h0 hf r 4 (vc_R_farBehind_4 r hf (cx Ph M_R_farBehind h0 hf r)) := (qs_iload_n d_R_farBehind_4 rfl (qs_aload_n d_R_farBehind_5 rfl (qs_get d_R_farBehind_6 ff_R_13 (qs_iconst d_R_farBehind_9 (by decide) (qs_iaload d_R_farBehind_10 (qs_icmp_ge (tgt := 45) d_R_farBehind_11 (by decide) sn_R_farBehind_45 (qs_iload_n d_R_farBehind_14 rfl (qs_aload_n d_R_farBehind_15 rfl (qs_get d_R_farBehind_16 ff_R_13 (qs_iload_n d_R_farBehind_19 rfl (qs_invS hc_Ph_tt (fun _ _ _ => trivial) d_R_farBehind_20 zz_R_allBehind wk_935 wk_936 ⟨by decide, by decide⟩ (qs_iload_n d_R_farBehind_23 rfl (qs_invS hc_Ph_tt (fun _ _ _ => trivial) d_R_farBehind_24 zz_R_has wk_932 wk_933 ⟨by decide, by decide⟩ (qs_if_eq (tgt := 36) d_R_farBehind_27 (by decide) sn_R_farBehind_36 (qs_iconst d_R_farBehind_30 (by decide) (qs_iload_n d_R_farBehind_31 rfl (qs_ishl d_R_farBehind_32 (qs_goto (tgt := 37) d_R_farBehind_33 (by decide) sn_R_farBehind_37))))))))))))))))))
def vc_R_farBehind_0 (r : Option Value) (hf : hc_H) (J : Nat → hc_K) (lv : hc_L) (st : List Value) (h : hc_H) : Prop := (qi_push (nI 0) (qi_istore 2 (qi_push (nI 0) (qi_istore 3 (J 4))))) lv st h
theorem sn_R_farBehind_0 {Ph : Nat → State → Prop} {h0 hf : hc_H} {r : Option Value} : qk Ph M_R_farBehind h0 hf r 0 (vc_R_farBehind_0 r hf (cx Ph M_R_farBehind h0 hf r)) := (qs_iconst d_R_farBehind_0 (by decide) (qs_istore_n d_R_farBehind_1 rfl (by decide) (qs_iconst d_R_farBehind_2 (by decide) (qs_istore_n d_R_farBehind_3 rfl (by decide) (fun _ _ _ h9 => h9)))))
theorem zz_R_farBehind : hc_z M_R_farBehind 1 := ⟨wk_1020, wk_66, by decide +kernel⟩
/-! BalancedLineModel.task(II)I -/
abbrev M_R_task : hc_M := (⟨"BalancedLineModel", "task", "(II)I"⟩, prog_8_method_28_code, 3, (some .int), 3, 68)
theorem d_R_task_0 : decode (mC M_R_task) 0 = .ok (.aload_n 0, 1) := by decide +kernel
theorem d_R_task_1 : decode (mC M_R_task) 1 = .ok (.iload_n 1, 1) := by decide +kernel
theorem d_R_task_2 : decode (mC M_R_task) 2 = .ok (.invokevirtual 98, 3) := by decide +kernel
theorem d_R_task_5 : decode (mC M_R_task) 5 = .ok (.ifCond .ne 5, 3) := by decide +kernel
theorem d_R_task_8 : decode (mC M_R_task) 8 = .ok (.iconst (-1), 1) := by decide +kernel
theorem d_R_task_9 : decode (mC M_R_task) 9 = .ok (.ireturn, 1) := by decide +kernel
theorem d_R_task_10 : decode (mC M_R_task) 10 = .ok (.iload_n 2, 1) := by decide +kernel
theorem d_R_task_11 : decode (mC M_R_task) 11 = .ok (.tableswitch 88 0 5 #[37, 46, 56, 62, 68, 78], 37) := by decide +kernel
theorem d_R_task_48 : decode (mC M_R_task) 48 = .ok (.aload_n 0, 1) := by decide +kernel
theorem d_R_task_49 : decode (mC M_R_task) 49 = .ok (.getfield 13, 3) := by decide +kernel
theorem d_R_task_52 : decode (mC M_R_task) 52 = .ok (.iconst 2, 1) := by decide +kernel
theorem d_R_task_53 : decode (mC M_R_task) 53 = .ok (.iload_n 1, 1) := by decide +kernel
theorem d_R_task_54 : decode (mC M_R_task) 54 = .ok (.iadd, 1) := by decide +kernel
theorem d_R_task_55 : decode (mC M_R_task) 55 = .ok (.iaload, 1) := by decide +kernel
theorem d_R_task_56 : decode (mC M_R_task) 56 = .ok (.ireturn, 1) := by decide +kernel
theorem d_R_task_57 : decode (mC M_R_task) 57 = .ok (.aload_n 0, 1) := by decide +kernel
theorem d_R_task_58 : decode (mC M_R_task) 58 = .ok (.getfield 13, 3) := by decide +kernel
theorem d_R_task_61 : decode (mC M_R_task) 61 = .ok (.bipush 14, 2) := by decide +kernel
theorem d_R_task_63 : decode (mC M_R_task) 63 = .ok (.iload_n 1, 1) := by decide +kernel
theorem d_R_task_64 : decode (mC M_R_task) 64 = .ok (.iadd, 1) := by decide +kernel
theorem d_R_task_65 : decode (mC M_R_task) 65 = .ok (.iaload, 1) := by decide +kernel
theorem d_R_task_66 : decode (mC M_R_task) 66 = .ok (.ireturn, 1) := by decide +kernel
theorem d_R_task_67 : decode (mC M_R_task) 67 = .ok (.aload_n 0, 1) := by decide +kernel
theorem d_R_task_68 : decode (mC M_R_task) 68 = .ok (.iload_n 1, 1) := by decide +kernel
theorem d_R_task_69 : decode (mC M_R_task) 69 = .ok (.invokevirtual 129, 3) := by decide +kernel
theorem d_R_task_72 : decode (mC M_R_task) 72 = .ok (.ireturn, 1) := by decide +kernel
theorem d_R_task_73 : decode (mC M_R_task) 73 = .ok (.aload_n 0, 1) := by decide +kernel
theorem d_R_task_74 : decode (mC M_R_task) 74 = .ok (.iload_n 1, 1) := by decide +kernel
theorem d_R_task_75 : decode (mC M_R_task) 75 = .ok (.invokevirtual 132, 3) := by decide +kernel
theorem d_R_task_78 : decode (mC M_R_task) 78 = .ok (.ireturn, 1) := by decide +kernel
theorem d_R_task_79 : decode (mC M_R_task) 79 = .ok (.aload_n 0, 1) := by decide +kernel
theorem d_R_task_80 : decode (mC M_R_task) 80 = .ok (.getfield 13, 3) := by decide +kernel
theorem d_R_task_83 : decode (mC M_R_task) 83 = .ok (.bipush 26, 2) := by decide +kernel
theorem d_R_task_85 : decode (mC M_R_task) 85 = .ok (.iload_n 1, 1) := by decide +kernel
theorem d_R_task_86 : decode (mC M_R_task) 86 = .ok (.iadd, 1) := by decide +kernel
theorem d_R_task_87 : decode (mC M_R_task) 87 = .ok (.iaload, 1) := by decide +kernel
theorem d_R_task_88 : decode (mC M_R_task) 88 = .ok (.ireturn, 1) := by decide +kernel
theorem d_R_task_89 : decode (mC M_R_task) 89 = .ok (.aload_n 0, 1) := by decide +kernel
theorem d_R_task_90 : decode (mC M_R_task) 90 = .ok (.getfield 13, 3) := by decide +kernel
theorem d_R_task_93 : decode (mC M_R_task) 93 = .ok (.bipush 38, 2) := by decide +kernel
theorem d_R_task_95 : decode (mC M_R_task) 95 = .ok (.iload_n 1, 1) := by decide +kernel
theorem d_R_task_96 : decode (mC M_R_task) 96 = .ok (.iadd, 1) := by decide +kernel
theorem d_R_task_97 : decode (mC M_R_task) 97 = .ok (.iaload, 1) := by decide +kernel
theorem d_R_task_98 : decode (mC M_R_task) 98 = .ok (.ireturn, 1) := by decide +kernel
theorem d_R_task_99 : decode (mC M_R_task) 99 = .ok (.iconst (-1), 1) := by decide +kernel
theorem d_R_task_100 : decode (mC M_R_task) 100 = .ok (.ireturn, 1) := by decide +kernel
def vc_R_task_99 (r : Option Value) (hf : hc_H) (J : Nat → hc_K) (lv : hc_L) (st : List Value) (h : hc_H) : Prop := (qi_push (-1) (qi_iret r hf)) lv st h
theorem sn_R_task_99 {Ph : Nat → State → Prop} {h0 hf : hc_H} {r : Option Value} : qk Ph M_R_task h0 hf r 99 (vc_R_task_99 r hf (cx Ph M_R_task h0 hf r)) := (qs_iconst d_R_task_99 (by decide) (qs_iret d_R_task_100 rfl))
def vc_R_task_89 (r : Option Value) (hf : hc_H) (J : Nat → hc_K) (lv : hc_L) (st : List Value) (h : hc_H) : Prop := (qi_aload 0 (qi_get 6 2 (qi_push (nI 38) (qi_iload 1 (qi_iadd (qi_iald 0 (qi_iret r hf))))))) lv st h
theorem sn_R_task_89 {Ph : Nat → State → Prop} {h0 hf : hc_H} {r : Option Value} : qk Ph M_R_task h0 hf r 89 (vc_R_task_89 r hf (cx Ph M_R_task h0 hf r)) := (qs_aload_n d_R_task_89 rfl (qs_get d_R_task_90 ff_R_13 (qs_bipush d_R_task_93 (by decide) (qs_iload_n d_R_task_95 rfl (qs_iadd d_R_task_96 (qs_iaload d_R_task_97 (qs_iret d_R_task_98 rfl)))))))
def vc_R_task_79 (r : Option Value) (hf : hc_H) (J : Nat → hc_K) (lv : hc_L) (st : List Value) (h : hc_H) : Prop := (qi_aload 0 (qi_get 6 2 (qi_push (nI 26) (qi_iload 1 (qi_iadd (qi_iald 0 (qi_iret r hf))))))) lv st h
theorem sn_R_task_79 {Ph : Nat → State → Prop} {h0 hf : hc_H} {r : Option Value} : qk Ph M_R_task h0 hf r 79 (vc_R_task_79 r hf (cx Ph M_R_task h0 hf r)) := (qs_aload_n d_R_task_79 rfl (qs_get d_R_task_80 ff_R_13 (qs_bipush d_R_task_83 (by decide) (qs_iload_n d_R_task_85 rfl (qs_iadd d_R_task_86 (qs_iaload d_R_task_87 (qs_iret d_R_task_88 rfl)))))))
def vc_R_task_73 (r : Option Value) (hf : hc_H) (J : Nat → hc_K) (lv : hc_L) (st : List Value) (h : hc_H) : Prop := (qi_aload 0 (qi_iload 1 (qi_invV hc_tt M_R_farBehind 1 6 (qi_iret r hf)))) lv st h
theorem sn_R_task_73 {Ph : Nat → State → Prop} {h0 hf : hc_H} {r : Option Value} : qk Ph M_R_task h0 hf r 73 (vc_R_task_73 r hf (cx Ph M_R_task h0 hf r)) := (qs_aload_n d_R_task_73 rfl (qs_iload_n d_R_task_74 rfl (qs_invV hc_Ph_tt (fun _ _ _ => trivial) d_R_task_75 zz_R_farBehind wk_1017 ⟨wk_1019, wk_39⟩ ⟨_, rfl, rfl⟩ ⟨by decide, by decide⟩ (qs_iret d_R_task_78 rfl))))
def vc_R_task_67 (r : Option Value) (hf : hc_H) (J : Nat → hc_K) (lv : hc_L) (st : List Value) (h : hc_H) : Prop := (qi_aload 0 (qi_iload 1 (qi_invV hc_tt M_R_aheadOf 1 6 (qi_iret r hf)))) lv st h
theorem sn_R_task_67 {Ph : Nat → State → Prop} {h0 hf : hc_H} {r : Option Value} : qk Ph M_R_task h0 hf r 67 (vc_R_task_67 r hf (cx Ph M_R_task h0 hf r)) := (qs_aload_n d_R_task_67 rfl (qs_iload_n d_R_task_68 rfl (qs_invV hc_Ph_tt (fun _ _ _ => trivial) d_R_task_69 zz_R_aheadOf wk_972 ⟨wk_974, wk_33⟩ ⟨_, rfl, rfl⟩ ⟨by decide, by decide⟩ (qs_iret d_R_task_72 rfl))))
def vc_R_task_57 (r : Option Value) (hf : hc_H) (J : Nat → hc_K) (lv : hc_L) (st : List Value) (h : hc_H) : Prop := (qi_aload 0 (qi_get 6 2 (qi_push (nI 14) (qi_iload 1 (qi_iadd (qi_iald 0 (qi_iret r hf))))))) lv st h
theorem sn_R_task_57 {Ph : Nat → State → Prop} {h0 hf : hc_H} {r : Option Value} : qk Ph M_R_task h0 hf r 57 (vc_R_task_57 r hf (cx Ph M_R_task h0 hf r)) := (qs_aload_n d_R_task_57 rfl (qs_get d_R_task_58 ff_R_13 (qs_bipush d_R_task_61 (by decide) (qs_iload_n d_R_task_63 rfl (qs_iadd d_R_task_64 (qs_iaload d_R_task_65 (qs_iret d_R_task_66 rfl)))))))
def vc_R_task_48 (r : Option Value) (hf : hc_H) (J : Nat → hc_K) (lv : hc_L) (st : List Value) (h : hc_H) : Prop := (qi_aload 0 (qi_get 6 2 (qi_push (nI 2) (qi_iload 1 (qi_iadd (qi_iald 0 (qi_iret r hf))))))) lv st h
theorem sn_R_task_48 {Ph : Nat → State → Prop} {h0 hf : hc_H} {r : Option Value} : qk Ph M_R_task h0 hf r 48 (vc_R_task_48 r hf (cx Ph M_R_task h0 hf r)) := (qs_aload_n d_R_task_48 rfl (qs_get d_R_task_49 ff_R_13 (qs_iconst d_R_task_52 (by decide) (qs_iload_n d_R_task_53 rfl (qs_iadd d_R_task_54 (qs_iaload d_R_task_55 (qs_iret d_R_task_56 rfl)))))))
def vc_R_task_10 (r : Option Value) (hf : hc_H) (J : Nat → hc_K) (lv : hc_L) (st : List Value) (h : hc_H) : Prop := (qi_iload 2 (qi_sw (vc_R_task_99 r hf J) [((nI 0), (vc_R_task_48 r hf J)), ((nI 1), (vc_R_task_57 r hf J)), ((nI 2), (vc_R_task_67 r hf J)), ((nI 3), (vc_R_task_73 r hf J)), ((nI 4), (vc_R_task_79 r hf J)), ((nI 5), (vc_R_task_89 r hf J))])) lv st h
theorem sn_R_task_10 {Ph : Nat → State → Prop} {h0 hf : hc_H} {r : Option Value} : qk Ph M_R_task h0 hf r 10 (vc_R_task_10 r hf (cx Ph M_R_task h0 hf r)) := (qs_iload_n d_R_task_10 rfl (qs_table (tgt := 99) d_R_task_11 rfl (by decide) ⟨by decide, ⟨48, by decide, sn_R_task_48⟩, ⟨by decide, ⟨57, by decide, sn_R_task_57⟩, ⟨by decide, ⟨67, by decide, sn_R_task_67⟩, ⟨by decide, ⟨73, by decide, sn_R_task_73⟩, ⟨by decide, ⟨79, by decide, sn_R_task_79⟩, ⟨by decide, ⟨89, by decide, sn_R_task_89⟩, trivial⟩⟩⟩⟩⟩⟩ (by decide) sn_R_task_99))
def vc_R_task_0 (r : Option Value) (hf : hc_H) (J : Nat → hc_K) (lv : hc_L) (st : List Value) (h : hc_H) : Prop := (qi_aload 0 (qi_iload 1 (qi_invV hc_tt M_R_isTask 1 6 (qi_if_ne (vc_R_task_10 r hf J) (qi_push (-1) (qi_iret r hf)))))) lv st h
theorem sn_R_task_0 {Ph : Nat → State → Prop} {h0 hf : hc_H} {r : Option Value} : qk Ph M_R_task h0 hf r 0 (vc_R_task_0 r hf (cx Ph M_R_task h0 hf r)) := (qs_aload_n d_R_task_0 rfl (qs_iload_n d_R_task_1 rfl (qs_invV hc_Ph_tt (fun _ _ _ => trivial) d_R_task_2 zz_R_isTask wk_988 ⟨wk_990, wk_36⟩ ⟨_, rfl, rfl⟩ ⟨by decide, by decide⟩ (qs_if_ne (tgt := 10) d_R_task_5 (by decide) sn_R_task_10 (qs_iconst d_R_task_8 (by decide) (qs_iret d_R_task_9 rfl))))))
/-! BalancedLineModel.put(II)I -/
abbrev M_R_put : hc_M := (⟨"BalancedLineModel", "put", "(II)I"⟩, prog_8_method_33_code, 3, (some .int), 3, 67)
theorem d_R_put_0 : decode (mC M_R_put) 0 = .ok (.aload_n 0, 1) := by decide +kernel
theorem d_R_put_1 : decode (mC M_R_put) 1 = .ok (.iload_n 1, 1) := by decide +kernel
theorem d_R_put_2 : decode (mC M_R_put) 2 = .ok (.invokevirtual 98, 3) := by decide +kernel
theorem d_R_put_5 : decode (mC M_R_put) 5 = .ok (.ifCond .eq 15, 3) := by decide +kernel
theorem d_R_put_8 : decode (mC M_R_put) 8 = .ok (.iload_n 2, 1) := by decide +kernel
theorem d_R_put_9 : decode (mC M_R_put) 9 = .ok (.i2l, 1) := by decide +kernel
theorem d_R_put_10 : decode (mC M_R_put) 10 = .ok (.lconst 1, 1) := by decide +kernel
theorem d_R_put_11 : decode (mC M_R_put) 11 = .ok (.ldc2_w 144, 3) := by decide +kernel
theorem d_R_put_14 : decode (mC M_R_put) 14 = .ok (.invokestatic 56, 3) := by decide +kernel
theorem d_R_put_17 : decode (mC M_R_put) 17 = .ok (.ifCond .ne 5, 3) := by decide +kernel
theorem d_R_put_20 : decode (mC M_R_put) 20 = .ok (.iconst (-1), 1) := by decide +kernel
theorem d_R_put_21 : decode (mC M_R_put) 21 = .ok (.ireturn, 1) := by decide +kernel
theorem d_R_put_22 : decode (mC M_R_put) 22 = .ok (.aload_n 0, 1) := by decide +kernel
theorem d_R_put_23 : decode (mC M_R_put) 23 = .ok (.iload_n 1, 1) := by decide +kernel
theorem d_R_put_24 : decode (mC M_R_put) 24 = .ok (.iload_n 2, 1) := by decide +kernel
theorem d_R_put_25 : decode (mC M_R_put) 25 = .ok (.invokevirtual 101, 3) := by decide +kernel
theorem d_R_put_28 : decode (mC M_R_put) 28 = .ok (.ifCond .gt 16, 3) := by decide +kernel
theorem d_R_put_31 : decode (mC M_R_put) 31 = .ok (.aload_n 0, 1) := by decide +kernel
theorem d_R_put_32 : decode (mC M_R_put) 32 = .ok (.getfield 13, 3) := by decide +kernel
theorem d_R_put_35 : decode (mC M_R_put) 35 = .ok (.bipush 50, 2) := by decide +kernel
theorem d_R_put_37 : decode (mC M_R_put) 37 = .ok (.iload_n 1, 1) := by decide +kernel
theorem d_R_put_38 : decode (mC M_R_put) 38 = .ok (.iadd, 1) := by decide +kernel
theorem d_R_put_39 : decode (mC M_R_put) 39 = .ok (.iaload, 1) := by decide +kernel
theorem d_R_put_40 : decode (mC M_R_put) 40 = .ok (.iload_n 2, 1) := by decide +kernel
theorem d_R_put_41 : decode (mC M_R_put) 41 = .ok (.if_icmp .ne 6, 3) := by decide +kernel
theorem d_R_put_44 : decode (mC M_R_put) 44 = .ok (.bipush (-2), 2) := by decide +kernel
theorem d_R_put_46 : decode (mC M_R_put) 46 = .ok (.ireturn, 1) := by decide +kernel
theorem d_R_put_47 : decode (mC M_R_put) 47 = .ok (.aload_n 0, 1) := by decide +kernel
theorem d_R_put_48 : decode (mC M_R_put) 48 = .ok (.invokevirtual 105, 3) := by decide +kernel
theorem d_R_put_51 : decode (mC M_R_put) 51 = .ok (.aload_n 0, 1) := by decide +kernel
theorem d_R_put_52 : decode (mC M_R_put) 52 = .ok (.getfield 13, 3) := by decide +kernel
theorem d_R_put_55 : decode (mC M_R_put) 55 = .ok (.bipush 50, 2) := by decide +kernel
theorem d_R_put_57 : decode (mC M_R_put) 57 = .ok (.iload_n 1, 1) := by decide +kernel
theorem d_R_put_58 : decode (mC M_R_put) 58 = .ok (.iadd, 1) := by decide +kernel
theorem d_R_put_59 : decode (mC M_R_put) 59 = .ok (.iload_n 2, 1) := by decide +kernel
theorem d_R_put_60 : decode (mC M_R_put) 60 = .ok (.iastore, 1) := by decide +kernel
theorem d_R_put_61 : decode (mC M_R_put) 61 = .ok (.aload_n 0, 1) := by decide +kernel
theorem d_R_put_62 : decode (mC M_R_put) 62 = .ok (.aload_n 0, 1) := by decide +kernel
theorem d_R_put_63 : decode (mC M_R_put) 63 = .ok (.iload_n 2, 1) := by decide +kernel
theorem d_R_put_64 : decode (mC M_R_put) 64 = .ok (.invokevirtual 138, 3) := by decide +kernel
theorem d_R_put_67 : decode (mC M_R_put) 67 = .ok (.invokevirtual 141, 3) := by decide +kernel
theorem d_R_put_70 : decode (mC M_R_put) 70 = .ok (.ireturn, 1) := by decide +kernel
def vc_R_put_47 (r : Option Value) (hf : hc_H) (J : Nat → hc_K) (lv : hc_L) (st : List Value) (h : hc_H) : Prop := (qi_aload 0 (qi_invV hc_tt M_R_note 0 6 (qi_aload 0 (qi_get 6 2 (qi_push (nI 50) (qi_iload 1 (qi_iadd (qi_iload 2 (qi_iast (qi_aload 0 (qi_aload 0 (qi_iload 2 (qi_invV hc_tt M_R_putIn 1 6 (qi_invV hc_tt M_R_timesOf 1 6 (qi_iret r hf))))))))))))))) lv st h
theorem sn_R_put_47 {Ph : Nat → State → Prop} {h0 hf : hc_H} {r : Option Value} : qk Ph M_R_put h0 hf r 47 (vc_R_put_47 r hf (cx Ph M_R_put h0 hf r)) := (qs_aload_n d_R_put_47 rfl (qs_invV hc_Ph_tt (fun _ _ _ => trivial) d_R_put_48 zz_R_note wk_956 ⟨wk_958, wk_29⟩ ⟨_, rfl, rfl⟩ ⟨by decide, by decide⟩ (qs_aload_n d_R_put_51 rfl (qs_get d_R_put_52 ff_R_13 (qs_bipush d_R_put_55 (by decide) (qs_iload_n d_R_put_57 rfl (qs_iadd d_R_put_58 (qs_iload_n d_R_put_59 rfl (qs_iastore d_R_put_60 (qs_aload_n d_R_put_61 rfl (qs_aload_n d_R_put_62 rfl (qs_iload_n d_R_put_63 rfl (qs_invV hc_Ph_tt (fun _ _ _ => trivial) d_R_put_64 zz_R_putIn wk_976 ⟨wk_978, wk_34⟩ ⟨_, rfl, rfl⟩ ⟨by decide, by decide⟩ (qs_invV hc_Ph_tt (fun _ _ _ => trivial) d_R_put_67 zz_R_timesOf wk_980 ⟨wk_982, wk_35⟩ ⟨_, rfl, rfl⟩ ⟨by decide, by decide⟩ (qs_iret d_R_put_70 rfl)))))))))))))))
def vc_R_put_44 (r : Option Value) (hf : hc_H) (J : Nat → hc_K) (lv : hc_L) (st : List Value) (h : hc_H) : Prop := (qi_push (-2) (qi_iret r hf)) lv st h
theorem sn_R_put_44 {Ph : Nat → State → Prop} {h0 hf : hc_H} {r : Option Value} : qk Ph M_R_put h0 hf r 44 (vc_R_put_44 r hf (cx Ph M_R_put h0 hf r)) := (qs_bipush d_R_put_44 (by decide) (qs_iret d_R_put_46 rfl))
def vc_R_put_22 (r : Option Value) (hf : hc_H) (J : Nat → hc_K) (lv : hc_L) (st : List Value) (h : hc_H) : Prop := (qi_aload 0 (qi_iload 1 (qi_iload 2 (qi_invV hc_tt M_R_whyNot 2 6 (qi_if_gt (vc_R_put_44 r hf J) (qi_aload 0 (qi_get 6 2 (qi_push (nI 50) (qi_iload 1 (qi_iadd (qi_iald 0 (qi_iload 2 (qi_icmp_ne (vc_R_put_47 r hf J) (vc_R_put_44 r hf J)))))))))))))) lv st h
theorem sn_R_put_22 {Ph : Nat → State → Prop} {h0 hf : hc_H} {r : Option Value} : qk Ph M_R_put h0 hf r 22 (vc_R_put_22 r hf (cx Ph M_R_put h0 hf r)) := (qs_aload_n d_R_put_22 rfl (qs_iload_n d_R_put_23 rfl (qs_iload_n d_R_put_24 rfl (qs_invV hc_Ph_tt (fun _ _ _ => trivial) d_R_put_25 zz_R_whyNot wk_964 ⟨wk_966, wk_31⟩ ⟨_, rfl, rfl⟩ ⟨by decide, by decide⟩ (qs_if_gt (tgt := 44) d_R_put_28 (by decide) sn_R_put_44 (qs_aload_n d_R_put_31 rfl (qs_get d_R_put_32 ff_R_13 (qs_bipush d_R_put_35 (by decide) (qs_iload_n d_R_put_37 rfl (qs_iadd d_R_put_38 (qs_iaload d_R_put_39 (qs_iload_n d_R_put_40 rfl (qs_icmp_ne (tgt := 47) d_R_put_41 (by decide) sn_R_put_47 sn_R_put_44)))))))))))))
def vc_R_put_20 (r : Option Value) (hf : hc_H) (J : Nat → hc_K) (lv : hc_L) (st : List Value) (h : hc_H) : Prop := (qi_push (-1) (qi_iret r hf)) lv st h
theorem sn_R_put_20 {Ph : Nat → State → Prop} {h0 hf : hc_H} {r : Option Value} : qk Ph M_R_put h0 hf r 20 (vc_R_put_20 r hf (cx Ph M_R_put h0 hf r)) := (qs_iconst d_R_put_20 (by decide) (qs_iret d_R_put_21 rfl))
def vc_R_put_0 (r : Option Value) (hf : hc_H) (J : Nat → hc_K) (lv : hc_L) (st : List Value) (h : hc_H) : Prop := (qi_aload 0 (qi_iload 1 (qi_invV hc_tt M_R_isTask 1 6 (qi_if_eq (vc_R_put_20 r hf J) (qi_iload 2 (qi_i2l (qi_pushl (lN 1) (qi_pushl (lN 12) (qi_invS hc_tt M_R_in 3 (qi_if_ne (vc_R_put_22 r hf J) (vc_R_put_20 r hf J))))))))))) lv st h
theorem sn_R_put_0 {Ph : Nat → State → Prop} {h0 hf : hc_H} {r : Option Value} : qk Ph M_R_put h0 hf r 0 (vc_R_put_0 r hf (cx Ph M_R_put h0 hf r)) := (qs_aload_n d_R_put_0 rfl (qs_iload_n d_R_put_1 rfl (qs_invV hc_Ph_tt (fun _ _ _ => trivial) d_R_put_2 zz_R_isTask wk_988 ⟨wk_990, wk_36⟩ ⟨_, rfl, rfl⟩ ⟨by decide, by decide⟩ (qs_if_eq (tgt := 20) d_R_put_5 (by decide) sn_R_put_20 (qs_iload_n d_R_put_8 rfl (qs_i2l d_R_put_9 (qs_lconst d_R_put_10 rfl (qs_ldc2 d_R_put_11 (by first | exact wk_1025 | exact (show _ ∈ lw_g from wk_1025)) (qs_invS hc_Ph_tt (fun _ _ _ => trivial) d_R_put_14 zz_R_in wk_903 wk_904 ⟨by decide, by decide⟩ (qs_if_ne (tgt := 22) d_R_put_17 (by decide) sn_R_put_22 sn_R_put_20))))))))))
/-! BalancedLineModel.off(I)I -/
abbrev M_R_off : hc_M := (⟨"BalancedLineModel", "off", "(I)I"⟩, prog_8_method_34_code, 3, (some .int), 2, 46)
theorem d_R_off_0 : decode (mC M_R_off) 0 = .ok (.aload_n 0, 1) := by decide +kernel
theorem d_R_off_1 : decode (mC M_R_off) 1 = .ok (.iload_n 1, 1) := by decide +kernel
theorem d_R_off_2 : decode (mC M_R_off) 2 = .ok (.invokevirtual 98, 3) := by decide +kernel
theorem d_R_off_5 : decode (mC M_R_off) 5 = .ok (.ifCond .ne 5, 3) := by decide +kernel
theorem d_R_off_8 : decode (mC M_R_off) 8 = .ok (.iconst (-1), 1) := by decide +kernel
theorem d_R_off_9 : decode (mC M_R_off) 9 = .ok (.ireturn, 1) := by decide +kernel
theorem d_R_off_10 : decode (mC M_R_off) 10 = .ok (.aload_n 0, 1) := by decide +kernel
theorem d_R_off_11 : decode (mC M_R_off) 11 = .ok (.getfield 13, 3) := by decide +kernel
theorem d_R_off_14 : decode (mC M_R_off) 14 = .ok (.bipush 50, 2) := by decide +kernel
theorem d_R_off_16 : decode (mC M_R_off) 16 = .ok (.iload_n 1, 1) := by decide +kernel
theorem d_R_off_17 : decode (mC M_R_off) 17 = .ok (.iadd, 1) := by decide +kernel
theorem d_R_off_18 : decode (mC M_R_off) 18 = .ok (.iaload, 1) := by decide +kernel
theorem d_R_off_19 : decode (mC M_R_off) 19 = .ok (.istore_n 2, 1) := by decide +kernel
theorem d_R_off_20 : decode (mC M_R_off) 20 = .ok (.iload_n 2, 1) := by decide +kernel
theorem d_R_off_21 : decode (mC M_R_off) 21 = .ok (.ifCond .ne 6, 3) := by decide +kernel
theorem d_R_off_24 : decode (mC M_R_off) 24 = .ok (.bipush (-2), 2) := by decide +kernel
theorem d_R_off_26 : decode (mC M_R_off) 26 = .ok (.ireturn, 1) := by decide +kernel
theorem d_R_off_27 : decode (mC M_R_off) 27 = .ok (.aload_n 0, 1) := by decide +kernel
theorem d_R_off_28 : decode (mC M_R_off) 28 = .ok (.invokevirtual 105, 3) := by decide +kernel
theorem d_R_off_31 : decode (mC M_R_off) 31 = .ok (.aload_n 0, 1) := by decide +kernel
theorem d_R_off_32 : decode (mC M_R_off) 32 = .ok (.getfield 13, 3) := by decide +kernel
theorem d_R_off_35 : decode (mC M_R_off) 35 = .ok (.bipush 50, 2) := by decide +kernel
theorem d_R_off_37 : decode (mC M_R_off) 37 = .ok (.iload_n 1, 1) := by decide +kernel
theorem d_R_off_38 : decode (mC M_R_off) 38 = .ok (.iadd, 1) := by decide +kernel
theorem d_R_off_39 : decode (mC M_R_off) 39 = .ok (.iconst 0, 1) := by decide +kernel
theorem d_R_off_40 : decode (mC M_R_off) 40 = .ok (.iastore, 1) := by decide +kernel
theorem d_R_off_41 : decode (mC M_R_off) 41 = .ok (.iload_n 2, 1) := by decide +kernel
theorem d_R_off_42 : decode (mC M_R_off) 42 = .ok (.ireturn, 1) := by decide +kernel
def vc_R_off_27 (r : Option Value) (hf : hc_H) (J : Nat → hc_K) (lv : hc_L) (st : List Value) (h : hc_H) : Prop := (qi_aload 0 (qi_invV hc_tt M_R_note 0 6 (qi_aload 0 (qi_get 6 2 (qi_push (nI 50) (qi_iload 1 (qi_iadd (qi_push (nI 0) (qi_iast (qi_iload 2 (qi_iret r hf))))))))))) lv st h
theorem sn_R_off_27 {Ph : Nat → State → Prop} {h0 hf : hc_H} {r : Option Value} : qk Ph M_R_off h0 hf r 27 (vc_R_off_27 r hf (cx Ph M_R_off h0 hf r)) := (qs_aload_n d_R_off_27 rfl (qs_invV hc_Ph_tt (fun _ _ _ => trivial) d_R_off_28 zz_R_note wk_956 ⟨wk_958, wk_29⟩ ⟨_, rfl, rfl⟩ ⟨by decide, by decide⟩ (qs_aload_n d_R_off_31 rfl (qs_get d_R_off_32 ff_R_13 (qs_bipush d_R_off_35 (by decide) (qs_iload_n d_R_off_37 rfl (qs_iadd d_R_off_38 (qs_iconst d_R_off_39 (by decide) (qs_iastore d_R_off_40 (qs_iload_n d_R_off_41 rfl (qs_iret d_R_off_42 rfl)))))))))))
def vc_R_off_10 (r : Option Value) (hf : hc_H) (J : Nat → hc_K) (lv : hc_L) (st : List Value) (h : hc_H) : Prop := (qi_aload 0 (qi_get 6 2 (qi_push (nI 50) (qi_iload 1 (qi_iadd (qi_iald 0 (qi_istore 2 (qi_iload 2 (qi_if_ne (vc_R_off_27 r hf J) (qi_push (-2) (qi_iret r hf))))))))))) lv st h
theorem sn_R_off_10 {Ph : Nat → State → Prop} {h0 hf : hc_H} {r : Option Value} : qk Ph M_R_off h0 hf r 10 (vc_R_off_10 r hf (cx Ph M_R_off h0 hf r)) := (qs_aload_n d_R_off_10 rfl (qs_get d_R_off_11 ff_R_13 (qs_bipush d_R_off_14 (by decide) (qs_iload_n d_R_off_16 rfl (qs_iadd d_R_off_17 (qs_iaload d_R_off_18 (qs_istore_n d_R_off_19 rfl (by decide) (qs_iload_n d_R_off_20 rfl (qs_if_ne (tgt := 27) d_R_off_21 (by decide) sn_R_off_27 (qs_bipush d_R_off_24 (by decide) (qs_iret d_R_off_26 rfl)))))))))))
def vc_R_off_0 (r : Option Value) (hf : hc_H) (J : Nat → hc_K) (lv : hc_L) (st : List Value) (h : hc_H) : Prop := (qi_aload 0 (qi_iload 1 (qi_invV hc_tt M_R_isTask 1 6 (qi_if_ne (vc_R_off_10 r hf J) (qi_push (-1) (qi_iret r hf)))))) lv st h
theorem sn_R_off_0 {Ph : Nat → State → Prop} {h0 hf : hc_H} {r : Option Value} : qk Ph M_R_off h0 hf r 0 (vc_R_off_0 r hf (cx Ph M_R_off h0 hf r)) := (qs_aload_n d_R_off_0 rfl (qs_iload_n d_R_off_1 rfl (qs_invV hc_Ph_tt (fun _ _ _ => trivial) d_R_off_2 zz_R_isTask wk_988 ⟨wk_990, wk_36⟩ ⟨_, rfl, rfl⟩ ⟨by decide, by decide⟩ (qs_if_ne (tgt := 10) d_R_off_5 (by decide) sn_R_off_10 (qs_iconst d_R_off_8 (by decide) (qs_iret d_R_off_9 rfl))))))
/-! BalancedLineModel.why(II)I -/
abbrev M_R_why : hc_M := (⟨"BalancedLineModel", "why", "(II)I"⟩, prog_8_method_35_code, 3, (some .int), 3, 67)
theorem d_R_why_0 : decode (mC M_R_why) 0 = .ok (.aload_n 0, 1) := by decide +kernel
theorem d_R_why_1 : decode (mC M_R_why) 1 = .ok (.iload_n 1, 1) := by decide +kernel
theorem d_R_why_2 : decode (mC M_R_why) 2 = .ok (.invokevirtual 98, 3) := by decide +kernel
theorem d_R_why_5 : decode (mC M_R_why) 5 = .ok (.ifCond .eq 24, 3) := by decide +kernel
theorem d_R_why_8 : decode (mC M_R_why) 8 = .ok (.iload_n 2, 1) := by decide +kernel
theorem d_R_why_9 : decode (mC M_R_why) 9 = .ok (.i2l, 1) := by decide +kernel
theorem d_R_why_10 : decode (mC M_R_why) 10 = .ok (.lconst 1, 1) := by decide +kernel
theorem d_R_why_11 : decode (mC M_R_why) 11 = .ok (.ldc2_w 144, 3) := by decide +kernel
theorem d_R_why_14 : decode (mC M_R_why) 14 = .ok (.invokestatic 56, 3) := by decide +kernel
theorem d_R_why_17 : decode (mC M_R_why) 17 = .ok (.ifCond .eq 12, 3) := by decide +kernel
theorem d_R_why_20 : decode (mC M_R_why) 20 = .ok (.aload_n 0, 1) := by decide +kernel
theorem d_R_why_21 : decode (mC M_R_why) 21 = .ok (.iload_n 1, 1) := by decide +kernel
theorem d_R_why_22 : decode (mC M_R_why) 22 = .ok (.iload_n 2, 1) := by decide +kernel
theorem d_R_why_23 : decode (mC M_R_why) 23 = .ok (.invokevirtual 101, 3) := by decide +kernel
theorem d_R_why_26 : decode (mC M_R_why) 26 = .ok (.goto 4, 3) := by decide +kernel
theorem d_R_why_29 : decode (mC M_R_why) 29 = .ok (.iconst (-1), 1) := by decide +kernel
theorem d_R_why_30 : decode (mC M_R_why) 30 = .ok (.ireturn, 1) := by decide +kernel
def vc_R_why_30 (r : Option Value) (hf : hc_H) (J : Nat → hc_K) (lv : hc_L) (st : List Value) (h : hc_H) : Prop := (qi_iret r hf) lv st h
theorem sn_R_why_30 {Ph : Nat → State → Prop} {h0 hf : hc_H} {r : Option Value} : qk Ph M_R_why h0 hf r 30 (vc_R_why_30 r hf (cx Ph M_R_why h0 hf r)) := (qs_iret d_R_why_30 rfl)
def vc_R_why_29 (r : Option Value) (hf : hc_H) (J : Nat → hc_K) (lv : hc_L) (st : List Value) (h : hc_H) : Prop := (qi_push (-1) (vc_R_why_30 r hf J)) lv st h
theorem sn_R_why_29 {Ph : Nat → State → Prop} {h0 hf : hc_H} {r : Option Value} : qk Ph M_R_why h0 hf r 29 (vc_R_why_29 r hf (cx Ph M_R_why h0 hf r)) := (qs_iconst d_R_why_29 (by decide) sn_R_why_30)
def vc_R_why_0 (r : Option Value) (hf : hc_H) (J : Nat → hc_K) (lv : hc_L) (st : List Value) (h : hc_H) : Prop := (qi_aload 0 (qi_iload 1 (qi_invV hc_tt M_R_isTask 1 6 (qi_if_eq (vc_R_why_29 r hf J) (qi_iload 2 (qi_i2l (qi_pushl (lN 1) (qi_pushl (lN 12) (qi_invS hc_tt M_R_in 3 (qi_if_eq (vc_R_why_29 r hf J) (qi_aload 0 (qi_iload 1 (qi_iload 2 (qi_invV hc_tt M_R_whyNot 2 6 (vc_R_why_30 r hf J))))))))))))))) lv st h
theorem sn_R_why_0 {Ph : Nat → State → Prop} {h0 hf : hc_H} {r : Option Value} : qk Ph M_R_why h0 hf r 0 (vc_R_why_0 r hf (cx Ph M_R_why h0 hf r)) := (qs_aload_n d_R_why_0 rfl (qs_iload_n d_R_why_1 rfl (qs_invV hc_Ph_tt (fun _ _ _ => trivial) d_R_why_2 zz_R_isTask wk_988 ⟨wk_990, wk_36⟩ ⟨_, rfl, rfl⟩ ⟨by decide, by decide⟩ (qs_if_eq (tgt := 29) d_R_why_5 (by decide) sn_R_why_29 (qs_iload_n d_R_why_8 rfl (qs_i2l d_R_why_9 (qs_lconst d_R_why_10 rfl (qs_ldc2 d_R_why_11 (by first | exact wk_1025 | exact (show _ ∈ lw_g from wk_1025)) (qs_invS hc_Ph_tt (fun _ _ _ => trivial) d_R_why_14 zz_R_in wk_903 wk_904 ⟨by decide, by decide⟩ (qs_if_eq (tgt := 29) d_R_why_17 (by decide) sn_R_why_29 (qs_aload_n d_R_why_20 rfl (qs_iload_n d_R_why_21 rfl (qs_iload_n d_R_why_22 rfl (qs_invV hc_Ph_tt (fun _ _ _ => trivial) d_R_why_23 zz_R_whyNot wk_964 ⟨wk_966, wk_31⟩ ⟨_, rfl, rfl⟩ ⟨by decide, by decide⟩ (qs_goto (tgt := 30) d_R_why_26 (by decide) sn_R_why_30)))))))))))))))
/-! BalancedLineModel.station(II)I -/
abbrev M_R_station : hc_M := (⟨"BalancedLineModel", "station", "(II)I"⟩, prog_8_method_36_code, 4, (some .int), 2, 44)
theorem d_R_station_0 : decode (mC M_R_station) 0 = .ok (.iload_n 1, 1) := by decide +kernel
theorem d_R_station_1 : decode (mC M_R_station) 1 = .ok (.i2l, 1) := by decide +kernel
theorem d_R_station_2 : decode (mC M_R_station) 2 = .ok (.lconst 1, 1) := by decide +kernel
theorem d_R_station_3 : decode (mC M_R_station) 3 = .ok (.ldc2_w 144, 3) := by decide +kernel
theorem d_R_station_6 : decode (mC M_R_station) 6 = .ok (.invokestatic 56, 3) := by decide +kernel
theorem d_R_station_9 : decode (mC M_R_station) 9 = .ok (.ifCond .eq 15, 3) := by decide +kernel
theorem d_R_station_12 : decode (mC M_R_station) 12 = .ok (.iload_n 2, 1) := by decide +kernel
theorem d_R_station_13 : decode (mC M_R_station) 13 = .ok (.i2l, 1) := by decide +kernel
theorem d_R_station_14 : decode (mC M_R_station) 14 = .ok (.lconst 0, 1) := by decide +kernel
theorem d_R_station_15 : decode (mC M_R_station) 15 = .ok (.ldc2_w 127, 3) := by decide +kernel
theorem d_R_station_18 : decode (mC M_R_station) 18 = .ok (.invokestatic 56, 3) := by decide +kernel
theorem d_R_station_21 : decode (mC M_R_station) 21 = .ok (.ifCond .ne 5, 3) := by decide +kernel
theorem d_R_station_24 : decode (mC M_R_station) 24 = .ok (.iconst (-1), 1) := by decide +kernel
theorem d_R_station_25 : decode (mC M_R_station) 25 = .ok (.ireturn, 1) := by decide +kernel
theorem d_R_station_26 : decode (mC M_R_station) 26 = .ok (.aload_n 0, 1) := by decide +kernel
theorem d_R_station_27 : decode (mC M_R_station) 27 = .ok (.iload_n 1, 1) := by decide +kernel
theorem d_R_station_28 : decode (mC M_R_station) 28 = .ok (.invokevirtual 138, 3) := by decide +kernel
theorem d_R_station_31 : decode (mC M_R_station) 31 = .ok (.istore_n 3, 1) := by decide +kernel
theorem d_R_station_32 : decode (mC M_R_station) 32 = .ok (.iload_n 2, 1) := by decide +kernel
theorem d_R_station_33 : decode (mC M_R_station) 33 = .ok (.ifCond .ne 7, 3) := by decide +kernel
theorem d_R_station_36 : decode (mC M_R_station) 36 = .ok (.iload_n 3, 1) := by decide +kernel
theorem d_R_station_37 : decode (mC M_R_station) 37 = .ok (.goto 28, 3) := by decide +kernel
theorem d_R_station_40 : decode (mC M_R_station) 40 = .ok (.iload_n 2, 1) := by decide +kernel
theorem d_R_station_41 : decode (mC M_R_station) 41 = .ok (.iconst 1, 1) := by decide +kernel
theorem d_R_station_42 : decode (mC M_R_station) 42 = .ok (.if_icmp .ne 11, 3) := by decide +kernel
theorem d_R_station_45 : decode (mC M_R_station) 45 = .ok (.aload_n 0, 1) := by decide +kernel
theorem d_R_station_46 : decode (mC M_R_station) 46 = .ok (.iload_n 3, 1) := by decide +kernel
theorem d_R_station_47 : decode (mC M_R_station) 47 = .ok (.invokevirtual 141, 3) := by decide +kernel
theorem d_R_station_50 : decode (mC M_R_station) 50 = .ok (.goto 15, 3) := by decide +kernel
theorem d_R_station_53 : decode (mC M_R_station) 53 = .ok (.aload_n 0, 1) := by decide +kernel
theorem d_R_station_54 : decode (mC M_R_station) 54 = .ok (.getfield 13, 3) := by decide +kernel
theorem d_R_station_57 : decode (mC M_R_station) 57 = .ok (.iconst 1, 1) := by decide +kernel
theorem d_R_station_58 : decode (mC M_R_station) 58 = .ok (.iaload, 1) := by decide +kernel
theorem d_R_station_59 : decode (mC M_R_station) 59 = .ok (.aload_n 0, 1) := by decide +kernel
theorem d_R_station_60 : decode (mC M_R_station) 60 = .ok (.iload_n 3, 1) := by decide +kernel
theorem d_R_station_61 : decode (mC M_R_station) 61 = .ok (.invokevirtual 141, 3) := by decide +kernel
theorem d_R_station_64 : decode (mC M_R_station) 64 = .ok (.isub, 1) := by decide +kernel
theorem d_R_station_65 : decode (mC M_R_station) 65 = .ok (.ireturn, 1) := by decide +kernel
def vc_R_station_65 (r : Option Value) (hf : hc_H) (J : Nat → hc_K) (lv : hc_L) (st : List Value) (h : hc_H) : Prop := (qi_iret r hf) lv st h
theorem sn_R_station_65 {Ph : Nat → State → Prop} {h0 hf : hc_H} {r : Option Value} : qk Ph M_R_station h0 hf r 65 (vc_R_station_65 r hf (cx Ph M_R_station h0 hf r)) := (qs_iret d_R_station_65 rfl)
def vc_R_station_53 (r : Option Value) (hf : hc_H) (J : Nat → hc_K) (lv : hc_L) (st : List Value) (h : hc_H) : Prop := (qi_aload 0 (qi_get 6 2 (qi_push (nI 1) (qi_iald 0 (qi_aload 0 (qi_iload 3 (qi_invV hc_tt M_R_timesOf 1 6 (qi_isub (vc_R_station_65 r hf J))))))))) lv st h
theorem sn_R_station_53 {Ph : Nat → State → Prop} {h0 hf : hc_H} {r : Option Value} : qk Ph M_R_station h0 hf r 53 (vc_R_station_53 r hf (cx Ph M_R_station h0 hf r)) := (qs_aload_n d_R_station_53 rfl (qs_get d_R_station_54 ff_R_13 (qs_iconst d_R_station_57 (by decide) (qs_iaload d_R_station_58 (qs_aload_n d_R_station_59 rfl (qs_iload_n d_R_station_60 rfl (qs_invV hc_Ph_tt (fun _ _ _ => trivial) d_R_station_61 zz_R_timesOf wk_980 ⟨wk_982, wk_35⟩ ⟨_, rfl, rfl⟩ ⟨by decide, by decide⟩ (qs_isub d_R_station_64 sn_R_station_65))))))))
def vc_R_station_40 (r : Option Value) (hf : hc_H) (J : Nat → hc_K) (lv : hc_L) (st : List Value) (h : hc_H) : Prop := (qi_iload 2 (qi_push (nI 1) (qi_icmp_ne (vc_R_station_53 r hf J) (qi_aload 0 (qi_iload 3 (qi_invV hc_tt M_R_timesOf 1 6 (vc_R_station_65 r hf J))))))) lv st h
theorem sn_R_station_40 {Ph : Nat → State → Prop} {h0 hf : hc_H} {r : Option Value} : qk Ph M_R_station h0 hf r 40 (vc_R_station_40 r hf (cx Ph M_R_station h0 hf r)) := (qs_iload_n d_R_station_40 rfl (qs_iconst d_R_station_41 (by decide) (qs_icmp_ne (tgt := 53) d_R_station_42 (by decide) sn_R_station_53 (qs_aload_n d_R_station_45 rfl (qs_iload_n d_R_station_46 rfl (qs_invV hc_Ph_tt (fun _ _ _ => trivial) d_R_station_47 zz_R_timesOf wk_980 ⟨wk_982, wk_35⟩ ⟨_, rfl, rfl⟩ ⟨by decide, by decide⟩ (qs_goto (tgt := 65) d_R_station_50 (by decide) sn_R_station_65)))))))
def vc_R_station_26 (r : Option Value) (hf : hc_H) (J : Nat → hc_K) (lv : hc_L) (st : List Value) (h : hc_H) : Prop := (qi_aload 0 (qi_iload 1 (qi_invV hc_tt M_R_putIn 1 6 (qi_istore 3 (qi_iload 2 (qi_if_ne (vc_R_station_40 r hf J) (qi_iload 3 (vc_R_station_65 r hf J)))))))) lv st h
theorem sn_R_station_26 {Ph : Nat → State → Prop} {h0 hf : hc_H} {r : Option Value} : qk Ph M_R_station h0 hf r 26 (vc_R_station_26 r hf (cx Ph M_R_station h0 hf r)) := (qs_aload_n d_R_station_26 rfl (qs_iload_n d_R_station_27 rfl (qs_invV hc_Ph_tt (fun _ _ _ => trivial) d_R_station_28 zz_R_putIn wk_976 ⟨wk_978, wk_34⟩ ⟨_, rfl, rfl⟩ ⟨by decide, by decide⟩ (qs_istore_n d_R_station_31 rfl (by decide) (qs_iload_n d_R_station_32 rfl (qs_if_ne (tgt := 40) d_R_station_33 (by decide) sn_R_station_40 (qs_iload_n d_R_station_36 rfl (qs_goto (tgt := 65) d_R_station_37 (by decide) sn_R_station_65))))))))
def vc_R_station_24 (r : Option Value) (hf : hc_H) (J : Nat → hc_K) (lv : hc_L) (st : List Value) (h : hc_H) : Prop := (qi_push (-1) (qi_iret r hf)) lv st h
theorem sn_R_station_24 {Ph : Nat → State → Prop} {h0 hf : hc_H} {r : Option Value} : qk Ph M_R_station h0 hf r 24 (vc_R_station_24 r hf (cx Ph M_R_station h0 hf r)) := (qs_iconst d_R_station_24 (by decide) (qs_iret d_R_station_25 rfl))
def vc_R_station_0 (r : Option Value) (hf : hc_H) (J : Nat → hc_K) (lv : hc_L) (st : List Value) (h : hc_H) : Prop := (qi_iload 1 (qi_i2l (qi_pushl (lN 1) (qi_pushl (lN 12) (qi_invS hc_tt M_R_in 3 (qi_if_eq (vc_R_station_24 r hf J) (qi_iload 2 (qi_i2l (qi_pushl (lN 0) (qi_pushl (lN 2) (qi_invS hc_tt M_R_in 3 (qi_if_ne (vc_R_station_26 r hf J) (vc_R_station_24 r hf J))))))))))))) lv st h
theorem sn_R_station_0 {Ph : Nat → State → Prop} {h0 hf : hc_H} {r : Option Value} : qk Ph M_R_station h0 hf r 0 (vc_R_station_0 r hf (cx Ph M_R_station h0 hf r)) := (qs_iload_n d_R_station_0 rfl (qs_i2l d_R_station_1 (qs_lconst d_R_station_2 rfl (qs_ldc2 d_R_station_3 (by first | exact wk_1025 | exact (show _ ∈ lw_g from wk_1025)) (qs_invS hc_Ph_tt (fun _ _ _ => trivial) d_R_station_6 zz_R_in wk_903 wk_904 ⟨by decide, by decide⟩ (qs_if_eq (tgt := 24) d_R_station_9 (by decide) sn_R_station_24 (qs_iload_n d_R_station_12 rfl (qs_i2l d_R_station_13 (qs_lconst d_R_station_14 rfl (qs_ldc2 d_R_station_15 (by first | exact wk_1012 | exact (show _ ∈ lw_g from wk_1012)) (qs_invS hc_Ph_tt (fun _ _ _ => trivial) d_R_station_18 zz_R_in wk_903 wk_904 ⟨by decide, by decide⟩ (qs_if_ne (tgt := 26) d_R_station_21 (by decide) sn_R_station_26 sn_R_station_24))))))))))))
/-! BalancedLineModel.where(I)I -/
abbrev M_R_where : hc_M := (⟨"BalancedLineModel", "where", "(I)I"⟩, prog_8_method_37_code, 2, (some .int), 2, 46)
theorem d_R_where_0 : decode (mC M_R_where) 0 = .ok (.aload_n 0, 1) := by decide +kernel
theorem d_R_where_1 : decode (mC M_R_where) 1 = .ok (.iload_n 1, 1) := by decide +kernel
theorem d_R_where_2 : decode (mC M_R_where) 2 = .ok (.invokevirtual 98, 3) := by decide +kernel
theorem d_R_where_5 : decode (mC M_R_where) 5 = .ok (.ifCond .ne 7, 3) := by decide +kernel
theorem d_R_where_8 : decode (mC M_R_where) 8 = .ok (.iconst (-1), 1) := by decide +kernel
theorem d_R_where_9 : decode (mC M_R_where) 9 = .ok (.goto 29, 3) := by decide +kernel
theorem d_R_where_12 : decode (mC M_R_where) 12 = .ok (.aload_n 0, 1) := by decide +kernel
theorem d_R_where_13 : decode (mC M_R_where) 13 = .ok (.getfield 13, 3) := by decide +kernel
theorem d_R_where_16 : decode (mC M_R_where) 16 = .ok (.bipush 50, 2) := by decide +kernel
theorem d_R_where_18 : decode (mC M_R_where) 18 = .ok (.iload_n 1, 1) := by decide +kernel
theorem d_R_where_19 : decode (mC M_R_where) 19 = .ok (.iadd, 1) := by decide +kernel
theorem d_R_where_20 : decode (mC M_R_where) 20 = .ok (.iaload, 1) := by decide +kernel
theorem d_R_where_21 : decode (mC M_R_where) 21 = .ok (.ifCond .le 15, 3) := by decide +kernel
theorem d_R_where_24 : decode (mC M_R_where) 24 = .ok (.aload_n 0, 1) := by decide +kernel
theorem d_R_where_25 : decode (mC M_R_where) 25 = .ok (.getfield 13, 3) := by decide +kernel
theorem d_R_where_28 : decode (mC M_R_where) 28 = .ok (.bipush 50, 2) := by decide +kernel
theorem d_R_where_30 : decode (mC M_R_where) 30 = .ok (.iload_n 1, 1) := by decide +kernel
theorem d_R_where_31 : decode (mC M_R_where) 31 = .ok (.iadd, 1) := by decide +kernel
theorem d_R_where_32 : decode (mC M_R_where) 32 = .ok (.iaload, 1) := by decide +kernel
theorem d_R_where_33 : decode (mC M_R_where) 33 = .ok (.goto 5, 3) := by decide +kernel
theorem d_R_where_36 : decode (mC M_R_where) 36 = .ok (.bipush (-4), 2) := by decide +kernel
theorem d_R_where_38 : decode (mC M_R_where) 38 = .ok (.ireturn, 1) := by decide +kernel
def vc_R_where_38 (r : Option Value) (hf : hc_H) (J : Nat → hc_K) (lv : hc_L) (st : List Value) (h : hc_H) : Prop := (qi_iret r hf) lv st h
theorem sn_R_where_38 {Ph : Nat → State → Prop} {h0 hf : hc_H} {r : Option Value} : qk Ph M_R_where h0 hf r 38 (vc_R_where_38 r hf (cx Ph M_R_where h0 hf r)) := (qs_iret d_R_where_38 rfl)
def vc_R_where_36 (r : Option Value) (hf : hc_H) (J : Nat → hc_K) (lv : hc_L) (st : List Value) (h : hc_H) : Prop := (qi_push (-4) (vc_R_where_38 r hf J)) lv st h
theorem sn_R_where_36 {Ph : Nat → State → Prop} {h0 hf : hc_H} {r : Option Value} : qk Ph M_R_where h0 hf r 36 (vc_R_where_36 r hf (cx Ph M_R_where h0 hf r)) := (qs_bipush d_R_where_36 (by decide) sn_R_where_38)
def vc_R_where_12 (r : Option Value) (hf : hc_H) (J : Nat → hc_K) (lv : hc_L) (st : List Value) (h : hc_H) : Prop := (qi_aload 0 (qi_get 6 2 (qi_push (nI 50) (qi_iload 1 (qi_iadd (qi_iald 0 (qi_if_le (vc_R_where_36 r hf J) (qi_aload 0 (qi_get 6 2 (qi_push (nI 50) (qi_iload 1 (qi_iadd (qi_iald 0 (vc_R_where_38 r hf J)))))))))))))) lv st h
theorem sn_R_where_12 {Ph : Nat → State → Prop} {h0 hf : hc_H} {r : Option Value} : qk Ph M_R_where h0 hf r 12 (vc_R_where_12 r hf (cx Ph M_R_where h0 hf r)) := (qs_aload_n d_R_where_12 rfl (qs_get d_R_where_13 ff_R_13 (qs_bipush d_R_where_16 (by decide) (qs_iload_n d_R_where_18 rfl (qs_iadd d_R_where_19 (qs_iaload d_R_where_20 (qs_if_le (tgt := 36) d_R_where_21 (by decide) sn_R_where_36 (qs_aload_n d_R_where_24 rfl (qs_get d_R_where_25 ff_R_13 (qs_bipush d_R_where_28 (by decide) (qs_iload_n d_R_where_30 rfl (qs_iadd d_R_where_31 (qs_iaload d_R_where_32 (qs_goto (tgt := 38) d_R_where_33 (by decide) sn_R_where_38))))))))))))))
def vc_R_where_0 (r : Option Value) (hf : hc_H) (J : Nat → hc_K) (lv : hc_L) (st : List Value) (h : hc_H) : Prop := (qi_aload 0 (qi_iload 1 (qi_invV hc_tt M_R_isTask 1 6 (qi_if_ne (vc_R_where_12 r hf J) (qi_push (-1) (vc_R_where_38 r hf J)))))) lv st h
theorem sn_R_where_0 {Ph : Nat → State → Prop} {h0 hf : hc_H} {r : Option Value} : qk Ph M_R_where h0 hf r 0 (vc_R_where_0 r hf (cx Ph M_R_where h0 hf r)) := (qs_aload_n d_R_where_0 rfl (qs_iload_n d_R_where_1 rfl (qs_invV hc_Ph_tt (fun _ _ _ => trivial) d_R_where_2 zz_R_isTask wk_988 ⟨wk_990, wk_36⟩ ⟨_, rfl, rfl⟩ ⟨by decide, by decide⟩ (qs_if_ne (tgt := 12) d_R_where_5 (by decide) sn_R_where_12 (qs_iconst d_R_where_8 (by decide) (qs_goto (tgt := 38) d_R_where_9 (by decide) sn_R_where_38))))))
/-! BalancedLineModel.all()I -/
abbrev M_R_all : hc_M := (⟨"BalancedLineModel", "all", "()I"⟩, prog_8_method_38_code, 1, (some .int), 0, 0)
theorem d_R_all_0 : decode (mC M_R_all) 0 = .ok (.iconst 1, 1) := by decide +kernel
theorem d_R_all_1 : decode (mC M_R_all) 1 = .ok (.aload_n 0, 1) := by decide +kernel
theorem d_R_all_2 : decode (mC M_R_all) 2 = .ok (.getfield 13, 3) := by decide +kernel
theorem d_R_all_5 : decode (mC M_R_all) 5 = .ok (.iconst 0, 1) := by decide +kernel
theorem d_R_all_6 : decode (mC M_R_all) 6 = .ok (.iaload, 1) := by decide +kernel
theorem d_R_all_7 : decode (mC M_R_all) 7 = .ok (.ishl, 1) := by decide +kernel
theorem d_R_all_8 : decode (mC M_R_all) 8 = .ok (.iconst 1, 1) := by decide +kernel
theorem d_R_all_9 : decode (mC M_R_all) 9 = .ok (.isub, 1) := by decide +kernel
theorem d_R_all_10 : decode (mC M_R_all) 10 = .ok (.ireturn, 1) := by decide +kernel
def vc_R_all_0 (r : Option Value) (hf : hc_H) (J : Nat → hc_K) (lv : hc_L) (st : List Value) (h : hc_H) : Prop := (qi_push (nI 1) (qi_aload 0 (qi_get 6 2 (qi_push (nI 0) (qi_iald 0 (qi_ishl (qi_push (nI 1) (qi_isub (qi_iret r hf))))))))) lv st h
theorem sn_R_all_0 {Ph : Nat → State → Prop} {h0 hf : hc_H} {r : Option Value} : qk Ph M_R_all h0 hf r 0 (vc_R_all_0 r hf (cx Ph M_R_all h0 hf r)) := (qs_iconst d_R_all_0 (by decide) (qs_aload_n d_R_all_1 rfl (qs_get d_R_all_2 ff_R_13 (qs_iconst d_R_all_5 (by decide) (qs_iaload d_R_all_6 (qs_ishl d_R_all_7 (qs_iconst d_R_all_8 (by decide) (qs_isub d_R_all_9 (qs_iret d_R_all_10 rfl)))))))))
/-! BalancedLineModel.isGood(II)Z -/
abbrev M_R_isGood : hc_M := (⟨"BalancedLineModel", "isGood", "(II)Z"⟩, prog_8_method_39_code, 5, (some .boolean), 2, 44)
theorem d_R_isGood_0 : decode (mC M_R_isGood) 0 = .ok (.iload_n 1, 1) := by decide +kernel
theorem d_R_isGood_1 : decode (mC M_R_isGood) 1 = .ok (.ifCond .le 16, 3) := by decide +kernel
theorem d_R_isGood_4 : decode (mC M_R_isGood) 4 = .ok (.aload_n 0, 1) := by decide +kernel
theorem d_R_isGood_5 : decode (mC M_R_isGood) 5 = .ok (.iload_n 1, 1) := by decide +kernel
theorem d_R_isGood_6 : decode (mC M_R_isGood) 6 = .ok (.invokevirtual 141, 3) := by decide +kernel
theorem d_R_isGood_9 : decode (mC M_R_isGood) 9 = .ok (.iload_n 2, 1) := by decide +kernel
theorem d_R_isGood_10 : decode (mC M_R_isGood) 10 = .ok (.if_icmp .gt 7, 3) := by decide +kernel
theorem d_R_isGood_13 : decode (mC M_R_isGood) 13 = .ok (.iconst 1, 1) := by decide +kernel
theorem d_R_isGood_14 : decode (mC M_R_isGood) 14 = .ok (.goto 4, 3) := by decide +kernel
theorem d_R_isGood_17 : decode (mC M_R_isGood) 17 = .ok (.iconst 0, 1) := by decide +kernel
theorem d_R_isGood_18 : decode (mC M_R_isGood) 18 = .ok (.istore_n 3, 1) := by decide +kernel
theorem d_R_isGood_19 : decode (mC M_R_isGood) 19 = .ok (.iconst 0, 1) := by decide +kernel
theorem d_R_isGood_20 : decode (mC M_R_isGood) 20 = .ok (.istore 4, 2) := by decide +kernel
theorem d_R_isGood_22 : decode (mC M_R_isGood) 22 = .ok (.iload 4, 2) := by decide +kernel
theorem d_R_isGood_24 : decode (mC M_R_isGood) 24 = .ok (.aload_n 0, 1) := by decide +kernel
theorem d_R_isGood_25 : decode (mC M_R_isGood) 25 = .ok (.getfield 13, 3) := by decide +kernel
theorem d_R_isGood_28 : decode (mC M_R_isGood) 28 = .ok (.iconst 0, 1) := by decide +kernel
theorem d_R_isGood_29 : decode (mC M_R_isGood) 29 = .ok (.iaload, 1) := by decide +kernel
theorem d_R_isGood_30 : decode (mC M_R_isGood) 30 = .ok (.if_icmp .ge 60, 3) := by decide +kernel
theorem d_R_isGood_33 : decode (mC M_R_isGood) 33 = .ok (.iload_n 3, 1) := by decide +kernel
theorem d_R_isGood_34 : decode (mC M_R_isGood) 34 = .ok (.ifCond .eq 56, 3) := by decide +kernel
theorem d_R_isGood_37 : decode (mC M_R_isGood) 37 = .ok (.iload_n 1, 1) := by decide +kernel
theorem d_R_isGood_38 : decode (mC M_R_isGood) 38 = .ok (.iload 4, 2) := by decide +kernel
theorem d_R_isGood_40 : decode (mC M_R_isGood) 40 = .ok (.invokestatic 48, 3) := by decide +kernel
theorem d_R_isGood_43 : decode (mC M_R_isGood) 43 = .ok (.ifCond .eq 35, 3) := by decide +kernel
theorem d_R_isGood_46 : decode (mC M_R_isGood) 46 = .ok (.aload_n 0, 1) := by decide +kernel
theorem d_R_isGood_47 : decode (mC M_R_isGood) 47 = .ok (.getfield 13, 3) := by decide +kernel
theorem d_R_isGood_50 : decode (mC M_R_isGood) 50 = .ok (.bipush 26, 2) := by decide +kernel
theorem d_R_isGood_52 : decode (mC M_R_isGood) 52 = .ok (.iload 4, 2) := by decide +kernel
theorem d_R_isGood_54 : decode (mC M_R_isGood) 54 = .ok (.iadd, 1) := by decide +kernel
theorem d_R_isGood_55 : decode (mC M_R_isGood) 55 = .ok (.iaload, 1) := by decide +kernel
theorem d_R_isGood_56 : decode (mC M_R_isGood) 56 = .ok (.iload_n 1, 1) := by decide +kernel
theorem d_R_isGood_57 : decode (mC M_R_isGood) 57 = .ok (.iand, 1) := by decide +kernel
theorem d_R_isGood_58 : decode (mC M_R_isGood) 58 = .ok (.ifCond .ne 24, 3) := by decide +kernel
theorem d_R_isGood_61 : decode (mC M_R_isGood) 61 = .ok (.aload_n 0, 1) := by decide +kernel
theorem d_R_isGood_62 : decode (mC M_R_isGood) 62 = .ok (.getfield 13, 3) := by decide +kernel
theorem d_R_isGood_65 : decode (mC M_R_isGood) 65 = .ok (.bipush 38, 2) := by decide +kernel
theorem d_R_isGood_67 : decode (mC M_R_isGood) 67 = .ok (.iload 4, 2) := by decide +kernel
theorem d_R_isGood_69 : decode (mC M_R_isGood) 69 = .ok (.iadd, 1) := by decide +kernel
theorem d_R_isGood_70 : decode (mC M_R_isGood) 70 = .ok (.iaload, 1) := by decide +kernel
theorem d_R_isGood_71 : decode (mC M_R_isGood) 71 = .ok (.iload_n 1, 1) := by decide +kernel
theorem d_R_isGood_72 : decode (mC M_R_isGood) 72 = .ok (.iconst (-1), 1) := by decide +kernel
theorem d_R_isGood_73 : decode (mC M_R_isGood) 73 = .ok (.ixor, 1) := by decide +kernel
theorem d_R_isGood_74 : decode (mC M_R_isGood) 74 = .ok (.iand, 1) := by decide +kernel
theorem d_R_isGood_75 : decode (mC M_R_isGood) 75 = .ok (.ifCond .ne 7, 3) := by decide +kernel
theorem d_R_isGood_78 : decode (mC M_R_isGood) 78 = .ok (.iconst 1, 1) := by decide +kernel
theorem d_R_isGood_79 : decode (mC M_R_isGood) 79 = .ok (.goto 4, 3) := by decide +kernel
theorem d_R_isGood_82 : decode (mC M_R_isGood) 82 = .ok (.iconst 0, 1) := by decide +kernel
theorem d_R_isGood_83 : decode (mC M_R_isGood) 83 = .ok (.istore_n 3, 1) := by decide +kernel
theorem d_R_isGood_84 : decode (mC M_R_isGood) 84 = .ok (.iinc 4 1, 3) := by decide +kernel
theorem d_R_isGood_87 : decode (mC M_R_isGood) 87 = .ok (.goto (-65), 3) := by decide +kernel
theorem d_R_isGood_90 : decode (mC M_R_isGood) 90 = .ok (.iload_n 3, 1) := by decide +kernel
theorem d_R_isGood_91 : decode (mC M_R_isGood) 91 = .ok (.ireturn, 1) := by decide +kernel
def vc_R_isGood_90 (r : Option Value) (hf : hc_H) (J : Nat → hc_K) (lv : hc_L) (st : List Value) (h : hc_H) : Prop := (qi_iload 3 (qi_zret r hf)) lv st h
theorem sn_R_isGood_90 {Ph : Nat → State → Prop} {h0 hf : hc_H} {r : Option Value} : qk Ph M_R_isGood h0 hf r 90 (vc_R_isGood_90 r hf (cx Ph M_R_isGood h0 hf r)) := (qs_iload_n d_R_isGood_90 rfl (qs_zret d_R_isGood_91 rfl))
def vc_R_isGood_83 (r : Option Value) (hf : hc_H) (J : Nat → hc_K) (lv : hc_L) (st : List Value) (h : hc_H) : Prop := (qi_istore 3 (qi_iinc 4 (nI 1) (J 22))) lv st h
theorem sn_R_isGood_83 {Ph : Nat → State → Prop} {h0 hf : hc_H} {r : Option Value} : qk Ph M_R_isGood h0 hf r 83 (vc_R_isGood_83 r hf (cx Ph M_R_isGood h0 hf r)) := (qs_istore_n d_R_isGood_83 rfl (by decide) (qs_iinc d_R_isGood_84 (by decide) (by decide) (qs_goto (tgt := 22) d_R_isGood_87 (by decide) (fun _ _ _ h9 => h9))))
def vc_R_isGood_82 (r : Option Value) (hf : hc_H) (J : Nat → hc_K) (lv : hc_L) (st : List Value) (h : hc_H) : Prop := (qi_push (nI 0) (vc_R_isGood_83 r hf J)) lv st h
theorem sn_R_isGood_82 {Ph : Nat → State → Prop} {h0 hf : hc_H} {r : Option Value} : qk Ph M_R_isGood h0 hf r 82 (vc_R_isGood_82 r hf (cx Ph M_R_isGood h0 hf r)) := (qs_iconst d_R_isGood_82 (by decide) sn_R_isGood_83)
def vc_R_isGood_78 (r : Option Value) (hf : hc_H) (J : Nat → hc_K) (lv : hc_L) (st : List Value) (h : hc_H) : Prop := (qi_push (nI 1) (vc_R_isGood_83 r hf J)) lv st h
theorem sn_R_isGood_78 {Ph : Nat → State → Prop} {h0 hf : hc_H} {r : Option Value} : qk Ph M_R_isGood h0 hf r 78 (vc_R_isGood_78 r hf (cx Ph M_R_isGood h0 hf r)) := (qs_iconst d_R_isGood_78 (by decide) (qs_goto (tgt := 83) d_R_isGood_79 (by decide) sn_R_isGood_83))
def vc_R_isGood_22 (r : Option Value) (hf : hc_H) (J : Nat → hc_K) (lv : hc_L) (st : List Value) (h : hc_H) : Prop := (qi_iload 4 (qi_aload 0 (qi_get 6 2 (qi_push (nI 0) (qi_iald 0 (qi_icmp_ge (vc_R_isGood_90 r hf J) (qi_iload 3 (qi_if_eq (vc_R_isGood_90 r hf J) (qi_iload 1 (qi_iload 4 (qi_invS hc_tt M_R_has 2 (qi_if_eq (vc_R_isGood_78 r hf J) (qi_aload 0 (qi_get 6 2 (qi_push (nI 26) (qi_iload 4 (qi_iadd (qi_iald 0 (qi_iload 1 (qi_iand (qi_if_ne (vc_R_isGood_82 r hf J) (qi_aload 0 (qi_get 6 2 (qi_push (nI 38) (qi_iload 4 (qi_iadd (qi_iald 0 (qi_iload 1 (qi_push (-1) (qi_ixor (qi_iand (qi_if_ne (vc_R_isGood_82 r hf J) (vc_R_isGood_78 r hf J))))))))))))))))))))))))))))))))) lv st h
theorem sn_R_isGood_22 {Ph : Nat → State → Prop} {h0 hf : hc_H} {r : Option Value} : qk Ph M_R_isGood h0 hf r 22 (vc_R_isGood_22 r hf (cx Ph M_R_isGood h0 hf r)) := (qs_iload d_R_isGood_22 (qs_aload_n d_R_isGood_24 rfl (qs_get d_R_isGood_25 ff_R_13 (qs_iconst d_R_isGood_28 (by decide) (qs_iaload d_R_isGood_29 (qs_icmp_ge (tgt := 90) d_R_isGood_30 (by decide) sn_R_isGood_90 (qs_iload_n d_R_isGood_33 rfl (qs_if_eq (tgt := 90) d_R_isGood_34 (by decide) sn_R_isGood_90 (qs_iload_n d_R_isGood_37 rfl (qs_iload d_R_isGood_38 (qs_invS hc_Ph_tt (fun _ _ _ => trivial) d_R_isGood_40 zz_R_has wk_932 wk_933 ⟨by decide, by decide⟩ (qs_if_eq (tgt := 78) d_R_isGood_43 (by decide) sn_R_isGood_78 (qs_aload_n d_R_isGood_46 rfl (qs_get d_R_isGood_47 ff_R_13 (qs_bipush d_R_isGood_50 (by decide) (qs_iload d_R_isGood_52 (qs_iadd d_R_isGood_54 (qs_iaload d_R_isGood_55 (qs_iload_n d_R_isGood_56 rfl (qs_iand d_R_isGood_57 (qs_if_ne (tgt := 82) d_R_isGood_58 (by decide) sn_R_isGood_82 (qs_aload_n d_R_isGood_61 rfl (qs_get d_R_isGood_62 ff_R_13 (qs_bipush d_R_isGood_65 (by decide) (qs_iload d_R_isGood_67 (qs_iadd d_R_isGood_69 (qs_iaload d_R_isGood_70 (qs_iload_n d_R_isGood_71 rfl (qs_iconst d_R_isGood_72 (by decide) (qs_ixor d_R_isGood_73 (qs_iand d_R_isGood_74 (qs_if_ne (tgt := 82) d_R_isGood_75 (by decide) sn_R_isGood_82 sn_R_isGood_78))))))))))))))))))))))))))))))))
def vc_R_isGood_18 (r : Option Value) (hf : hc_H) (J : Nat → hc_K) (lv : hc_L) (st : List Value) (h : hc_H) : Prop := (qi_istore 3 (qi_push (nI 0) (qi_istore 4 (J 22)))) lv st h
theorem sn_R_isGood_18 {Ph : Nat → State → Prop} {h0 hf : hc_H} {r : Option Value} : qk Ph M_R_isGood h0 hf r 18 (vc_R_isGood_18 r hf (cx Ph M_R_isGood h0 hf r)) := (qs_istore_n d_R_isGood_18 rfl (by decide) (qs_iconst d_R_isGood_19 (by decide) (qs_istore d_R_isGood_20 (by decide) (fun _ _ _ h9 => h9))))
def vc_R_isGood_17 (r : Option Value) (hf : hc_H) (J : Nat → hc_K) (lv : hc_L) (st : List Value) (h : hc_H) : Prop := (qi_push (nI 0) (vc_R_isGood_18 r hf J)) lv st h
theorem sn_R_isGood_17 {Ph : Nat → State → Prop} {h0 hf : hc_H} {r : Option Value} : qk Ph M_R_isGood h0 hf r 17 (vc_R_isGood_17 r hf (cx Ph M_R_isGood h0 hf r)) := (qs_iconst d_R_isGood_17 (by decide) sn_R_isGood_18)
def vc_R_isGood_0 (r : Option Value) (hf : hc_H) (J : Nat → hc_K) (lv : hc_L) (st : List Value) (h : hc_H) : Prop := (qi_iload 1 (qi_if_le (vc_R_isGood_17 r hf J) (qi_aload 0 (qi_iload 1 (qi_invV hc_tt M_R_timesOf 1 6 (qi_iload 2 (qi_icmp_gt (vc_R_isGood_17 r hf J) (qi_push (nI 1) (vc_R_isGood_18 r hf J))))))))) lv st h
theorem sn_R_isGood_0 {Ph : Nat → State → Prop} {h0 hf : hc_H} {r : Option Value} : qk Ph M_R_isGood h0 hf r 0 (vc_R_isGood_0 r hf (cx Ph M_R_isGood h0 hf r)) := (qs_iload_n d_R_isGood_0 rfl (qs_if_le (tgt := 17) d_R_isGood_1 (by decide) sn_R_isGood_17 (qs_aload_n d_R_isGood_4 rfl (qs_iload_n d_R_isGood_5 rfl (qs_invV hc_Ph_tt (fun _ _ _ => trivial) d_R_isGood_6 zz_R_timesOf wk_980 ⟨wk_982, wk_35⟩ ⟨_, rfl, rfl⟩ ⟨by decide, by decide⟩ (qs_iload_n d_R_isGood_9 rfl (qs_icmp_gt (tgt := 17) d_R_isGood_10 (by decide) sn_R_isGood_17 (qs_iconst d_R_isGood_13 (by decide) (qs_goto (tgt := 18) d_R_isGood_14 (by decide) sn_R_isGood_18)))))))))
theorem zz_R_isGood : hc_z M_R_isGood 2 := ⟨wk_1065, wk_66, by decide +kernel⟩
theorem zz_R_all : hc_z M_R_all 0 := ⟨wk_1061, wk_66, by decide +kernel⟩
/-! BalancedLineModel.findGood(I)V -/
abbrev M_R_findGood : hc_M := (⟨"BalancedLineModel", "findGood", "(I)V"⟩, prog_8_method_40_code, 4, none, 3, 68)
theorem d_R_findGood_0 : decode (mC M_R_findGood) 0 = .ok (.iconst 0, 1) := by decide +kernel
theorem d_R_findGood_1 : decode (mC M_R_findGood) 1 = .ok (.istore_n 2, 1) := by decide +kernel
theorem d_R_findGood_2 : decode (mC M_R_findGood) 2 = .ok (.iload_n 2, 1) := by decide +kernel
theorem d_R_findGood_3 : decode (mC M_R_findGood) 3 = .ok (.aload_n 0, 1) := by decide +kernel
theorem d_R_findGood_4 : decode (mC M_R_findGood) 4 = .ok (.invokevirtual 146, 3) := by decide +kernel
theorem d_R_findGood_7 : decode (mC M_R_findGood) 7 = .ok (.if_icmp .gt 76, 3) := by decide +kernel
theorem d_R_findGood_10 : decode (mC M_R_findGood) 10 = .ok (.aload_n 0, 1) := by decide +kernel
theorem d_R_findGood_11 : decode (mC M_R_findGood) 11 = .ok (.getfield 22, 3) := by decide +kernel
theorem d_R_findGood_14 : decode (mC M_R_findGood) 14 = .ok (.iload_n 2, 1) := by decide +kernel
theorem d_R_findGood_15 : decode (mC M_R_findGood) 15 = .ok (.iconst 0, 1) := by decide +kernel
theorem d_R_findGood_16 : decode (mC M_R_findGood) 16 = .ok (.iastore, 1) := by decide +kernel
theorem d_R_findGood_17 : decode (mC M_R_findGood) 17 = .ok (.iconst 0, 1) := by decide +kernel
theorem d_R_findGood_18 : decode (mC M_R_findGood) 18 = .ok (.istore_n 3, 1) := by decide +kernel
theorem d_R_findGood_19 : decode (mC M_R_findGood) 19 = .ok (.iload_n 3, 1) := by decide +kernel
theorem d_R_findGood_20 : decode (mC M_R_findGood) 20 = .ok (.aload_n 0, 1) := by decide +kernel
theorem d_R_findGood_21 : decode (mC M_R_findGood) 21 = .ok (.getfield 13, 3) := by decide +kernel
theorem d_R_findGood_24 : decode (mC M_R_findGood) 24 = .ok (.iconst 0, 1) := by decide +kernel
theorem d_R_findGood_25 : decode (mC M_R_findGood) 25 = .ok (.iaload, 1) := by decide +kernel
theorem d_R_findGood_26 : decode (mC M_R_findGood) 26 = .ok (.if_icmp .ge 39, 3) := by decide +kernel
theorem d_R_findGood_29 : decode (mC M_R_findGood) 29 = .ok (.aload_n 0, 1) := by decide +kernel
theorem d_R_findGood_30 : decode (mC M_R_findGood) 30 = .ok (.getfield 22, 3) := by decide +kernel
theorem d_R_findGood_33 : decode (mC M_R_findGood) 33 = .ok (.iload_n 2, 1) := by decide +kernel
theorem d_R_findGood_34 : decode (mC M_R_findGood) 34 = .ok (.dup2, 1) := by decide +kernel
theorem d_R_findGood_35 : decode (mC M_R_findGood) 35 = .ok (.iaload, 1) := by decide +kernel
theorem d_R_findGood_36 : decode (mC M_R_findGood) 36 = .ok (.iload_n 2, 1) := by decide +kernel
theorem d_R_findGood_37 : decode (mC M_R_findGood) 37 = .ok (.iload_n 3, 1) := by decide +kernel
theorem d_R_findGood_38 : decode (mC M_R_findGood) 38 = .ok (.invokestatic 48, 3) := by decide +kernel
theorem d_R_findGood_41 : decode (mC M_R_findGood) 41 = .ok (.ifCond .eq 15, 3) := by decide +kernel
theorem d_R_findGood_44 : decode (mC M_R_findGood) 44 = .ok (.aload_n 0, 1) := by decide +kernel
theorem d_R_findGood_45 : decode (mC M_R_findGood) 45 = .ok (.getfield 13, 3) := by decide +kernel
theorem d_R_findGood_48 : decode (mC M_R_findGood) 48 = .ok (.bipush 14, 2) := by decide +kernel
theorem d_R_findGood_50 : decode (mC M_R_findGood) 50 = .ok (.iload_n 3, 1) := by decide +kernel
theorem d_R_findGood_51 : decode (mC M_R_findGood) 51 = .ok (.iadd, 1) := by decide +kernel
theorem d_R_findGood_52 : decode (mC M_R_findGood) 52 = .ok (.iaload, 1) := by decide +kernel
theorem d_R_findGood_53 : decode (mC M_R_findGood) 53 = .ok (.goto 4, 3) := by decide +kernel
theorem d_R_findGood_56 : decode (mC M_R_findGood) 56 = .ok (.iconst 0, 1) := by decide +kernel
theorem d_R_findGood_57 : decode (mC M_R_findGood) 57 = .ok (.ior, 1) := by decide +kernel
theorem d_R_findGood_58 : decode (mC M_R_findGood) 58 = .ok (.iastore, 1) := by decide +kernel
theorem d_R_findGood_59 : decode (mC M_R_findGood) 59 = .ok (.iinc 3 1, 3) := by decide +kernel
theorem d_R_findGood_62 : decode (mC M_R_findGood) 62 = .ok (.goto (-43), 3) := by decide +kernel
theorem d_R_findGood_65 : decode (mC M_R_findGood) 65 = .ok (.aload_n 0, 1) := by decide +kernel
theorem d_R_findGood_66 : decode (mC M_R_findGood) 66 = .ok (.getfield 25, 3) := by decide +kernel
theorem d_R_findGood_69 : decode (mC M_R_findGood) 69 = .ok (.iload_n 2, 1) := by decide +kernel
theorem d_R_findGood_70 : decode (mC M_R_findGood) 70 = .ok (.aload_n 0, 1) := by decide +kernel
theorem d_R_findGood_71 : decode (mC M_R_findGood) 71 = .ok (.iload_n 2, 1) := by decide +kernel
theorem d_R_findGood_72 : decode (mC M_R_findGood) 72 = .ok (.iload_n 1, 1) := by decide +kernel
theorem d_R_findGood_73 : decode (mC M_R_findGood) 73 = .ok (.invokevirtual 149, 3) := by decide +kernel
theorem d_R_findGood_76 : decode (mC M_R_findGood) 76 = .ok (.bastore, 1) := by decide +kernel
theorem d_R_findGood_77 : decode (mC M_R_findGood) 77 = .ok (.iinc 2 1, 3) := by decide +kernel
theorem d_R_findGood_80 : decode (mC M_R_findGood) 80 = .ok (.goto (-78), 3) := by decide +kernel
theorem d_R_findGood_83 : decode (mC M_R_findGood) 83 = .ok (.return_, 1) := by decide +kernel
def vc_R_findGood_83 (r : Option Value) (hf : hc_H) (J : Nat → hc_K) (lv : hc_L) (st : List Value) (h : hc_H) : Prop := (qi_vret r hf) lv st h
theorem sn_R_findGood_83 {Ph : Nat → State → Prop} {h0 hf : hc_H} {r : Option Value} : qk Ph M_R_findGood h0 hf r 83 (vc_R_findGood_83 r hf (cx Ph M_R_findGood h0 hf r)) := (qs_vret d_R_findGood_83 rfl)
def vc_R_findGood_65 (r : Option Value) (hf : hc_H) (J : Nat → hc_K) (lv : hc_L) (st : List Value) (h : hc_H) : Prop := (qi_aload 0 (qi_get 6 8 (qi_iload 2 (qi_aload 0 (qi_iload 2 (qi_iload 1 (qi_invV hc_tt M_R_isGood 2 6 (qi_zast (qi_iinc 2 (nI 1) (J 2)))))))))) lv st h
theorem sn_R_findGood_65 {Ph : Nat → State → Prop} {h0 hf : hc_H} {r : Option Value} : qk Ph M_R_findGood h0 hf r 65 (vc_R_findGood_65 r hf (cx Ph M_R_findGood h0 hf r)) := (qs_aload_n d_R_findGood_65 rfl (qs_get d_R_findGood_66 ff_R_25 (qs_iload_n d_R_findGood_69 rfl (qs_aload_n d_R_findGood_70 rfl (qs_iload_n d_R_findGood_71 rfl (qs_iload_n d_R_findGood_72 rfl (qs_invV hc_Ph_tt (fun _ _ _ => trivial) d_R_findGood_73 zz_R_isGood wk_1062 ⟨wk_1064, wk_44⟩ ⟨_, rfl, rfl⟩ ⟨by decide, by decide⟩ (qs_bastore d_R_findGood_76 (qs_iinc d_R_findGood_77 (by decide) (by decide) (qs_goto (tgt := 2) d_R_findGood_80 (by decide) (fun _ _ _ h9 => h9)))))))))))
def vc_R_findGood_57 (r : Option Value) (hf : hc_H) (J : Nat → hc_K) (lv : hc_L) (st : List Value) (h : hc_H) : Prop := (qi_ior (qi_iast (qi_iinc 3 (nI 1) (J 19)))) lv st h
theorem sn_R_findGood_57 {Ph : Nat → State → Prop} {h0 hf : hc_H} {r : Option Value} : qk Ph M_R_findGood h0 hf r 57 (vc_R_findGood_57 r hf (cx Ph M_R_findGood h0 hf r)) := (qs_ior d_R_findGood_57 (qs_iastore d_R_findGood_58 (qs_iinc d_R_findGood_59 (by decide) (by decide) (qs_goto (tgt := 19) d_R_findGood_62 (by decide) (fun _ _ _ h9 => h9)))))
def vc_R_findGood_56 (r : Option Value) (hf : hc_H) (J : Nat → hc_K) (lv : hc_L) (st : List Value) (h : hc_H) : Prop := (qi_push (nI 0) (vc_R_findGood_57 r hf J)) lv st h
theorem sn_R_findGood_56 {Ph : Nat → State → Prop} {h0 hf : hc_H} {r : Option Value} : qk Ph M_R_findGood h0 hf r 56 (vc_R_findGood_56 r hf (cx Ph M_R_findGood h0 hf r)) := (qs_iconst d_R_findGood_56 (by decide) sn_R_findGood_57)
def vc_R_findGood_19 (r : Option Value) (hf : hc_H) (J : Nat → hc_K) (lv : hc_L) (st : List Value) (h : hc_H) : Prop := (qi_iload 3 (qi_aload 0 (qi_get 6 2 (qi_push (nI 0) (qi_iald 0 (qi_icmp_ge (vc_R_findGood_65 r hf J) (qi_aload 0 (qi_get 6 7 (qi_iload 2 (qi_dup2 (qi_iald 0 (qi_iload 2 (qi_iload 3 (qi_invS hc_tt M_R_has 2 (qi_if_eq (vc_R_findGood_56 r hf J) (qi_aload 0 (qi_get 6 2 (qi_push (nI 14) (qi_iload 3 (qi_iadd (qi_iald 0 (vc_R_findGood_57 r hf J)))))))))))))))))))))) lv st h
theorem sn_R_findGood_19 {Ph : Nat → State → Prop} {h0 hf : hc_H} {r : Option Value} : qk Ph M_R_findGood h0 hf r 19 (vc_R_findGood_19 r hf (cx Ph M_R_findGood h0 hf r)) := (qs_iload_n d_R_findGood_19 rfl (qs_aload_n d_R_findGood_20 rfl (qs_get d_R_findGood_21 ff_R_13 (qs_iconst d_R_findGood_24 (by decide) (qs_iaload d_R_findGood_25 (qs_icmp_ge (tgt := 65) d_R_findGood_26 (by decide) sn_R_findGood_65 (qs_aload_n d_R_findGood_29 rfl (qs_get d_R_findGood_30 ff_R_22 (qs_iload_n d_R_findGood_33 rfl (qs_dup2 d_R_findGood_34 (qs_iaload d_R_findGood_35 (qs_iload_n d_R_findGood_36 rfl (qs_iload_n d_R_findGood_37 rfl (qs_invS hc_Ph_tt (fun _ _ _ => trivial) d_R_findGood_38 zz_R_has wk_932 wk_933 ⟨by decide, by decide⟩ (qs_if_eq (tgt := 56) d_R_findGood_41 (by decide) sn_R_findGood_56 (qs_aload_n d_R_findGood_44 rfl (qs_get d_R_findGood_45 ff_R_13 (qs_bipush d_R_findGood_48 (by decide) (qs_iload_n d_R_findGood_50 rfl (qs_iadd d_R_findGood_51 (qs_iaload d_R_findGood_52 (qs_goto (tgt := 57) d_R_findGood_53 (by decide) sn_R_findGood_57))))))))))))))))))))))
def vc_R_findGood_2 (r : Option Value) (hf : hc_H) (J : Nat → hc_K) (lv : hc_L) (st : List Value) (h : hc_H) : Prop := (qi_iload 2 (qi_aload 0 (qi_invV hc_tt M_R_all 0 6 (qi_icmp_gt (vc_R_findGood_83 r hf J) (qi_aload 0 (qi_get 6 7 (qi_iload 2 (qi_push (nI 0) (qi_iast (qi_push (nI 0) (qi_istore 3 (J 19)))))))))))) lv st h
theorem sn_R_findGood_2 {Ph : Nat → State → Prop} {h0 hf : hc_H} {r : Option Value} : qk Ph M_R_findGood h0 hf r 2 (vc_R_findGood_2 r hf (cx Ph M_R_findGood h0 hf r)) := (qs_iload_n d_R_findGood_2 rfl (qs_aload_n d_R_findGood_3 rfl (qs_invV hc_Ph_tt (fun _ _ _ => trivial) d_R_findGood_4 zz_R_all wk_1058 ⟨wk_1060, wk_43⟩ ⟨_, rfl, rfl⟩ ⟨by decide, by decide⟩ (qs_icmp_gt (tgt := 83) d_R_findGood_7 (by decide) sn_R_findGood_83 (qs_aload_n d_R_findGood_10 rfl (qs_get d_R_findGood_11 ff_R_22 (qs_iload_n d_R_findGood_14 rfl (qs_iconst d_R_findGood_15 (by decide) (qs_iastore d_R_findGood_16 (qs_iconst d_R_findGood_17 (by decide) (qs_istore_n d_R_findGood_18 rfl (by decide) (fun _ _ _ h9 => h9))))))))))))
def vc_R_findGood_0 (r : Option Value) (hf : hc_H) (J : Nat → hc_K) (lv : hc_L) (st : List Value) (h : hc_H) : Prop := (qi_push (nI 0) (qi_istore 2 (J 2))) lv st h
theorem sn_R_findGood_0 {Ph : Nat → State → Prop} {h0 hf : hc_H} {r : Option Value} : qk Ph M_R_findGood h0 hf r 0 (vc_R_findGood_0 r hf (cx Ph M_R_findGood h0 hf r)) := (qs_iconst d_R_findGood_0 (by decide) (qs_istore_n d_R_findGood_1 rfl (by decide) (fun _ _ _ h9 => h9)))
/-! BalancedLineModel.isNext(II)Z -/
abbrev M_R_isNext : hc_M := (⟨"BalancedLineModel", "isNext", "(II)Z"⟩, prog_8_method_41_code, 3, (some .boolean), 0, 0)
theorem d_R_isNext_0 : decode (mC M_R_isNext) 0 = .ok (.aload_n 0, 1) := by decide +kernel
theorem d_R_isNext_1 : decode (mC M_R_isNext) 1 = .ok (.getfield 25, 3) := by decide +kernel
theorem d_R_isNext_4 : decode (mC M_R_isNext) 4 = .ok (.iload_n 2, 1) := by decide +kernel
theorem d_R_isNext_5 : decode (mC M_R_isNext) 5 = .ok (.baload, 1) := by decide +kernel
theorem d_R_isNext_6 : decode (mC M_R_isNext) 6 = .ok (.ifCond .eq 22, 3) := by decide +kernel
theorem d_R_isNext_9 : decode (mC M_R_isNext) 9 = .ok (.aload_n 0, 1) := by decide +kernel
theorem d_R_isNext_10 : decode (mC M_R_isNext) 10 = .ok (.getfield 22, 3) := by decide +kernel
theorem d_R_isNext_13 : decode (mC M_R_isNext) 13 = .ok (.iload_n 2, 1) := by decide +kernel
theorem d_R_isNext_14 : decode (mC M_R_isNext) 14 = .ok (.iaload, 1) := by decide +kernel
theorem d_R_isNext_15 : decode (mC M_R_isNext) 15 = .ok (.iload_n 1, 1) := by decide +kernel
theorem d_R_isNext_16 : decode (mC M_R_isNext) 16 = .ok (.iload_n 2, 1) := by decide +kernel
theorem d_R_isNext_17 : decode (mC M_R_isNext) 17 = .ok (.ior, 1) := by decide +kernel
theorem d_R_isNext_18 : decode (mC M_R_isNext) 18 = .ok (.iconst (-1), 1) := by decide +kernel
theorem d_R_isNext_19 : decode (mC M_R_isNext) 19 = .ok (.ixor, 1) := by decide +kernel
theorem d_R_isNext_20 : decode (mC M_R_isNext) 20 = .ok (.iand, 1) := by decide +kernel
theorem d_R_isNext_21 : decode (mC M_R_isNext) 21 = .ok (.ifCond .ne 7, 3) := by decide +kernel
theorem d_R_isNext_24 : decode (mC M_R_isNext) 24 = .ok (.iconst 1, 1) := by decide +kernel
theorem d_R_isNext_25 : decode (mC M_R_isNext) 25 = .ok (.goto 4, 3) := by decide +kernel
theorem d_R_isNext_28 : decode (mC M_R_isNext) 28 = .ok (.iconst 0, 1) := by decide +kernel
theorem d_R_isNext_29 : decode (mC M_R_isNext) 29 = .ok (.ireturn, 1) := by decide +kernel
def vc_R_isNext_29 (r : Option Value) (hf : hc_H) (J : Nat → hc_K) (lv : hc_L) (st : List Value) (h : hc_H) : Prop := (qi_zret r hf) lv st h
theorem sn_R_isNext_29 {Ph : Nat → State → Prop} {h0 hf : hc_H} {r : Option Value} : qk Ph M_R_isNext h0 hf r 29 (vc_R_isNext_29 r hf (cx Ph M_R_isNext h0 hf r)) := (qs_zret d_R_isNext_29 rfl)
def vc_R_isNext_28 (r : Option Value) (hf : hc_H) (J : Nat → hc_K) (lv : hc_L) (st : List Value) (h : hc_H) : Prop := (qi_push (nI 0) (vc_R_isNext_29 r hf J)) lv st h
theorem sn_R_isNext_28 {Ph : Nat → State → Prop} {h0 hf : hc_H} {r : Option Value} : qk Ph M_R_isNext h0 hf r 28 (vc_R_isNext_28 r hf (cx Ph M_R_isNext h0 hf r)) := (qs_iconst d_R_isNext_28 (by decide) sn_R_isNext_29)
def vc_R_isNext_0 (r : Option Value) (hf : hc_H) (J : Nat → hc_K) (lv : hc_L) (st : List Value) (h : hc_H) : Prop := (qi_aload 0 (qi_get 6 8 (qi_iload 2 (qi_iald 1 (qi_if_eq (vc_R_isNext_28 r hf J) (qi_aload 0 (qi_get 6 7 (qi_iload 2 (qi_iald 0 (qi_iload 1 (qi_iload 2 (qi_ior (qi_push (-1) (qi_ixor (qi_iand (qi_if_ne (vc_R_isNext_28 r hf J) (qi_push (nI 1) (vc_R_isNext_29 r hf J)))))))))))))))))) lv st h
theorem sn_R_isNext_0 {Ph : Nat → State → Prop} {h0 hf : hc_H} {r : Option Value} : qk Ph M_R_isNext h0 hf r 0 (vc_R_isNext_0 r hf (cx Ph M_R_isNext h0 hf r)) := (qs_aload_n d_R_isNext_0 rfl (qs_get d_R_isNext_1 ff_R_25 (qs_iload_n d_R_isNext_4 rfl (qs_baload d_R_isNext_5 (qs_if_eq (tgt := 28) d_R_isNext_6 (by decide) sn_R_isNext_28 (qs_aload_n d_R_isNext_9 rfl (qs_get d_R_isNext_10 ff_R_22 (qs_iload_n d_R_isNext_13 rfl (qs_iaload d_R_isNext_14 (qs_iload_n d_R_isNext_15 rfl (qs_iload_n d_R_isNext_16 rfl (qs_ior d_R_isNext_17 (qs_iconst d_R_isNext_18 (by decide) (qs_ixor d_R_isNext_19 (qs_iand d_R_isNext_20 (qs_if_ne (tgt := 28) d_R_isNext_21 (by decide) sn_R_isNext_28 (qs_iconst d_R_isNext_24 (by decide) (qs_goto (tgt := 29) d_R_isNext_25 (by decide) sn_R_isNext_29))))))))))))))))))
theorem zz_R_isNext : hc_z M_R_isNext 2 := ⟨wk_1069, wk_66, by decide +kernel⟩
theorem zz_R_findGood : hc_z M_R_findGood 1 := ⟨wk_1057, wk_66, by decide +kernel⟩
/-! BalancedLineModel.findRest(I)I -/
abbrev M_R_findRest : hc_M := (⟨"BalancedLineModel", "findRest", "(I)I"⟩, prog_8_method_42_code, 6, (some .int), 4, 91)
theorem d_R_findRest_0 : decode (mC M_R_findRest) 0 = .ok (.aload_n 0, 1) := by decide +kernel
theorem d_R_findRest_1 : decode (mC M_R_findRest) 1 = .ok (.iload_n 1, 1) := by decide +kernel
theorem d_R_findRest_2 : decode (mC M_R_findRest) 2 = .ok (.invokevirtual 152, 3) := by decide +kernel
theorem d_R_findRest_5 : decode (mC M_R_findRest) 5 = .ok (.aload_n 0, 1) := by decide +kernel
theorem d_R_findRest_6 : decode (mC M_R_findRest) 6 = .ok (.getfield 29, 3) := by decide +kernel
theorem d_R_findRest_9 : decode (mC M_R_findRest) 9 = .ok (.aload_n 0, 1) := by decide +kernel
theorem d_R_findRest_10 : decode (mC M_R_findRest) 10 = .ok (.invokevirtual 146, 3) := by decide +kernel
theorem d_R_findRest_13 : decode (mC M_R_findRest) 13 = .ok (.iconst 0, 1) := by decide +kernel
theorem d_R_findRest_14 : decode (mC M_R_findRest) 14 = .ok (.iastore, 1) := by decide +kernel
theorem d_R_findRest_15 : decode (mC M_R_findRest) 15 = .ok (.aload_n 0, 1) := by decide +kernel
theorem d_R_findRest_16 : decode (mC M_R_findRest) 16 = .ok (.invokevirtual 146, 3) := by decide +kernel
theorem d_R_findRest_19 : decode (mC M_R_findRest) 19 = .ok (.iconst 1, 1) := by decide +kernel
theorem d_R_findRest_20 : decode (mC M_R_findRest) 20 = .ok (.isub, 1) := by decide +kernel
theorem d_R_findRest_21 : decode (mC M_R_findRest) 21 = .ok (.istore_n 2, 1) := by decide +kernel
theorem d_R_findRest_22 : decode (mC M_R_findRest) 22 = .ok (.iload_n 2, 1) := by decide +kernel
theorem d_R_findRest_23 : decode (mC M_R_findRest) 23 = .ok (.ifCond .lt 113, 3) := by decide +kernel
theorem d_R_findRest_26 : decode (mC M_R_findRest) 26 = .ok (.aload_n 0, 1) := by decide +kernel
theorem d_R_findRest_27 : decode (mC M_R_findRest) 27 = .ok (.invokevirtual 146, 3) := by decide +kernel
theorem d_R_findRest_30 : decode (mC M_R_findRest) 30 = .ok (.iload_n 2, 1) := by decide +kernel
theorem d_R_findRest_31 : decode (mC M_R_findRest) 31 = .ok (.iconst (-1), 1) := by decide +kernel
theorem d_R_findRest_32 : decode (mC M_R_findRest) 32 = .ok (.ixor, 1) := by decide +kernel
theorem d_R_findRest_33 : decode (mC M_R_findRest) 33 = .ok (.iand, 1) := by decide +kernel
theorem d_R_findRest_34 : decode (mC M_R_findRest) 34 = .ok (.istore_n 3, 1) := by decide +kernel
theorem d_R_findRest_35 : decode (mC M_R_findRest) 35 = .ok (.aload_n 0, 1) := by decide +kernel
theorem d_R_findRest_36 : decode (mC M_R_findRest) 36 = .ok (.getfield 29, 3) := by decide +kernel
theorem d_R_findRest_39 : decode (mC M_R_findRest) 39 = .ok (.iload_n 2, 1) := by decide +kernel
theorem d_R_findRest_40 : decode (mC M_R_findRest) 40 = .ok (.bipush 100, 2) := by decide +kernel
theorem d_R_findRest_42 : decode (mC M_R_findRest) 42 = .ok (.iastore, 1) := by decide +kernel
theorem d_R_findRest_43 : decode (mC M_R_findRest) 43 = .ok (.iload_n 3, 1) := by decide +kernel
theorem d_R_findRest_44 : decode (mC M_R_findRest) 44 = .ok (.istore 4, 2) := by decide +kernel
theorem d_R_findRest_46 : decode (mC M_R_findRest) 46 = .ok (.iload 4, 2) := by decide +kernel
theorem d_R_findRest_48 : decode (mC M_R_findRest) 48 = .ok (.ifCond .le 82, 3) := by decide +kernel
theorem d_R_findRest_51 : decode (mC M_R_findRest) 51 = .ok (.aload_n 0, 1) := by decide +kernel
theorem d_R_findRest_52 : decode (mC M_R_findRest) 52 = .ok (.getfield 29, 3) := by decide +kernel
theorem d_R_findRest_55 : decode (mC M_R_findRest) 55 = .ok (.iload_n 2, 1) := by decide +kernel
theorem d_R_findRest_56 : decode (mC M_R_findRest) 56 = .ok (.iload 4, 2) := by decide +kernel
theorem d_R_findRest_58 : decode (mC M_R_findRest) 58 = .ok (.ior, 1) := by decide +kernel
theorem d_R_findRest_59 : decode (mC M_R_findRest) 59 = .ok (.iaload, 1) := by decide +kernel
theorem d_R_findRest_60 : decode (mC M_R_findRest) 60 = .ok (.iconst 1, 1) := by decide +kernel
theorem d_R_findRest_61 : decode (mC M_R_findRest) 61 = .ok (.iadd, 1) := by decide +kernel
theorem d_R_findRest_62 : decode (mC M_R_findRest) 62 = .ok (.aload_n 0, 1) := by decide +kernel
theorem d_R_findRest_63 : decode (mC M_R_findRest) 63 = .ok (.getfield 29, 3) := by decide +kernel
theorem d_R_findRest_66 : decode (mC M_R_findRest) 66 = .ok (.iload_n 2, 1) := by decide +kernel
theorem d_R_findRest_67 : decode (mC M_R_findRest) 67 = .ok (.iaload, 1) := by decide +kernel
theorem d_R_findRest_68 : decode (mC M_R_findRest) 68 = .ok (.if_icmp .ge 17, 3) := by decide +kernel
theorem d_R_findRest_71 : decode (mC M_R_findRest) 71 = .ok (.aload_n 0, 1) := by decide +kernel
theorem d_R_findRest_72 : decode (mC M_R_findRest) 72 = .ok (.iload_n 2, 1) := by decide +kernel
theorem d_R_findRest_73 : decode (mC M_R_findRest) 73 = .ok (.iload 4, 2) := by decide +kernel
theorem d_R_findRest_75 : decode (mC M_R_findRest) 75 = .ok (.invokevirtual 156, 3) := by decide +kernel
theorem d_R_findRest_78 : decode (mC M_R_findRest) 78 = .ok (.ifCond .eq 7, 3) := by decide +kernel
theorem d_R_findRest_81 : decode (mC M_R_findRest) 81 = .ok (.iconst 1, 1) := by decide +kernel
theorem d_R_findRest_82 : decode (mC M_R_findRest) 82 = .ok (.goto 4, 3) := by decide +kernel
theorem d_R_findRest_85 : decode (mC M_R_findRest) 85 = .ok (.iconst 0, 1) := by decide +kernel
theorem d_R_findRest_86 : decode (mC M_R_findRest) 86 = .ok (.istore 5, 2) := by decide +kernel
theorem d_R_findRest_88 : decode (mC M_R_findRest) 88 = .ok (.aload_n 0, 1) := by decide +kernel
theorem d_R_findRest_89 : decode (mC M_R_findRest) 89 = .ok (.getfield 29, 3) := by decide +kernel
theorem d_R_findRest_92 : decode (mC M_R_findRest) 92 = .ok (.iload_n 2, 1) := by decide +kernel
theorem d_R_findRest_93 : decode (mC M_R_findRest) 93 = .ok (.iload 5, 2) := by decide +kernel
theorem d_R_findRest_95 : decode (mC M_R_findRest) 95 = .ok (.ifCond .eq 17, 3) := by decide +kernel
theorem d_R_findRest_98 : decode (mC M_R_findRest) 98 = .ok (.aload_n 0, 1) := by decide +kernel
theorem d_R_findRest_99 : decode (mC M_R_findRest) 99 = .ok (.getfield 29, 3) := by decide +kernel
theorem d_R_findRest_102 : decode (mC M_R_findRest) 102 = .ok (.iload_n 2, 1) := by decide +kernel
theorem d_R_findRest_103 : decode (mC M_R_findRest) 103 = .ok (.iload 4, 2) := by decide +kernel
theorem d_R_findRest_105 : decode (mC M_R_findRest) 105 = .ok (.ior, 1) := by decide +kernel
theorem d_R_findRest_106 : decode (mC M_R_findRest) 106 = .ok (.iaload, 1) := by decide +kernel
theorem d_R_findRest_107 : decode (mC M_R_findRest) 107 = .ok (.iconst 1, 1) := by decide +kernel
theorem d_R_findRest_108 : decode (mC M_R_findRest) 108 = .ok (.iadd, 1) := by decide +kernel
theorem d_R_findRest_109 : decode (mC M_R_findRest) 109 = .ok (.goto 9, 3) := by decide +kernel
theorem d_R_findRest_112 : decode (mC M_R_findRest) 112 = .ok (.aload_n 0, 1) := by decide +kernel
theorem d_R_findRest_113 : decode (mC M_R_findRest) 113 = .ok (.getfield 29, 3) := by decide +kernel
theorem d_R_findRest_116 : decode (mC M_R_findRest) 116 = .ok (.iload_n 2, 1) := by decide +kernel
theorem d_R_findRest_117 : decode (mC M_R_findRest) 117 = .ok (.iaload, 1) := by decide +kernel
theorem d_R_findRest_118 : decode (mC M_R_findRest) 118 = .ok (.iastore, 1) := by decide +kernel
theorem d_R_findRest_119 : decode (mC M_R_findRest) 119 = .ok (.iload 4, 2) := by decide +kernel
theorem d_R_findRest_121 : decode (mC M_R_findRest) 121 = .ok (.iconst 1, 1) := by decide +kernel
theorem d_R_findRest_122 : decode (mC M_R_findRest) 122 = .ok (.isub, 1) := by decide +kernel
theorem d_R_findRest_123 : decode (mC M_R_findRest) 123 = .ok (.iload_n 3, 1) := by decide +kernel
theorem d_R_findRest_124 : decode (mC M_R_findRest) 124 = .ok (.iand, 1) := by decide +kernel
theorem d_R_findRest_125 : decode (mC M_R_findRest) 125 = .ok (.istore 4, 2) := by decide +kernel
theorem d_R_findRest_127 : decode (mC M_R_findRest) 127 = .ok (.goto (-81), 3) := by decide +kernel
theorem d_R_findRest_130 : decode (mC M_R_findRest) 130 = .ok (.iinc 2 (-1), 3) := by decide +kernel
theorem d_R_findRest_133 : decode (mC M_R_findRest) 133 = .ok (.goto (-111), 3) := by decide +kernel
theorem d_R_findRest_136 : decode (mC M_R_findRest) 136 = .ok (.aload_n 0, 1) := by decide +kernel
theorem d_R_findRest_137 : decode (mC M_R_findRest) 137 = .ok (.getfield 29, 3) := by decide +kernel
theorem d_R_findRest_140 : decode (mC M_R_findRest) 140 = .ok (.iconst 0, 1) := by decide +kernel
theorem d_R_findRest_141 : decode (mC M_R_findRest) 141 = .ok (.iaload, 1) := by decide +kernel
theorem d_R_findRest_142 : decode (mC M_R_findRest) 142 = .ok (.ireturn, 1) := by decide +kernel
def vc_R_findRest_136 (r : Option Value) (hf : hc_H) (J : Nat → hc_K) (lv : hc_L) (st : List Value) (h : hc_H) : Prop := (qi_aload 0 (qi_get 6 9 (qi_push (nI 0) (qi_iald 0 (qi_iret r hf))))) lv st h
theorem sn_R_findRest_136 {Ph : Nat → State → Prop} {h0 hf : hc_H} {r : Option Value} : qk Ph M_R_findRest h0 hf r 136 (vc_R_findRest_136 r hf (cx Ph M_R_findRest h0 hf r)) := (qs_aload_n d_R_findRest_136 rfl (qs_get d_R_findRest_137 ff_R_29 (qs_iconst d_R_findRest_140 (by decide) (qs_iaload d_R_findRest_141 (qs_iret d_R_findRest_142 rfl)))))
def vc_R_findRest_130 (r : Option Value) (hf : hc_H) (J : Nat → hc_K) (lv : hc_L) (st : List Value) (h : hc_H) : Prop := (qi_iinc 2 (-1) (J 22)) lv st h
theorem sn_R_findRest_130 {Ph : Nat → State → Prop} {h0 hf : hc_H} {r : Option Value} : qk Ph M_R_findRest h0 hf r 130 (vc_R_findRest_130 r hf (cx Ph M_R_findRest h0 hf r)) := (qs_iinc d_R_findRest_130 (by decide) (by decide) (qs_goto (tgt := 22) d_R_findRest_133 (by decide) (fun _ _ _ h9 => h9)))
def vc_R_findRest_118 (r : Option Value) (hf : hc_H) (J : Nat → hc_K) (lv : hc_L) (st : List Value) (h : hc_H) : Prop := (qi_iast (qi_iload 4 (qi_push (nI 1) (qi_isub (qi_iload 3 (qi_iand (qi_istore 4 (J 46)))))))) lv st h
theorem sn_R_findRest_118 {Ph : Nat → State → Prop} {h0 hf : hc_H} {r : Option Value} : qk Ph M_R_findRest h0 hf r 118 (vc_R_findRest_118 r hf (cx Ph M_R_findRest h0 hf r)) := (qs_iastore d_R_findRest_118 (qs_iload d_R_findRest_119 (qs_iconst d_R_findRest_121 (by decide) (qs_isub d_R_findRest_122 (qs_iload_n d_R_findRest_123 rfl (qs_iand d_R_findRest_124 (qs_istore d_R_findRest_125 (by decide) (qs_goto (tgt := 46) d_R_findRest_127 (by decide) (fun _ _ _ h9 => h9)))))))))
def vc_R_findRest_112 (r : Option Value) (hf : hc_H) (J : Nat → hc_K) (lv : hc_L) (st : List Value) (h : hc_H) : Prop := (qi_aload 0 (qi_get 6 9 (qi_iload 2 (qi_iald 0 (vc_R_findRest_118 r hf J))))) lv st h
theorem sn_R_findRest_112 {Ph : Nat → State → Prop} {h0 hf : hc_H} {r : Option Value} : qk Ph M_R_findRest h0 hf r 112 (vc_R_findRest_112 r hf (cx Ph M_R_findRest h0 hf r)) := (qs_aload_n d_R_findRest_112 rfl (qs_get d_R_findRest_113 ff_R_29 (qs_iload_n d_R_findRest_116 rfl (qs_iaload d_R_findRest_117 sn_R_findRest_118))))
def vc_R_findRest_86 (r : Option Value) (hf : hc_H) (J : Nat → hc_K) (lv : hc_L) (st : List Value) (h : hc_H) : Prop := (qi_istore 5 (qi_aload 0 (qi_get 6 9 (qi_iload 2 (qi_iload 5 (qi_if_eq (vc_R_findRest_112 r hf J) (qi_aload 0 (qi_get 6 9 (qi_iload 2 (qi_iload 4 (qi_ior (qi_iald 0 (qi_push (nI 1) (qi_iadd (vc_R_findRest_118 r hf J))))))))))))))) lv st h
theorem sn_R_findRest_86 {Ph : Nat → State → Prop} {h0 hf : hc_H} {r : Option Value} : qk Ph M_R_findRest h0 hf r 86 (vc_R_findRest_86 r hf (cx Ph M_R_findRest h0 hf r)) := (qs_istore d_R_findRest_86 (by decide) (qs_aload_n d_R_findRest_88 rfl (qs_get d_R_findRest_89 ff_R_29 (qs_iload_n d_R_findRest_92 rfl (qs_iload d_R_findRest_93 (qs_if_eq (tgt := 112) d_R_findRest_95 (by decide) sn_R_findRest_112 (qs_aload_n d_R_findRest_98 rfl (qs_get d_R_findRest_99 ff_R_29 (qs_iload_n d_R_findRest_102 rfl (qs_iload d_R_findRest_103 (qs_ior d_R_findRest_105 (qs_iaload d_R_findRest_106 (qs_iconst d_R_findRest_107 (by decide) (qs_iadd d_R_findRest_108 (qs_goto (tgt := 118) d_R_findRest_109 (by decide) sn_R_findRest_118)))))))))))))))
def vc_R_findRest_85 (r : Option Value) (hf : hc_H) (J : Nat → hc_K) (lv : hc_L) (st : List Value) (h : hc_H) : Prop := (qi_push (nI 0) (vc_R_findRest_86 r hf J)) lv st h
theorem sn_R_findRest_85 {Ph : Nat → State → Prop} {h0 hf : hc_H} {r : Option Value} : qk Ph M_R_findRest h0 hf r 85 (vc_R_findRest_85 r hf (cx Ph M_R_findRest h0 hf r)) := (qs_iconst d_R_findRest_85 (by decide) sn_R_findRest_86)
def vc_R_findRest_46 (r : Option Value) (hf : hc_H) (J : Nat → hc_K) (lv : hc_L) (st : List Value) (h : hc_H) : Prop := (qi_iload 4 (qi_if_le (vc_R_findRest_130 r hf J) (qi_aload 0 (qi_get 6 9 (qi_iload 2 (qi_iload 4 (qi_ior (qi_iald 0 (qi_push (nI 1) (qi_iadd (qi_aload 0 (qi_get 6 9 (qi_iload 2 (qi_iald 0 (qi_icmp_ge (vc_R_findRest_85 r hf J) (qi_aload 0 (qi_iload 2 (qi_iload 4 (qi_invV hc_tt M_R_isNext 2 6 (qi_if_eq (vc_R_findRest_85 r hf J) (qi_push (nI 1) (vc_R_findRest_86 r hf J)))))))))))))))))))))) lv st h
theorem sn_R_findRest_46 {Ph : Nat → State → Prop} {h0 hf : hc_H} {r : Option Value} : qk Ph M_R_findRest h0 hf r 46 (vc_R_findRest_46 r hf (cx Ph M_R_findRest h0 hf r)) := (qs_iload d_R_findRest_46 (qs_if_le (tgt := 130) d_R_findRest_48 (by decide) sn_R_findRest_130 (qs_aload_n d_R_findRest_51 rfl (qs_get d_R_findRest_52 ff_R_29 (qs_iload_n d_R_findRest_55 rfl (qs_iload d_R_findRest_56 (qs_ior d_R_findRest_58 (qs_iaload d_R_findRest_59 (qs_iconst d_R_findRest_60 (by decide) (qs_iadd d_R_findRest_61 (qs_aload_n d_R_findRest_62 rfl (qs_get d_R_findRest_63 ff_R_29 (qs_iload_n d_R_findRest_66 rfl (qs_iaload d_R_findRest_67 (qs_icmp_ge (tgt := 85) d_R_findRest_68 (by decide) sn_R_findRest_85 (qs_aload_n d_R_findRest_71 rfl (qs_iload_n d_R_findRest_72 rfl (qs_iload d_R_findRest_73 (qs_invV hc_Ph_tt (fun _ _ _ => trivial) d_R_findRest_75 zz_R_isNext wk_1066 ⟨wk_1068, wk_45⟩ ⟨_, rfl, rfl⟩ ⟨by decide, by decide⟩ (qs_if_eq (tgt := 85) d_R_findRest_78 (by decide) sn_R_findRest_85 (qs_iconst d_R_findRest_81 (by decide) (qs_goto (tgt := 86) d_R_findRest_82 (by decide) sn_R_findRest_86))))))))))))))))))))))
def vc_R_findRest_22 (r : Option Value) (hf : hc_H) (J : Nat → hc_K) (lv : hc_L) (st : List Value) (h : hc_H) : Prop := (qi_iload 2 (qi_if_lt (vc_R_findRest_136 r hf J) (qi_aload 0 (qi_invV hc_tt M_R_all 0 6 (qi_iload 2 (qi_push (-1) (qi_ixor (qi_iand (qi_istore 3 (qi_aload 0 (qi_get 6 9 (qi_iload 2 (qi_push (nI 100) (qi_iast (qi_iload 3 (qi_istore 4 (J 46))))))))))))))))) lv st h
theorem sn_R_findRest_22 {Ph : Nat → State → Prop} {h0 hf : hc_H} {r : Option Value} : qk Ph M_R_findRest h0 hf r 22 (vc_R_findRest_22 r hf (cx Ph M_R_findRest h0 hf r)) := (qs_iload_n d_R_findRest_22 rfl (qs_if_lt (tgt := 136) d_R_findRest_23 (by decide) sn_R_findRest_136 (qs_aload_n d_R_findRest_26 rfl (qs_invV hc_Ph_tt (fun _ _ _ => trivial) d_R_findRest_27 zz_R_all wk_1058 ⟨wk_1060, wk_43⟩ ⟨_, rfl, rfl⟩ ⟨by decide, by decide⟩ (qs_iload_n d_R_findRest_30 rfl (qs_iconst d_R_findRest_31 (by decide) (qs_ixor d_R_findRest_32 (qs_iand d_R_findRest_33 (qs_istore_n d_R_findRest_34 rfl (by decide) (qs_aload_n d_R_findRest_35 rfl (qs_get d_R_findRest_36 ff_R_29 (qs_iload_n d_R_findRest_39 rfl (qs_bipush d_R_findRest_40 (by decide) (qs_iastore d_R_findRest_42 (qs_iload_n d_R_findRest_43 rfl (qs_istore d_R_findRest_44 (by decide) (fun _ _ _ h9 => h9)))))))))))))))))
def vc_R_findRest_0 (r : Option Value) (hf : hc_H) (J : Nat → hc_K) (lv : hc_L) (st : List Value) (h : hc_H) : Prop := (qi_aload 0 (qi_iload 1 (qi_invV hc_tt M_R_findGood 1 6 (qi_aload 0 (qi_get 6 9 (qi_aload 0 (qi_invV hc_tt M_R_all 0 6 (qi_push (nI 0) (qi_iast (qi_aload 0 (qi_invV hc_tt M_R_all 0 6 (qi_push (nI 1) (qi_isub (qi_istore 2 (J 22))))))))))))))) lv st h
theorem sn_R_findRest_0 {Ph : Nat → State → Prop} {h0 hf : hc_H} {r : Option Value} : qk Ph M_R_findRest h0 hf r 0 (vc_R_findRest_0 r hf (cx Ph M_R_findRest h0 hf r)) := (qs_aload_n d_R_findRest_0 rfl (qs_iload_n d_R_findRest_1 rfl (qs_invV hc_Ph_tt (fun _ _ _ => trivial) d_R_findRest_2 zz_R_findGood wk_1054 ⟨wk_1056, wk_42⟩ ⟨_, rfl, rfl⟩ ⟨by decide, by decide⟩ (qs_aload_n d_R_findRest_5 rfl (qs_get d_R_findRest_6 ff_R_29 (qs_aload_n d_R_findRest_9 rfl (qs_invV hc_Ph_tt (fun _ _ _ => trivial) d_R_findRest_10 zz_R_all wk_1058 ⟨wk_1060, wk_43⟩ ⟨_, rfl, rfl⟩ ⟨by decide, by decide⟩ (qs_iconst d_R_findRest_13 (by decide) (qs_iastore d_R_findRest_14 (qs_aload_n d_R_findRest_15 rfl (qs_invV hc_Ph_tt (fun _ _ _ => trivial) d_R_findRest_16 zz_R_all wk_1058 ⟨wk_1060, wk_43⟩ ⟨_, rfl, rfl⟩ ⟨by decide, by decide⟩ (qs_iconst d_R_findRest_19 (by decide) (qs_isub d_R_findRest_20 (qs_istore_n d_R_findRest_21 rfl (by decide) (fun _ _ _ h9 => h9)))))))))))))))
theorem zz_R_findRest : hc_z M_R_findRest 1 := ⟨wk_1053, wk_66, by decide +kernel⟩
/-! BalancedLineModel.fewestBy(I)I -/
abbrev M_R_fewestBy : hc_M := (⟨"BalancedLineModel", "fewestBy", "(I)I"⟩, prog_8_method_43_code, 3, (some .int), 5, 116)
theorem d_R_fewestBy_0 : decode (mC M_R_fewestBy) 0 = .ok (.aload_n 0, 1) := by decide +kernel
theorem d_R_fewestBy_1 : decode (mC M_R_fewestBy) 1 = .ok (.iload_n 1, 1) := by decide +kernel
theorem d_R_fewestBy_2 : decode (mC M_R_fewestBy) 2 = .ok (.invokevirtual 159, 3) := by decide +kernel
theorem d_R_fewestBy_5 : decode (mC M_R_fewestBy) 5 = .ok (.istore_n 2, 1) := by decide +kernel
theorem d_R_fewestBy_6 : decode (mC M_R_fewestBy) 6 = .ok (.iload_n 2, 1) := by decide +kernel
theorem d_R_fewestBy_7 : decode (mC M_R_fewestBy) 7 = .ok (.bipush 100, 2) := by decide +kernel
theorem d_R_fewestBy_9 : decode (mC M_R_fewestBy) 9 = .ok (.if_icmp .ne 8, 3) := by decide +kernel
theorem d_R_fewestBy_12 : decode (mC M_R_fewestBy) 12 = .ok (.bipush (-4), 2) := by decide +kernel
theorem d_R_fewestBy_14 : decode (mC M_R_fewestBy) 14 = .ok (.goto 4, 3) := by decide +kernel
theorem d_R_fewestBy_17 : decode (mC M_R_fewestBy) 17 = .ok (.iload_n 2, 1) := by decide +kernel
theorem d_R_fewestBy_18 : decode (mC M_R_fewestBy) 18 = .ok (.ireturn, 1) := by decide +kernel
def vc_R_fewestBy_18 (r : Option Value) (hf : hc_H) (J : Nat → hc_K) (lv : hc_L) (st : List Value) (h : hc_H) : Prop := (qi_iret r hf) lv st h
theorem sn_R_fewestBy_18 {Ph : Nat → State → Prop} {h0 hf : hc_H} {r : Option Value} : qk Ph M_R_fewestBy h0 hf r 18 (vc_R_fewestBy_18 r hf (cx Ph M_R_fewestBy h0 hf r)) := (qs_iret d_R_fewestBy_18 rfl)
def vc_R_fewestBy_17 (r : Option Value) (hf : hc_H) (J : Nat → hc_K) (lv : hc_L) (st : List Value) (h : hc_H) : Prop := (qi_iload 2 (vc_R_fewestBy_18 r hf J)) lv st h
theorem sn_R_fewestBy_17 {Ph : Nat → State → Prop} {h0 hf : hc_H} {r : Option Value} : qk Ph M_R_fewestBy h0 hf r 17 (vc_R_fewestBy_17 r hf (cx Ph M_R_fewestBy h0 hf r)) := (qs_iload_n d_R_fewestBy_17 rfl sn_R_fewestBy_18)
def vc_R_fewestBy_0 (r : Option Value) (hf : hc_H) (J : Nat → hc_K) (lv : hc_L) (st : List Value) (h : hc_H) : Prop := (qi_aload 0 (qi_iload 1 (qi_invV hc_tt M_R_findRest 1 6 (qi_istore 2 (qi_iload 2 (qi_push (nI 100) (qi_icmp_ne (vc_R_fewestBy_17 r hf J) (qi_push (-4) (vc_R_fewestBy_18 r hf J))))))))) lv st h
theorem sn_R_fewestBy_0 {Ph : Nat → State → Prop} {h0 hf : hc_H} {r : Option Value} : qk Ph M_R_fewestBy h0 hf r 0 (vc_R_fewestBy_0 r hf (cx Ph M_R_fewestBy h0 hf r)) := (qs_aload_n d_R_fewestBy_0 rfl (qs_iload_n d_R_fewestBy_1 rfl (qs_invV hc_Ph_tt (fun _ _ _ => trivial) d_R_fewestBy_2 zz_R_findRest wk_1050 ⟨wk_1052, wk_41⟩ ⟨_, rfl, rfl⟩ ⟨by decide, by decide⟩ (qs_istore_n d_R_fewestBy_5 rfl (by decide) (qs_iload_n d_R_fewestBy_6 rfl (qs_bipush d_R_fewestBy_7 (by decide) (qs_icmp_ne (tgt := 17) d_R_fewestBy_9 (by decide) sn_R_fewestBy_17 (qs_bipush d_R_fewestBy_12 (by decide) (qs_goto (tgt := 18) d_R_fewestBy_14 (by decide) sn_R_fewestBy_18)))))))))
theorem zz_R_fewestBy : hc_z M_R_fewestBy 1 := ⟨wk_1049, wk_66, by decide +kernel⟩
/-! BalancedLineModel.fewest()I -/
abbrev M_R_fewest : hc_M := (⟨"BalancedLineModel", "fewest", "()I"⟩, prog_8_method_44_code, 1, (some .int), 6, 138)
theorem d_R_fewest_0 : decode (mC M_R_fewest) 0 = .ok (.aload_n 0, 1) := by decide +kernel
theorem d_R_fewest_1 : decode (mC M_R_fewest) 1 = .ok (.aload_n 0, 1) := by decide +kernel
theorem d_R_fewest_2 : decode (mC M_R_fewest) 2 = .ok (.getfield 13, 3) := by decide +kernel
theorem d_R_fewest_5 : decode (mC M_R_fewest) 5 = .ok (.iconst 1, 1) := by decide +kernel
theorem d_R_fewest_6 : decode (mC M_R_fewest) 6 = .ok (.iaload, 1) := by decide +kernel
theorem d_R_fewest_7 : decode (mC M_R_fewest) 7 = .ok (.invokevirtual 162, 3) := by decide +kernel
theorem d_R_fewest_10 : decode (mC M_R_fewest) 10 = .ok (.ireturn, 1) := by decide +kernel
def vc_R_fewest_0 (r : Option Value) (hf : hc_H) (J : Nat → hc_K) (lv : hc_L) (st : List Value) (h : hc_H) : Prop := (qi_aload 0 (qi_aload 0 (qi_get 6 2 (qi_push (nI 1) (qi_iald 0 (qi_invV hc_tt M_R_fewestBy 1 6 (qi_iret r hf))))))) lv st h
theorem sn_R_fewest_0 {Ph : Nat → State → Prop} {h0 hf : hc_H} {r : Option Value} : qk Ph M_R_fewest h0 hf r 0 (vc_R_fewest_0 r hf (cx Ph M_R_fewest h0 hf r)) := (qs_aload_n d_R_fewest_0 rfl (qs_aload_n d_R_fewest_1 rfl (qs_get d_R_fewest_2 ff_R_13 (qs_iconst d_R_fewest_5 (by decide) (qs_iaload d_R_fewest_6 (qs_invV hc_Ph_tt (fun _ _ _ => trivial) d_R_fewest_7 zz_R_fewestBy wk_1046 ⟨wk_1048, wk_40⟩ ⟨_, rfl, rfl⟩ ⟨by decide, by decide⟩ (qs_iret d_R_fewest_10 rfl)))))))
/-! BalancedLineModel.by(I)I -/
abbrev M_R_by : hc_M := (⟨"BalancedLineModel", "by", "(I)I"⟩, prog_8_method_45_code, 2, (some .int), 6, 138)
theorem d_R_by_0 : decode (mC M_R_by) 0 = .ok (.iload_n 1, 1) := by decide +kernel
theorem d_R_by_1 : decode (mC M_R_by) 1 = .ok (.i2l, 1) := by decide +kernel
theorem d_R_by_2 : decode (mC M_R_by) 2 = .ok (.lconst 1, 1) := by decide +kernel
theorem d_R_by_3 : decode (mC M_R_by) 3 = .ok (.ldc2_w 111, 3) := by decide +kernel
theorem d_R_by_6 : decode (mC M_R_by) 6 = .ok (.invokestatic 56, 3) := by decide +kernel
theorem d_R_by_9 : decode (mC M_R_by) 9 = .ok (.ifCond .eq 11, 3) := by decide +kernel
theorem d_R_by_12 : decode (mC M_R_by) 12 = .ok (.aload_n 0, 1) := by decide +kernel
theorem d_R_by_13 : decode (mC M_R_by) 13 = .ok (.iload_n 1, 1) := by decide +kernel
theorem d_R_by_14 : decode (mC M_R_by) 14 = .ok (.invokevirtual 162, 3) := by decide +kernel
theorem d_R_by_17 : decode (mC M_R_by) 17 = .ok (.goto 4, 3) := by decide +kernel
theorem d_R_by_20 : decode (mC M_R_by) 20 = .ok (.iconst (-1), 1) := by decide +kernel
theorem d_R_by_21 : decode (mC M_R_by) 21 = .ok (.ireturn, 1) := by decide +kernel
def vc_R_by_21 (r : Option Value) (hf : hc_H) (J : Nat → hc_K) (lv : hc_L) (st : List Value) (h : hc_H) : Prop := (qi_iret r hf) lv st h
theorem sn_R_by_21 {Ph : Nat → State → Prop} {h0 hf : hc_H} {r : Option Value} : qk Ph M_R_by h0 hf r 21 (vc_R_by_21 r hf (cx Ph M_R_by h0 hf r)) := (qs_iret d_R_by_21 rfl)
def vc_R_by_20 (r : Option Value) (hf : hc_H) (J : Nat → hc_K) (lv : hc_L) (st : List Value) (h : hc_H) : Prop := (qi_push (-1) (vc_R_by_21 r hf J)) lv st h
theorem sn_R_by_20 {Ph : Nat → State → Prop} {h0 hf : hc_H} {r : Option Value} : qk Ph M_R_by h0 hf r 20 (vc_R_by_20 r hf (cx Ph M_R_by h0 hf r)) := (qs_iconst d_R_by_20 (by decide) sn_R_by_21)
def vc_R_by_0 (r : Option Value) (hf : hc_H) (J : Nat → hc_K) (lv : hc_L) (st : List Value) (h : hc_H) : Prop := (qi_iload 1 (qi_i2l (qi_pushl (lN 1) (qi_pushl (lN 120) (qi_invS hc_tt M_R_in 3 (qi_if_eq (vc_R_by_20 r hf J) (qi_aload 0 (qi_iload 1 (qi_invV hc_tt M_R_fewestBy 1 6 (vc_R_by_21 r hf J)))))))))) lv st h
theorem sn_R_by_0 {Ph : Nat → State → Prop} {h0 hf : hc_H} {r : Option Value} : qk Ph M_R_by h0 hf r 0 (vc_R_by_0 r hf (cx Ph M_R_by h0 hf r)) := (qs_iload_n d_R_by_0 rfl (qs_i2l d_R_by_1 (qs_lconst d_R_by_2 rfl (qs_ldc2 d_R_by_3 (by first | exact wk_951 | exact (show _ ∈ lw_g from wk_951)) (qs_invS hc_Ph_tt (fun _ _ _ => trivial) d_R_by_6 zz_R_in wk_903 wk_904 ⟨by decide, by decide⟩ (qs_if_eq (tgt := 20) d_R_by_9 (by decide) sn_R_by_20 (qs_aload_n d_R_by_12 rfl (qs_iload_n d_R_by_13 rfl (qs_invV hc_Ph_tt (fun _ _ _ => trivial) d_R_by_14 zz_R_fewestBy wk_1046 ⟨wk_1048, wk_40⟩ ⟨_, rfl, rfl⟩ ⟨by decide, by decide⟩ (qs_goto (tgt := 21) d_R_by_17 (by decide) sn_R_by_21))))))))))
theorem zz_R_fewest : hc_z M_R_fewest 0 := ⟨wk_1045, wk_66, by decide +kernel⟩
/-! BalancedLineModel.were(II)I -/
abbrev M_R_were : hc_M := (⟨"BalancedLineModel", "were", "(II)I"⟩, prog_8_method_46_code, 5, (some .int), 7, 158)
theorem d_R_were_0 : decode (mC M_R_were) 0 = .ok (.aload_n 0, 1) := by decide +kernel
theorem d_R_were_1 : decode (mC M_R_were) 1 = .ok (.iload_n 1, 1) := by decide +kernel
theorem d_R_were_2 : decode (mC M_R_were) 2 = .ok (.invokevirtual 98, 3) := by decide +kernel
theorem d_R_were_5 : decode (mC M_R_were) 5 = .ok (.ifCond .eq 15, 3) := by decide +kernel
theorem d_R_were_8 : decode (mC M_R_were) 8 = .ok (.iload_n 2, 1) := by decide +kernel
theorem d_R_were_9 : decode (mC M_R_were) 9 = .ok (.i2l, 1) := by decide +kernel
theorem d_R_were_10 : decode (mC M_R_were) 10 = .ok (.lconst 1, 1) := by decide +kernel
theorem d_R_were_11 : decode (mC M_R_were) 11 = .ok (.ldc2_w 116, 3) := by decide +kernel
theorem d_R_were_14 : decode (mC M_R_were) 14 = .ok (.invokestatic 56, 3) := by decide +kernel
theorem d_R_were_17 : decode (mC M_R_were) 17 = .ok (.ifCond .ne 5, 3) := by decide +kernel
theorem d_R_were_20 : decode (mC M_R_were) 20 = .ok (.iconst (-1), 1) := by decide +kernel
theorem d_R_were_21 : decode (mC M_R_were) 21 = .ok (.ireturn, 1) := by decide +kernel
theorem d_R_were_22 : decode (mC M_R_were) 22 = .ok (.aload_n 0, 1) := by decide +kernel
theorem d_R_were_23 : decode (mC M_R_were) 23 = .ok (.getfield 13, 3) := by decide +kernel
theorem d_R_were_26 : decode (mC M_R_were) 26 = .ok (.iconst 2, 1) := by decide +kernel
theorem d_R_were_27 : decode (mC M_R_were) 27 = .ok (.iload_n 1, 1) := by decide +kernel
theorem d_R_were_28 : decode (mC M_R_were) 28 = .ok (.iadd, 1) := by decide +kernel
theorem d_R_were_29 : decode (mC M_R_were) 29 = .ok (.iaload, 1) := by decide +kernel
theorem d_R_were_30 : decode (mC M_R_were) 30 = .ok (.istore_n 3, 1) := by decide +kernel
theorem d_R_were_31 : decode (mC M_R_were) 31 = .ok (.aload_n 0, 1) := by decide +kernel
theorem d_R_were_32 : decode (mC M_R_were) 32 = .ok (.getfield 13, 3) := by decide +kernel
theorem d_R_were_35 : decode (mC M_R_were) 35 = .ok (.iconst 2, 1) := by decide +kernel
theorem d_R_were_36 : decode (mC M_R_were) 36 = .ok (.iload_n 1, 1) := by decide +kernel
theorem d_R_were_37 : decode (mC M_R_were) 37 = .ok (.iadd, 1) := by decide +kernel
theorem d_R_were_38 : decode (mC M_R_were) 38 = .ok (.iload_n 2, 1) := by decide +kernel
theorem d_R_were_39 : decode (mC M_R_were) 39 = .ok (.iastore, 1) := by decide +kernel
theorem d_R_were_40 : decode (mC M_R_were) 40 = .ok (.aload_n 0, 1) := by decide +kernel
theorem d_R_were_41 : decode (mC M_R_were) 41 = .ok (.invokevirtual 165, 3) := by decide +kernel
theorem d_R_were_44 : decode (mC M_R_were) 44 = .ok (.istore 4, 2) := by decide +kernel
theorem d_R_were_46 : decode (mC M_R_were) 46 = .ok (.aload_n 0, 1) := by decide +kernel
theorem d_R_were_47 : decode (mC M_R_were) 47 = .ok (.getfield 13, 3) := by decide +kernel
theorem d_R_were_50 : decode (mC M_R_were) 50 = .ok (.iconst 2, 1) := by decide +kernel
theorem d_R_were_51 : decode (mC M_R_were) 51 = .ok (.iload_n 1, 1) := by decide +kernel
theorem d_R_were_52 : decode (mC M_R_were) 52 = .ok (.iadd, 1) := by decide +kernel
theorem d_R_were_53 : decode (mC M_R_were) 53 = .ok (.iload_n 3, 1) := by decide +kernel
theorem d_R_were_54 : decode (mC M_R_were) 54 = .ok (.iastore, 1) := by decide +kernel
theorem d_R_were_55 : decode (mC M_R_were) 55 = .ok (.iload 4, 2) := by decide +kernel
theorem d_R_were_57 : decode (mC M_R_were) 57 = .ok (.ireturn, 1) := by decide +kernel
def vc_R_were_22 (r : Option Value) (hf : hc_H) (J : Nat → hc_K) (lv : hc_L) (st : List Value) (h : hc_H) : Prop := (qi_aload 0 (qi_get 6 2 (qi_push (nI 2) (qi_iload 1 (qi_iadd (qi_iald 0 (qi_istore 3 (qi_aload 0 (qi_get 6 2 (qi_push (nI 2) (qi_iload 1 (qi_iadd (qi_iload 2 (qi_iast (qi_aload 0 (qi_invV hc_tt M_R_fewest 0 6 (qi_istore 4 (qi_aload 0 (qi_get 6 2 (qi_push (nI 2) (qi_iload 1 (qi_iadd (qi_iload 3 (qi_iast (qi_iload 4 (qi_iret r hf)))))))))))))))))))))))))) lv st h
theorem sn_R_were_22 {Ph : Nat → State → Prop} {h0 hf : hc_H} {r : Option Value} : qk Ph M_R_were h0 hf r 22 (vc_R_were_22 r hf (cx Ph M_R_were h0 hf r)) := (qs_aload_n d_R_were_22 rfl (qs_get d_R_were_23 ff_R_13 (qs_iconst d_R_were_26 (by decide) (qs_iload_n d_R_were_27 rfl (qs_iadd d_R_were_28 (qs_iaload d_R_were_29 (qs_istore_n d_R_were_30 rfl (by decide) (qs_aload_n d_R_were_31 rfl (qs_get d_R_were_32 ff_R_13 (qs_iconst d_R_were_35 (by decide) (qs_iload_n d_R_were_36 rfl (qs_iadd d_R_were_37 (qs_iload_n d_R_were_38 rfl (qs_iastore d_R_were_39 (qs_aload_n d_R_were_40 rfl (qs_invV hc_Ph_tt (fun _ _ _ => trivial) d_R_were_41 zz_R_fewest wk_1078 ⟨wk_1043, wk_1044⟩ ⟨_, rfl, rfl⟩ ⟨by decide, by decide⟩ (qs_istore d_R_were_44 (by decide) (qs_aload_n d_R_were_46 rfl (qs_get d_R_were_47 ff_R_13 (qs_iconst d_R_were_50 (by decide) (qs_iload_n d_R_were_51 rfl (qs_iadd d_R_were_52 (qs_iload_n d_R_were_53 rfl (qs_iastore d_R_were_54 (qs_iload d_R_were_55 (qs_iret d_R_were_57 rfl))))))))))))))))))))))))))
def vc_R_were_20 (r : Option Value) (hf : hc_H) (J : Nat → hc_K) (lv : hc_L) (st : List Value) (h : hc_H) : Prop := (qi_push (-1) (qi_iret r hf)) lv st h
theorem sn_R_were_20 {Ph : Nat → State → Prop} {h0 hf : hc_H} {r : Option Value} : qk Ph M_R_were h0 hf r 20 (vc_R_were_20 r hf (cx Ph M_R_were h0 hf r)) := (qs_iconst d_R_were_20 (by decide) (qs_iret d_R_were_21 rfl))
def vc_R_were_0 (r : Option Value) (hf : hc_H) (J : Nat → hc_K) (lv : hc_L) (st : List Value) (h : hc_H) : Prop := (qi_aload 0 (qi_iload 1 (qi_invV hc_tt M_R_isTask 1 6 (qi_if_eq (vc_R_were_20 r hf J) (qi_iload 2 (qi_i2l (qi_pushl (lN 1) (qi_pushl (lN 60) (qi_invS hc_tt M_R_in 3 (qi_if_ne (vc_R_were_22 r hf J) (vc_R_were_20 r hf J))))))))))) lv st h
theorem sn_R_were_0 {Ph : Nat → State → Prop} {h0 hf : hc_H} {r : Option Value} : qk Ph M_R_were h0 hf r 0 (vc_R_were_0 r hf (cx Ph M_R_were h0 hf r)) := (qs_aload_n d_R_were_0 rfl (qs_iload_n d_R_were_1 rfl (qs_invV hc_Ph_tt (fun _ _ _ => trivial) d_R_were_2 zz_R_isTask wk_988 ⟨wk_990, wk_36⟩ ⟨_, rfl, rfl⟩ ⟨by decide, by decide⟩ (qs_if_eq (tgt := 20) d_R_were_5 (by decide) sn_R_were_20 (qs_iload_n d_R_were_8 rfl (qs_i2l d_R_were_9 (qs_lconst d_R_were_10 rfl (qs_ldc2 d_R_were_11 (by first | exact wk_992 | exact (show _ ∈ lw_g from wk_992)) (qs_invS hc_Ph_tt (fun _ _ _ => trivial) d_R_were_14 zz_R_in wk_903 wk_904 ⟨by decide, by decide⟩ (qs_if_ne (tgt := 22) d_R_were_17 (by decide) sn_R_were_22 sn_R_were_20))))))))))
/-! BalancedLineModel.shortest(I)I -/
abbrev M_R_shortest : hc_M := (⟨"BalancedLineModel", "shortest", "(I)I"⟩, prog_8_method_47_code, 5, (some .int), 5, 116)
theorem d_R_shortest_0 : decode (mC M_R_shortest) 0 = .ok (.iload_n 1, 1) := by decide +kernel
theorem d_R_shortest_1 : decode (mC M_R_shortest) 1 = .ok (.i2l, 1) := by decide +kernel
theorem d_R_shortest_2 : decode (mC M_R_shortest) 2 = .ok (.lconst 1, 1) := by decide +kernel
theorem d_R_shortest_3 : decode (mC M_R_shortest) 3 = .ok (.ldc2_w 144, 3) := by decide +kernel
theorem d_R_shortest_6 : decode (mC M_R_shortest) 6 = .ok (.invokestatic 56, 3) := by decide +kernel
theorem d_R_shortest_9 : decode (mC M_R_shortest) 9 = .ok (.ifCond .ne 5, 3) := by decide +kernel
theorem d_R_shortest_12 : decode (mC M_R_shortest) 12 = .ok (.iconst (-1), 1) := by decide +kernel
theorem d_R_shortest_13 : decode (mC M_R_shortest) 13 = .ok (.ireturn, 1) := by decide +kernel
theorem d_R_shortest_14 : decode (mC M_R_shortest) 14 = .ok (.aload_n 0, 1) := by decide +kernel
theorem d_R_shortest_15 : decode (mC M_R_shortest) 15 = .ok (.sipush 720, 3) := by decide +kernel
theorem d_R_shortest_18 : decode (mC M_R_shortest) 18 = .ok (.invokevirtual 159, 3) := by decide +kernel
theorem d_R_shortest_21 : decode (mC M_R_shortest) 21 = .ok (.iload_n 1, 1) := by decide +kernel
theorem d_R_shortest_22 : decode (mC M_R_shortest) 22 = .ok (.if_icmp .le 6, 3) := by decide +kernel
theorem d_R_shortest_25 : decode (mC M_R_shortest) 25 = .ok (.bipush (-4), 2) := by decide +kernel
theorem d_R_shortest_27 : decode (mC M_R_shortest) 27 = .ok (.ireturn, 1) := by decide +kernel
theorem d_R_shortest_28 : decode (mC M_R_shortest) 28 = .ok (.iconst 1, 1) := by decide +kernel
theorem d_R_shortest_29 : decode (mC M_R_shortest) 29 = .ok (.istore_n 2, 1) := by decide +kernel
theorem d_R_shortest_30 : decode (mC M_R_shortest) 30 = .ok (.sipush 720, 3) := by decide +kernel
theorem d_R_shortest_33 : decode (mC M_R_shortest) 33 = .ok (.istore_n 3, 1) := by decide +kernel
theorem d_R_shortest_34 : decode (mC M_R_shortest) 34 = .ok (.iload_n 2, 1) := by decide +kernel
theorem d_R_shortest_35 : decode (mC M_R_shortest) 35 = .ok (.iload_n 3, 1) := by decide +kernel
theorem d_R_shortest_36 : decode (mC M_R_shortest) 36 = .ok (.if_icmp .ge 34, 3) := by decide +kernel
theorem d_R_shortest_39 : decode (mC M_R_shortest) 39 = .ok (.iload_n 2, 1) := by decide +kernel
theorem d_R_shortest_40 : decode (mC M_R_shortest) 40 = .ok (.iload_n 3, 1) := by decide +kernel
theorem d_R_shortest_41 : decode (mC M_R_shortest) 41 = .ok (.iadd, 1) := by decide +kernel
theorem d_R_shortest_42 : decode (mC M_R_shortest) 42 = .ok (.iconst 2, 1) := by decide +kernel
theorem d_R_shortest_43 : decode (mC M_R_shortest) 43 = .ok (.idiv, 1) := by decide +kernel
theorem d_R_shortest_44 : decode (mC M_R_shortest) 44 = .ok (.istore 4, 2) := by decide +kernel
theorem d_R_shortest_46 : decode (mC M_R_shortest) 46 = .ok (.aload_n 0, 1) := by decide +kernel
theorem d_R_shortest_47 : decode (mC M_R_shortest) 47 = .ok (.iload 4, 2) := by decide +kernel
theorem d_R_shortest_49 : decode (mC M_R_shortest) 49 = .ok (.invokevirtual 159, 3) := by decide +kernel
theorem d_R_shortest_52 : decode (mC M_R_shortest) 52 = .ok (.iload_n 1, 1) := by decide +kernel
theorem d_R_shortest_53 : decode (mC M_R_shortest) 53 = .ok (.if_icmp .gt 9, 3) := by decide +kernel
theorem d_R_shortest_56 : decode (mC M_R_shortest) 56 = .ok (.iload 4, 2) := by decide +kernel
theorem d_R_shortest_58 : decode (mC M_R_shortest) 58 = .ok (.istore_n 3, 1) := by decide +kernel
theorem d_R_shortest_59 : decode (mC M_R_shortest) 59 = .ok (.goto 8, 3) := by decide +kernel
theorem d_R_shortest_62 : decode (mC M_R_shortest) 62 = .ok (.iload 4, 2) := by decide +kernel
theorem d_R_shortest_64 : decode (mC M_R_shortest) 64 = .ok (.iconst 1, 1) := by decide +kernel
theorem d_R_shortest_65 : decode (mC M_R_shortest) 65 = .ok (.iadd, 1) := by decide +kernel
theorem d_R_shortest_66 : decode (mC M_R_shortest) 66 = .ok (.istore_n 2, 1) := by decide +kernel
theorem d_R_shortest_67 : decode (mC M_R_shortest) 67 = .ok (.goto (-33), 3) := by decide +kernel
theorem d_R_shortest_70 : decode (mC M_R_shortest) 70 = .ok (.iload_n 2, 1) := by decide +kernel
theorem d_R_shortest_71 : decode (mC M_R_shortest) 71 = .ok (.ireturn, 1) := by decide +kernel
def vc_R_shortest_70 (r : Option Value) (hf : hc_H) (J : Nat → hc_K) (lv : hc_L) (st : List Value) (h : hc_H) : Prop := (qi_iload 2 (qi_iret r hf)) lv st h
theorem sn_R_shortest_70 {Ph : Nat → State → Prop} {h0 hf : hc_H} {r : Option Value} : qk Ph M_R_shortest h0 hf r 70 (vc_R_shortest_70 r hf (cx Ph M_R_shortest h0 hf r)) := (qs_iload_n d_R_shortest_70 rfl (qs_iret d_R_shortest_71 rfl))
def vc_R_shortest_67 (r : Option Value) (hf : hc_H) (J : Nat → hc_K) (lv : hc_L) (st : List Value) (h : hc_H) : Prop := (J 34) lv st h
theorem sn_R_shortest_67 {Ph : Nat → State → Prop} {h0 hf : hc_H} {r : Option Value} : qk Ph M_R_shortest h0 hf r 67 (vc_R_shortest_67 r hf (cx Ph M_R_shortest h0 hf r)) := (qs_goto (tgt := 34) d_R_shortest_67 (by decide) (fun _ _ _ h9 => h9))
def vc_R_shortest_62 (r : Option Value) (hf : hc_H) (J : Nat → hc_K) (lv : hc_L) (st : List Value) (h : hc_H) : Prop := (qi_iload 4 (qi_push (nI 1) (qi_iadd (qi_istore 2 (vc_R_shortest_67 r hf J))))) lv st h
theorem sn_R_shortest_62 {Ph : Nat → State → Prop} {h0 hf : hc_H} {r : Option Value} : qk Ph M_R_shortest h0 hf r 62 (vc_R_shortest_62 r hf (cx Ph M_R_shortest h0 hf r)) := (qs_iload d_R_shortest_62 (qs_iconst d_R_shortest_64 (by decide) (qs_iadd d_R_shortest_65 (qs_istore_n d_R_shortest_66 rfl (by decide) sn_R_shortest_67))))
def vc_R_shortest_34 (r : Option Value) (hf : hc_H) (J : Nat → hc_K) (lv : hc_L) (st : List Value) (h : hc_H) : Prop := (qi_iload 2 (qi_iload 3 (qi_icmp_ge (vc_R_shortest_70 r hf J) (qi_iload 2 (qi_iload 3 (qi_iadd (qi_push (nI 2) (qi_idiv (qi_istore 4 (qi_aload 0 (qi_iload 4 (qi_invV hc_tt M_R_findRest 1 6 (qi_iload 1 (qi_icmp_gt (vc_R_shortest_62 r hf J) (qi_iload 4 (qi_istore 3 (vc_R_shortest_67 r hf J))))))))))))))))) lv st h
theorem sn_R_shortest_34 {Ph : Nat → State → Prop} {h0 hf : hc_H} {r : Option Value} : qk Ph M_R_shortest h0 hf r 34 (vc_R_shortest_34 r hf (cx Ph M_R_shortest h0 hf r)) := (qs_iload_n d_R_shortest_34 rfl (qs_iload_n d_R_shortest_35 rfl (qs_icmp_ge (tgt := 70) d_R_shortest_36 (by decide) sn_R_shortest_70 (qs_iload_n d_R_shortest_39 rfl (qs_iload_n d_R_shortest_40 rfl (qs_iadd d_R_shortest_41 (qs_iconst d_R_shortest_42 (by decide) (qs_idiv d_R_shortest_43 (qs_istore d_R_shortest_44 (by decide) (qs_aload_n d_R_shortest_46 rfl (qs_iload d_R_shortest_47 (qs_invV hc_Ph_tt (fun _ _ _ => trivial) d_R_shortest_49 zz_R_findRest wk_1050 ⟨wk_1052, wk_41⟩ ⟨_, rfl, rfl⟩ ⟨by decide, by decide⟩ (qs_iload_n d_R_shortest_52 rfl (qs_icmp_gt (tgt := 62) d_R_shortest_53 (by decide) sn_R_shortest_62 (qs_iload d_R_shortest_56 (qs_istore_n d_R_shortest_58 rfl (by decide) (qs_goto (tgt := 67) d_R_shortest_59 (by decide) sn_R_shortest_67)))))))))))))))))
def vc_R_shortest_28 (r : Option Value) (hf : hc_H) (J : Nat → hc_K) (lv : hc_L) (st : List Value) (h : hc_H) : Prop := (qi_push (nI 1) (qi_istore 2 (qi_push (nI 720) (qi_istore 3 (J 34))))) lv st h
theorem sn_R_shortest_28 {Ph : Nat → State → Prop} {h0 hf : hc_H} {r : Option Value} : qk Ph M_R_shortest h0 hf r 28 (vc_R_shortest_28 r hf (cx Ph M_R_shortest h0 hf r)) := (qs_iconst d_R_shortest_28 (by decide) (qs_istore_n d_R_shortest_29 rfl (by decide) (qs_sipush d_R_shortest_30 (by decide) (qs_istore_n d_R_shortest_33 rfl (by decide) (fun _ _ _ h9 => h9)))))
def vc_R_shortest_14 (r : Option Value) (hf : hc_H) (J : Nat → hc_K) (lv : hc_L) (st : List Value) (h : hc_H) : Prop := (qi_aload 0 (qi_push (nI 720) (qi_invV hc_tt M_R_findRest 1 6 (qi_iload 1 (qi_icmp_le (vc_R_shortest_28 r hf J) (qi_push (-4) (qi_iret r hf))))))) lv st h
theorem sn_R_shortest_14 {Ph : Nat → State → Prop} {h0 hf : hc_H} {r : Option Value} : qk Ph M_R_shortest h0 hf r 14 (vc_R_shortest_14 r hf (cx Ph M_R_shortest h0 hf r)) := (qs_aload_n d_R_shortest_14 rfl (qs_sipush d_R_shortest_15 (by decide) (qs_invV hc_Ph_tt (fun _ _ _ => trivial) d_R_shortest_18 zz_R_findRest wk_1050 ⟨wk_1052, wk_41⟩ ⟨_, rfl, rfl⟩ ⟨by decide, by decide⟩ (qs_iload_n d_R_shortest_21 rfl (qs_icmp_le (tgt := 28) d_R_shortest_22 (by decide) sn_R_shortest_28 (qs_bipush d_R_shortest_25 (by decide) (qs_iret d_R_shortest_27 rfl)))))))
def vc_R_shortest_0 (r : Option Value) (hf : hc_H) (J : Nat → hc_K) (lv : hc_L) (st : List Value) (h : hc_H) : Prop := (qi_iload 1 (qi_i2l (qi_pushl (lN 1) (qi_pushl (lN 12) (qi_invS hc_tt M_R_in 3 (qi_if_ne (vc_R_shortest_14 r hf J) (qi_push (-1) (qi_iret r hf)))))))) lv st h
theorem sn_R_shortest_0 {Ph : Nat → State → Prop} {h0 hf : hc_H} {r : Option Value} : qk Ph M_R_shortest h0 hf r 0 (vc_R_shortest_0 r hf (cx Ph M_R_shortest h0 hf r)) := (qs_iload_n d_R_shortest_0 rfl (qs_i2l d_R_shortest_1 (qs_lconst d_R_shortest_2 rfl (qs_ldc2 d_R_shortest_3 (by first | exact wk_1025 | exact (show _ ∈ lw_g from wk_1025)) (qs_invS hc_Ph_tt (fun _ _ _ => trivial) d_R_shortest_6 zz_R_in wk_903 wk_904 ⟨by decide, by decide⟩ (qs_if_ne (tgt := 14) d_R_shortest_9 (by decide) sn_R_shortest_14 (qs_iconst d_R_shortest_12 (by decide) (qs_iret d_R_shortest_13 rfl))))))))
/-! BalancedLineModel.many()I -/
abbrev M_R_many : hc_M := (⟨"BalancedLineModel", "many", "()I"⟩, prog_8_method_48_code, 6, (some .int), 7, 158)
theorem d_R_many_0 : decode (mC M_R_many) 0 = .ok (.aload_n 0, 1) := by decide +kernel
theorem d_R_many_1 : decode (mC M_R_many) 1 = .ok (.invokevirtual 165, 3) := by decide +kernel
theorem d_R_many_4 : decode (mC M_R_many) 4 = .ok (.bipush (-4), 2) := by decide +kernel
theorem d_R_many_6 : decode (mC M_R_many) 6 = .ok (.if_icmp .ne 5, 3) := by decide +kernel
theorem d_R_many_9 : decode (mC M_R_many) 9 = .ok (.iconst 0, 1) := by decide +kernel
theorem d_R_many_10 : decode (mC M_R_many) 10 = .ok (.ireturn, 1) := by decide +kernel
theorem d_R_many_11 : decode (mC M_R_many) 11 = .ok (.aload_n 0, 1) := by decide +kernel
theorem d_R_many_12 : decode (mC M_R_many) 12 = .ok (.getfield 32, 3) := by decide +kernel
theorem d_R_many_15 : decode (mC M_R_many) 15 = .ok (.aload_n 0, 1) := by decide +kernel
theorem d_R_many_16 : decode (mC M_R_many) 16 = .ok (.invokevirtual 146, 3) := by decide +kernel
theorem d_R_many_19 : decode (mC M_R_many) 19 = .ok (.iconst 1, 1) := by decide +kernel
theorem d_R_many_20 : decode (mC M_R_many) 20 = .ok (.iastore, 1) := by decide +kernel
theorem d_R_many_21 : decode (mC M_R_many) 21 = .ok (.aload_n 0, 1) := by decide +kernel
theorem d_R_many_22 : decode (mC M_R_many) 22 = .ok (.invokevirtual 146, 3) := by decide +kernel
theorem d_R_many_25 : decode (mC M_R_many) 25 = .ok (.iconst 1, 1) := by decide +kernel
theorem d_R_many_26 : decode (mC M_R_many) 26 = .ok (.isub, 1) := by decide +kernel
theorem d_R_many_27 : decode (mC M_R_many) 27 = .ok (.istore_n 1, 1) := by decide +kernel
theorem d_R_many_28 : decode (mC M_R_many) 28 = .ok (.iload_n 1, 1) := by decide +kernel
theorem d_R_many_29 : decode (mC M_R_many) 29 = .ok (.ifCond .lt 132, 3) := by decide +kernel
theorem d_R_many_32 : decode (mC M_R_many) 32 = .ok (.aload_n 0, 1) := by decide +kernel
theorem d_R_many_33 : decode (mC M_R_many) 33 = .ok (.invokevirtual 146, 3) := by decide +kernel
theorem d_R_many_36 : decode (mC M_R_many) 36 = .ok (.iload_n 1, 1) := by decide +kernel
theorem d_R_many_37 : decode (mC M_R_many) 37 = .ok (.iconst (-1), 1) := by decide +kernel
theorem d_R_many_38 : decode (mC M_R_many) 38 = .ok (.ixor, 1) := by decide +kernel
theorem d_R_many_39 : decode (mC M_R_many) 39 = .ok (.iand, 1) := by decide +kernel
theorem d_R_many_40 : decode (mC M_R_many) 40 = .ok (.istore_n 2, 1) := by decide +kernel
theorem d_R_many_41 : decode (mC M_R_many) 41 = .ok (.aload_n 0, 1) := by decide +kernel
theorem d_R_many_42 : decode (mC M_R_many) 42 = .ok (.getfield 32, 3) := by decide +kernel
theorem d_R_many_45 : decode (mC M_R_many) 45 = .ok (.iload_n 1, 1) := by decide +kernel
theorem d_R_many_46 : decode (mC M_R_many) 46 = .ok (.iconst 0, 1) := by decide +kernel
theorem d_R_many_47 : decode (mC M_R_many) 47 = .ok (.iastore, 1) := by decide +kernel
theorem d_R_many_48 : decode (mC M_R_many) 48 = .ok (.iload_n 2, 1) := by decide +kernel
theorem d_R_many_49 : decode (mC M_R_many) 49 = .ok (.istore_n 3, 1) := by decide +kernel
theorem d_R_many_50 : decode (mC M_R_many) 50 = .ok (.iload_n 3, 1) := by decide +kernel
theorem d_R_many_51 : decode (mC M_R_many) 51 = .ok (.ifCond .le 104, 3) := by decide +kernel
theorem d_R_many_54 : decode (mC M_R_many) 54 = .ok (.aload_n 0, 1) := by decide +kernel
theorem d_R_many_55 : decode (mC M_R_many) 55 = .ok (.getfield 29, 3) := by decide +kernel
theorem d_R_many_58 : decode (mC M_R_many) 58 = .ok (.iload_n 1, 1) := by decide +kernel
theorem d_R_many_59 : decode (mC M_R_many) 59 = .ok (.iaload, 1) := by decide +kernel
theorem d_R_many_60 : decode (mC M_R_many) 60 = .ok (.bipush 100, 2) := by decide +kernel
theorem d_R_many_62 : decode (mC M_R_many) 62 = .ok (.if_icmp .ge 35, 3) := by decide +kernel
theorem d_R_many_65 : decode (mC M_R_many) 65 = .ok (.aload_n 0, 1) := by decide +kernel
theorem d_R_many_66 : decode (mC M_R_many) 66 = .ok (.getfield 29, 3) := by decide +kernel
theorem d_R_many_69 : decode (mC M_R_many) 69 = .ok (.iload_n 1, 1) := by decide +kernel
theorem d_R_many_70 : decode (mC M_R_many) 70 = .ok (.iload_n 3, 1) := by decide +kernel
theorem d_R_many_71 : decode (mC M_R_many) 71 = .ok (.ior, 1) := by decide +kernel
theorem d_R_many_72 : decode (mC M_R_many) 72 = .ok (.iaload, 1) := by decide +kernel
theorem d_R_many_73 : decode (mC M_R_many) 73 = .ok (.iconst 1, 1) := by decide +kernel
theorem d_R_many_74 : decode (mC M_R_many) 74 = .ok (.iadd, 1) := by decide +kernel
theorem d_R_many_75 : decode (mC M_R_many) 75 = .ok (.aload_n 0, 1) := by decide +kernel
theorem d_R_many_76 : decode (mC M_R_many) 76 = .ok (.getfield 29, 3) := by decide +kernel
theorem d_R_many_79 : decode (mC M_R_many) 79 = .ok (.iload_n 1, 1) := by decide +kernel
theorem d_R_many_80 : decode (mC M_R_many) 80 = .ok (.iaload, 1) := by decide +kernel
theorem d_R_many_81 : decode (mC M_R_many) 81 = .ok (.if_icmp .ne 16, 3) := by decide +kernel
theorem d_R_many_84 : decode (mC M_R_many) 84 = .ok (.aload_n 0, 1) := by decide +kernel
theorem d_R_many_85 : decode (mC M_R_many) 85 = .ok (.iload_n 1, 1) := by decide +kernel
theorem d_R_many_86 : decode (mC M_R_many) 86 = .ok (.iload_n 3, 1) := by decide +kernel
theorem d_R_many_87 : decode (mC M_R_many) 87 = .ok (.invokevirtual 156, 3) := by decide +kernel
theorem d_R_many_90 : decode (mC M_R_many) 90 = .ok (.ifCond .eq 7, 3) := by decide +kernel
theorem d_R_many_93 : decode (mC M_R_many) 93 = .ok (.iconst 1, 1) := by decide +kernel
theorem d_R_many_94 : decode (mC M_R_many) 94 = .ok (.goto 4, 3) := by decide +kernel
theorem d_R_many_97 : decode (mC M_R_many) 97 = .ok (.iconst 0, 1) := by decide +kernel
theorem d_R_many_98 : decode (mC M_R_many) 98 = .ok (.istore 4, 2) := by decide +kernel
theorem d_R_many_100 : decode (mC M_R_many) 100 = .ok (.aload_n 0, 1) := by decide +kernel
theorem d_R_many_101 : decode (mC M_R_many) 101 = .ok (.getfield 32, 3) := by decide +kernel
theorem d_R_many_104 : decode (mC M_R_many) 104 = .ok (.iload_n 1, 1) := by decide +kernel
theorem d_R_many_105 : decode (mC M_R_many) 105 = .ok (.iaload, 1) := by decide +kernel
theorem d_R_many_106 : decode (mC M_R_many) 106 = .ok (.iload 4, 2) := by decide +kernel
theorem d_R_many_108 : decode (mC M_R_many) 108 = .ok (.ifCond .eq 14, 3) := by decide +kernel
theorem d_R_many_111 : decode (mC M_R_many) 111 = .ok (.aload_n 0, 1) := by decide +kernel
theorem d_R_many_112 : decode (mC M_R_many) 112 = .ok (.getfield 32, 3) := by decide +kernel
theorem d_R_many_115 : decode (mC M_R_many) 115 = .ok (.iload_n 1, 1) := by decide +kernel
theorem d_R_many_116 : decode (mC M_R_many) 116 = .ok (.iload_n 3, 1) := by decide +kernel
theorem d_R_many_117 : decode (mC M_R_many) 117 = .ok (.ior, 1) := by decide +kernel
theorem d_R_many_118 : decode (mC M_R_many) 118 = .ok (.iaload, 1) := by decide +kernel
theorem d_R_many_119 : decode (mC M_R_many) 119 = .ok (.goto 4, 3) := by decide +kernel
theorem d_R_many_122 : decode (mC M_R_many) 122 = .ok (.iconst 0, 1) := by decide +kernel
theorem d_R_many_123 : decode (mC M_R_many) 123 = .ok (.iadd, 1) := by decide +kernel
theorem d_R_many_124 : decode (mC M_R_many) 124 = .ok (.istore 5, 2) := by decide +kernel
theorem d_R_many_126 : decode (mC M_R_many) 126 = .ok (.aload_n 0, 1) := by decide +kernel
theorem d_R_many_127 : decode (mC M_R_many) 127 = .ok (.getfield 32, 3) := by decide +kernel
theorem d_R_many_130 : decode (mC M_R_many) 130 = .ok (.iload_n 1, 1) := by decide +kernel
theorem d_R_many_131 : decode (mC M_R_many) 131 = .ok (.iload 5, 2) := by decide +kernel
theorem d_R_many_133 : decode (mC M_R_many) 133 = .ok (.ldc 168, 2) := by decide +kernel
theorem d_R_many_135 : decode (mC M_R_many) 135 = .ok (.if_icmp .le 8, 3) := by decide +kernel
theorem d_R_many_138 : decode (mC M_R_many) 138 = .ok (.ldc 168, 2) := by decide +kernel
theorem d_R_many_140 : decode (mC M_R_many) 140 = .ok (.goto 5, 3) := by decide +kernel
theorem d_R_many_143 : decode (mC M_R_many) 143 = .ok (.iload 5, 2) := by decide +kernel
theorem d_R_many_145 : decode (mC M_R_many) 145 = .ok (.iastore, 1) := by decide +kernel
theorem d_R_many_146 : decode (mC M_R_many) 146 = .ok (.iload_n 3, 1) := by decide +kernel
theorem d_R_many_147 : decode (mC M_R_many) 147 = .ok (.iconst 1, 1) := by decide +kernel
theorem d_R_many_148 : decode (mC M_R_many) 148 = .ok (.isub, 1) := by decide +kernel
theorem d_R_many_149 : decode (mC M_R_many) 149 = .ok (.iload_n 2, 1) := by decide +kernel
theorem d_R_many_150 : decode (mC M_R_many) 150 = .ok (.iand, 1) := by decide +kernel
theorem d_R_many_151 : decode (mC M_R_many) 151 = .ok (.istore_n 3, 1) := by decide +kernel
theorem d_R_many_152 : decode (mC M_R_many) 152 = .ok (.goto (-102), 3) := by decide +kernel
theorem d_R_many_155 : decode (mC M_R_many) 155 = .ok (.iinc 1 (-1), 3) := by decide +kernel
theorem d_R_many_158 : decode (mC M_R_many) 158 = .ok (.goto (-130), 3) := by decide +kernel
theorem d_R_many_161 : decode (mC M_R_many) 161 = .ok (.aload_n 0, 1) := by decide +kernel
theorem d_R_many_162 : decode (mC M_R_many) 162 = .ok (.getfield 32, 3) := by decide +kernel
theorem d_R_many_165 : decode (mC M_R_many) 165 = .ok (.iconst 0, 1) := by decide +kernel
theorem d_R_many_166 : decode (mC M_R_many) 166 = .ok (.iaload, 1) := by decide +kernel
theorem d_R_many_167 : decode (mC M_R_many) 167 = .ok (.ireturn, 1) := by decide +kernel
def vc_R_many_161 (r : Option Value) (hf : hc_H) (J : Nat → hc_K) (lv : hc_L) (st : List Value) (h : hc_H) : Prop := (qi_aload 0 (qi_get 6 10 (qi_push (nI 0) (qi_iald 0 (qi_iret r hf))))) lv st h
theorem sn_R_many_161 {Ph : Nat → State → Prop} {h0 hf : hc_H} {r : Option Value} : qk Ph M_R_many h0 hf r 161 (vc_R_many_161 r hf (cx Ph M_R_many h0 hf r)) := (qs_aload_n d_R_many_161 rfl (qs_get d_R_many_162 ff_R_32 (qs_iconst d_R_many_165 (by decide) (qs_iaload d_R_many_166 (qs_iret d_R_many_167 rfl)))))
def vc_R_many_155 (r : Option Value) (hf : hc_H) (J : Nat → hc_K) (lv : hc_L) (st : List Value) (h : hc_H) : Prop := (qi_iinc 1 (-1) (J 28)) lv st h
theorem sn_R_many_155 {Ph : Nat → State → Prop} {h0 hf : hc_H} {r : Option Value} : qk Ph M_R_many h0 hf r 155 (vc_R_many_155 r hf (cx Ph M_R_many h0 hf r)) := (qs_iinc d_R_many_155 (by decide) (by decide) (qs_goto (tgt := 28) d_R_many_158 (by decide) (fun _ _ _ h9 => h9)))
def vc_R_many_145 (r : Option Value) (hf : hc_H) (J : Nat → hc_K) (lv : hc_L) (st : List Value) (h : hc_H) : Prop := (qi_iast (qi_iload 3 (qi_push (nI 1) (qi_isub (qi_iload 2 (qi_iand (qi_istore 3 (J 50)))))))) lv st h
theorem sn_R_many_145 {Ph : Nat → State → Prop} {h0 hf : hc_H} {r : Option Value} : qk Ph M_R_many h0 hf r 145 (vc_R_many_145 r hf (cx Ph M_R_many h0 hf r)) := (qs_iastore d_R_many_145 (qs_iload_n d_R_many_146 rfl (qs_iconst d_R_many_147 (by decide) (qs_isub d_R_many_148 (qs_iload_n d_R_many_149 rfl (qs_iand d_R_many_150 (qs_istore_n d_R_many_151 rfl (by decide) (qs_goto (tgt := 50) d_R_many_152 (by decide) (fun _ _ _ h9 => h9)))))))))
def vc_R_many_143 (r : Option Value) (hf : hc_H) (J : Nat → hc_K) (lv : hc_L) (st : List Value) (h : hc_H) : Prop := (qi_iload 5 (vc_R_many_145 r hf J)) lv st h
theorem sn_R_many_143 {Ph : Nat → State → Prop} {h0 hf : hc_H} {r : Option Value} : qk Ph M_R_many h0 hf r 143 (vc_R_many_143 r hf (cx Ph M_R_many h0 hf r)) := (qs_iload d_R_many_143 sn_R_many_145)
def vc_R_many_123 (r : Option Value) (hf : hc_H) (J : Nat → hc_K) (lv : hc_L) (st : List Value) (h : hc_H) : Prop := (qi_iadd (qi_istore 5 (qi_aload 0 (qi_get 6 10 (qi_iload 1 (qi_iload 5 (qi_push (nI 1000000) (qi_icmp_le (vc_R_many_143 r hf J) (qi_push (nI 1000000) (vc_R_many_145 r hf J)))))))))) lv st h
theorem sn_R_many_123 {Ph : Nat → State → Prop} {h0 hf : hc_H} {r : Option Value} : qk Ph M_R_many h0 hf r 123 (vc_R_many_123 r hf (cx Ph M_R_many h0 hf r)) := (qs_iadd d_R_many_123 (qs_istore d_R_many_124 (by decide) (qs_aload_n d_R_many_126 rfl (qs_get d_R_many_127 ff_R_32 (qs_iload_n d_R_many_130 rfl (qs_iload d_R_many_131 (qs_ldc d_R_many_133 (by first | exact wk_1087 | exact (show _ ∈ lw_g from wk_1087)) (qs_icmp_le (tgt := 143) d_R_many_135 (by decide) sn_R_many_143 (qs_ldc d_R_many_138 (by first | exact wk_1087 | exact (show _ ∈ lw_g from wk_1087)) (qs_goto (tgt := 145) d_R_many_140 (by decide) sn_R_many_145))))))))))
def vc_R_many_122 (r : Option Value) (hf : hc_H) (J : Nat → hc_K) (lv : hc_L) (st : List Value) (h : hc_H) : Prop := (qi_push (nI 0) (vc_R_many_123 r hf J)) lv st h
theorem sn_R_many_122 {Ph : Nat → State → Prop} {h0 hf : hc_H} {r : Option Value} : qk Ph M_R_many h0 hf r 122 (vc_R_many_122 r hf (cx Ph M_R_many h0 hf r)) := (qs_iconst d_R_many_122 (by decide) sn_R_many_123)
def vc_R_many_98 (r : Option Value) (hf : hc_H) (J : Nat → hc_K) (lv : hc_L) (st : List Value) (h : hc_H) : Prop := (qi_istore 4 (qi_aload 0 (qi_get 6 10 (qi_iload 1 (qi_iald 0 (qi_iload 4 (qi_if_eq (vc_R_many_122 r hf J) (qi_aload 0 (qi_get 6 10 (qi_iload 1 (qi_iload 3 (qi_ior (qi_iald 0 (vc_R_many_123 r hf J)))))))))))))) lv st h
theorem sn_R_many_98 {Ph : Nat → State → Prop} {h0 hf : hc_H} {r : Option Value} : qk Ph M_R_many h0 hf r 98 (vc_R_many_98 r hf (cx Ph M_R_many h0 hf r)) := (qs_istore d_R_many_98 (by decide) (qs_aload_n d_R_many_100 rfl (qs_get d_R_many_101 ff_R_32 (qs_iload_n d_R_many_104 rfl (qs_iaload d_R_many_105 (qs_iload d_R_many_106 (qs_if_eq (tgt := 122) d_R_many_108 (by decide) sn_R_many_122 (qs_aload_n d_R_many_111 rfl (qs_get d_R_many_112 ff_R_32 (qs_iload_n d_R_many_115 rfl (qs_iload_n d_R_many_116 rfl (qs_ior d_R_many_117 (qs_iaload d_R_many_118 (qs_goto (tgt := 123) d_R_many_119 (by decide) sn_R_many_123))))))))))))))
def vc_R_many_97 (r : Option Value) (hf : hc_H) (J : Nat → hc_K) (lv : hc_L) (st : List Value) (h : hc_H) : Prop := (qi_push (nI 0) (vc_R_many_98 r hf J)) lv st h
theorem sn_R_many_97 {Ph : Nat → State → Prop} {h0 hf : hc_H} {r : Option Value} : qk Ph M_R_many h0 hf r 97 (vc_R_many_97 r hf (cx Ph M_R_many h0 hf r)) := (qs_iconst d_R_many_97 (by decide) sn_R_many_98)
def vc_R_many_50 (r : Option Value) (hf : hc_H) (J : Nat → hc_K) (lv : hc_L) (st : List Value) (h : hc_H) : Prop := (qi_iload 3 (qi_if_le (vc_R_many_155 r hf J) (qi_aload 0 (qi_get 6 9 (qi_iload 1 (qi_iald 0 (qi_push (nI 100) (qi_icmp_ge (vc_R_many_97 r hf J) (qi_aload 0 (qi_get 6 9 (qi_iload 1 (qi_iload 3 (qi_ior (qi_iald 0 (qi_push (nI 1) (qi_iadd (qi_aload 0 (qi_get 6 9 (qi_iload 1 (qi_iald 0 (qi_icmp_ne (vc_R_many_97 r hf J) (qi_aload 0 (qi_iload 1 (qi_iload 3 (qi_invV hc_tt M_R_isNext 2 6 (qi_if_eq (vc_R_many_97 r hf J) (qi_push (nI 1) (vc_R_many_98 r hf J)))))))))))))))))))))))))))) lv st h
theorem sn_R_many_50 {Ph : Nat → State → Prop} {h0 hf : hc_H} {r : Option Value} : qk Ph M_R_many h0 hf r 50 (vc_R_many_50 r hf (cx Ph M_R_many h0 hf r)) := (qs_iload_n d_R_many_50 rfl (qs_if_le (tgt := 155) d_R_many_51 (by decide) sn_R_many_155 (qs_aload_n d_R_many_54 rfl (qs_get d_R_many_55 ff_R_29 (qs_iload_n d_R_many_58 rfl (qs_iaload d_R_many_59 (qs_bipush d_R_many_60 (by decide) (qs_icmp_ge (tgt := 97) d_R_many_62 (by decide) sn_R_many_97 (qs_aload_n d_R_many_65 rfl (qs_get d_R_many_66 ff_R_29 (qs_iload_n d_R_many_69 rfl (qs_iload_n d_R_many_70 rfl (qs_ior d_R_many_71 (qs_iaload d_R_many_72 (qs_iconst d_R_many_73 (by decide) (qs_iadd d_R_many_74 (qs_aload_n d_R_many_75 rfl (qs_get d_R_many_76 ff_R_29 (qs_iload_n d_R_many_79 rfl (qs_iaload d_R_many_80 (qs_icmp_ne (tgt := 97) d_R_many_81 (by decide) sn_R_many_97 (qs_aload_n d_R_many_84 rfl (qs_iload_n d_R_many_85 rfl (qs_iload_n d_R_many_86 rfl (qs_invV hc_Ph_tt (fun _ _ _ => trivial) d_R_many_87 zz_R_isNext wk_1066 ⟨wk_1068, wk_45⟩ ⟨_, rfl, rfl⟩ ⟨by decide, by decide⟩ (qs_if_eq (tgt := 97) d_R_many_90 (by decide) sn_R_many_97 (qs_iconst d_R_many_93 (by decide) (qs_goto (tgt := 98) d_R_many_94 (by decide) sn_R_many_98))))))))))))))))))))))))))))
def vc_R_many_28 (r : Option Value) (hf : hc_H) (J : Nat → hc_K) (lv : hc_L) (st : List Value) (h : hc_H) : Prop := (qi_iload 1 (qi_if_lt (vc_R_many_161 r hf J) (qi_aload 0 (qi_invV hc_tt M_R_all 0 6 (qi_iload 1 (qi_push (-1) (qi_ixor (qi_iand (qi_istore 2 (qi_aload 0 (qi_get 6 10 (qi_iload 1 (qi_push (nI 0) (qi_iast (qi_iload 2 (qi_istore 3 (J 50))))))))))))))))) lv st h
theorem sn_R_many_28 {Ph : Nat → State → Prop} {h0 hf : hc_H} {r : Option Value} : qk Ph M_R_many h0 hf r 28 (vc_R_many_28 r hf (cx Ph M_R_many h0 hf r)) := (qs_iload_n d_R_many_28 rfl (qs_if_lt (tgt := 161) d_R_many_29 (by decide) sn_R_many_161 (qs_aload_n d_R_many_32 rfl (qs_invV hc_Ph_tt (fun _ _ _ => trivial) d_R_many_33 zz_R_all wk_1058 ⟨wk_1060, wk_43⟩ ⟨_, rfl, rfl⟩ ⟨by decide, by decide⟩ (qs_iload_n d_R_many_36 rfl (qs_iconst d_R_many_37 (by decide) (qs_ixor d_R_many_38 (qs_iand d_R_many_39 (qs_istore_n d_R_many_40 rfl (by decide) (qs_aload_n d_R_many_41 rfl (qs_get d_R_many_42 ff_R_32 (qs_iload_n d_R_many_45 rfl (qs_iconst d_R_many_46 (by decide) (qs_iastore d_R_many_47 (qs_iload_n d_R_many_48 rfl (qs_istore_n d_R_many_49 rfl (by decide) (fun _ _ _ h9 => h9)))))))))))))))))
def vc_R_many_11 (r : Option Value) (hf : hc_H) (J : Nat → hc_K) (lv : hc_L) (st : List Value) (h : hc_H) : Prop := (qi_aload 0 (qi_get 6 10 (qi_aload 0 (qi_invV hc_tt M_R_all 0 6 (qi_push (nI 1) (qi_iast (qi_aload 0 (qi_invV hc_tt M_R_all 0 6 (qi_push (nI 1) (qi_isub (qi_istore 1 (J 28)))))))))))) lv st h
theorem sn_R_many_11 {Ph : Nat → State → Prop} {h0 hf : hc_H} {r : Option Value} : qk Ph M_R_many h0 hf r 11 (vc_R_many_11 r hf (cx Ph M_R_many h0 hf r)) := (qs_aload_n d_R_many_11 rfl (qs_get d_R_many_12 ff_R_32 (qs_aload_n d_R_many_15 rfl (qs_invV hc_Ph_tt (fun _ _ _ => trivial) d_R_many_16 zz_R_all wk_1058 ⟨wk_1060, wk_43⟩ ⟨_, rfl, rfl⟩ ⟨by decide, by decide⟩ (qs_iconst d_R_many_19 (by decide) (qs_iastore d_R_many_20 (qs_aload_n d_R_many_21 rfl (qs_invV hc_Ph_tt (fun _ _ _ => trivial) d_R_many_22 zz_R_all wk_1058 ⟨wk_1060, wk_43⟩ ⟨_, rfl, rfl⟩ ⟨by decide, by decide⟩ (qs_iconst d_R_many_25 (by decide) (qs_isub d_R_many_26 (qs_istore_n d_R_many_27 rfl (by decide) (fun _ _ _ h9 => h9))))))))))))
def vc_R_many_0 (r : Option Value) (hf : hc_H) (J : Nat → hc_K) (lv : hc_L) (st : List Value) (h : hc_H) : Prop := (qi_aload 0 (qi_invV hc_tt M_R_fewest 0 6 (qi_push (-4) (qi_icmp_ne (vc_R_many_11 r hf J) (qi_push (nI 0) (qi_iret r hf)))))) lv st h
theorem sn_R_many_0 {Ph : Nat → State → Prop} {h0 hf : hc_H} {r : Option Value} : qk Ph M_R_many h0 hf r 0 (vc_R_many_0 r hf (cx Ph M_R_many h0 hf r)) := (qs_aload_n d_R_many_0 rfl (qs_invV hc_Ph_tt (fun _ _ _ => trivial) d_R_many_1 zz_R_fewest wk_1078 ⟨wk_1043, wk_1044⟩ ⟨_, rfl, rfl⟩ ⟨by decide, by decide⟩ (qs_bipush d_R_many_4 (by decide) (qs_icmp_ne (tgt := 11) d_R_many_6 (by decide) sn_R_many_11 (qs_iconst d_R_many_9 (by decide) (qs_iret d_R_many_10 rfl))))))
/-! BalancedLineModel.isBest(II)Z -/
abbrev M_R_isBest : hc_M := (⟨"BalancedLineModel", "isBest", "(II)Z"⟩, prog_8_method_49_code, 6, (some .boolean), 1, 22)
theorem d_R_isBest_0 : decode (mC M_R_isBest) 0 = .ok (.aload_n 0, 1) := by decide +kernel
theorem d_R_isBest_1 : decode (mC M_R_isBest) 1 = .ok (.getfield 29, 3) := by decide +kernel
theorem d_R_isBest_4 : decode (mC M_R_isBest) 4 = .ok (.iload_n 1, 1) := by decide +kernel
theorem d_R_isBest_5 : decode (mC M_R_isBest) 5 = .ok (.iload_n 2, 1) := by decide +kernel
theorem d_R_isBest_6 : decode (mC M_R_isBest) 6 = .ok (.ior, 1) := by decide +kernel
theorem d_R_isBest_7 : decode (mC M_R_isBest) 7 = .ok (.iaload, 1) := by decide +kernel
theorem d_R_isBest_8 : decode (mC M_R_isBest) 8 = .ok (.iconst 1, 1) := by decide +kernel
theorem d_R_isBest_9 : decode (mC M_R_isBest) 9 = .ok (.iadd, 1) := by decide +kernel
theorem d_R_isBest_10 : decode (mC M_R_isBest) 10 = .ok (.aload_n 0, 1) := by decide +kernel
theorem d_R_isBest_11 : decode (mC M_R_isBest) 11 = .ok (.getfield 29, 3) := by decide +kernel
theorem d_R_isBest_14 : decode (mC M_R_isBest) 14 = .ok (.iload_n 1, 1) := by decide +kernel
theorem d_R_isBest_15 : decode (mC M_R_isBest) 15 = .ok (.iaload, 1) := by decide +kernel
theorem d_R_isBest_16 : decode (mC M_R_isBest) 16 = .ok (.if_icmp .ne 12, 3) := by decide +kernel
theorem d_R_isBest_19 : decode (mC M_R_isBest) 19 = .ok (.aload_n 0, 1) := by decide +kernel
theorem d_R_isBest_20 : decode (mC M_R_isBest) 20 = .ok (.iload_n 1, 1) := by decide +kernel
theorem d_R_isBest_21 : decode (mC M_R_isBest) 21 = .ok (.iload_n 2, 1) := by decide +kernel
theorem d_R_isBest_22 : decode (mC M_R_isBest) 22 = .ok (.invokevirtual 156, 3) := by decide +kernel
theorem d_R_isBest_25 : decode (mC M_R_isBest) 25 = .ok (.ifCond .ne 5, 3) := by decide +kernel
theorem d_R_isBest_28 : decode (mC M_R_isBest) 28 = .ok (.iconst 0, 1) := by decide +kernel
theorem d_R_isBest_29 : decode (mC M_R_isBest) 29 = .ok (.ireturn, 1) := by decide +kernel
theorem d_R_isBest_30 : decode (mC M_R_isBest) 30 = .ok (.aload_n 0, 1) := by decide +kernel
theorem d_R_isBest_31 : decode (mC M_R_isBest) 31 = .ok (.getfield 29, 3) := by decide +kernel
theorem d_R_isBest_34 : decode (mC M_R_isBest) 34 = .ok (.iconst 0, 1) := by decide +kernel
theorem d_R_isBest_35 : decode (mC M_R_isBest) 35 = .ok (.iaload, 1) := by decide +kernel
theorem d_R_isBest_36 : decode (mC M_R_isBest) 36 = .ok (.aload_n 0, 1) := by decide +kernel
theorem d_R_isBest_37 : decode (mC M_R_isBest) 37 = .ok (.getfield 29, 3) := by decide +kernel
theorem d_R_isBest_40 : decode (mC M_R_isBest) 40 = .ok (.iload_n 1, 1) := by decide +kernel
theorem d_R_isBest_41 : decode (mC M_R_isBest) 41 = .ok (.iaload, 1) := by decide +kernel
theorem d_R_isBest_42 : decode (mC M_R_isBest) 42 = .ok (.isub, 1) := by decide +kernel
theorem d_R_isBest_43 : decode (mC M_R_isBest) 43 = .ok (.iconst 1, 1) := by decide +kernel
theorem d_R_isBest_44 : decode (mC M_R_isBest) 44 = .ok (.iadd, 1) := by decide +kernel
theorem d_R_isBest_45 : decode (mC M_R_isBest) 45 = .ok (.istore_n 3, 1) := by decide +kernel
theorem d_R_isBest_46 : decode (mC M_R_isBest) 46 = .ok (.iconst 1, 1) := by decide +kernel
theorem d_R_isBest_47 : decode (mC M_R_isBest) 47 = .ok (.istore 4, 2) := by decide +kernel
theorem d_R_isBest_49 : decode (mC M_R_isBest) 49 = .ok (.iconst 0, 1) := by decide +kernel
theorem d_R_isBest_50 : decode (mC M_R_isBest) 50 = .ok (.istore 5, 2) := by decide +kernel
theorem d_R_isBest_52 : decode (mC M_R_isBest) 52 = .ok (.iload 5, 2) := by decide +kernel
theorem d_R_isBest_54 : decode (mC M_R_isBest) 54 = .ok (.aload_n 0, 1) := by decide +kernel
theorem d_R_isBest_55 : decode (mC M_R_isBest) 55 = .ok (.getfield 13, 3) := by decide +kernel
theorem d_R_isBest_58 : decode (mC M_R_isBest) 58 = .ok (.iconst 0, 1) := by decide +kernel
theorem d_R_isBest_59 : decode (mC M_R_isBest) 59 = .ok (.iaload, 1) := by decide +kernel
theorem d_R_isBest_60 : decode (mC M_R_isBest) 60 = .ok (.if_icmp .ge 58, 3) := by decide +kernel
theorem d_R_isBest_63 : decode (mC M_R_isBest) 63 = .ok (.iload 4, 2) := by decide +kernel
theorem d_R_isBest_65 : decode (mC M_R_isBest) 65 = .ok (.ifCond .eq 44, 3) := by decide +kernel
theorem d_R_isBest_68 : decode (mC M_R_isBest) 68 = .ok (.aload_n 0, 1) := by decide +kernel
theorem d_R_isBest_69 : decode (mC M_R_isBest) 69 = .ok (.getfield 169, 3) := by decide +kernel
theorem d_R_isBest_72 : decode (mC M_R_isBest) 72 = .ok (.iload 5, 2) := by decide +kernel
theorem d_R_isBest_74 : decode (mC M_R_isBest) 74 = .ok (.invokestatic 48, 3) := by decide +kernel
theorem d_R_isBest_77 : decode (mC M_R_isBest) 77 = .ok (.ifCond .eq 28, 3) := by decide +kernel
theorem d_R_isBest_80 : decode (mC M_R_isBest) 80 = .ok (.iload_n 2, 1) := by decide +kernel
theorem d_R_isBest_81 : decode (mC M_R_isBest) 81 = .ok (.iload 5, 2) := by decide +kernel
theorem d_R_isBest_83 : decode (mC M_R_isBest) 83 = .ok (.invokestatic 48, 3) := by decide +kernel
theorem d_R_isBest_86 : decode (mC M_R_isBest) 86 = .ok (.aload_n 0, 1) := by decide +kernel
theorem d_R_isBest_87 : decode (mC M_R_isBest) 87 = .ok (.getfield 41, 3) := by decide +kernel
theorem d_R_isBest_90 : decode (mC M_R_isBest) 90 = .ok (.iload 5, 2) := by decide +kernel
theorem d_R_isBest_92 : decode (mC M_R_isBest) 92 = .ok (.iaload, 1) := by decide +kernel
theorem d_R_isBest_93 : decode (mC M_R_isBest) 93 = .ok (.iload_n 3, 1) := by decide +kernel
theorem d_R_isBest_94 : decode (mC M_R_isBest) 94 = .ok (.if_icmp .ne 7, 3) := by decide +kernel
theorem d_R_isBest_97 : decode (mC M_R_isBest) 97 = .ok (.iconst 1, 1) := by decide +kernel
theorem d_R_isBest_98 : decode (mC M_R_isBest) 98 = .ok (.goto 4, 3) := by decide +kernel
theorem d_R_isBest_101 : decode (mC M_R_isBest) 101 = .ok (.iconst 0, 1) := by decide +kernel
theorem d_R_isBest_102 : decode (mC M_R_isBest) 102 = .ok (.if_icmp .ne 7, 3) := by decide +kernel
theorem d_R_isBest_105 : decode (mC M_R_isBest) 105 = .ok (.iconst 1, 1) := by decide +kernel
theorem d_R_isBest_106 : decode (mC M_R_isBest) 106 = .ok (.goto 4, 3) := by decide +kernel
theorem d_R_isBest_109 : decode (mC M_R_isBest) 109 = .ok (.iconst 0, 1) := by decide +kernel
theorem d_R_isBest_110 : decode (mC M_R_isBest) 110 = .ok (.istore 4, 2) := by decide +kernel
theorem d_R_isBest_112 : decode (mC M_R_isBest) 112 = .ok (.iinc 5 1, 3) := by decide +kernel
theorem d_R_isBest_115 : decode (mC M_R_isBest) 115 = .ok (.goto (-63), 3) := by decide +kernel
theorem d_R_isBest_118 : decode (mC M_R_isBest) 118 = .ok (.iload 4, 2) := by decide +kernel
theorem d_R_isBest_120 : decode (mC M_R_isBest) 120 = .ok (.ireturn, 1) := by decide +kernel
def vc_R_isBest_118 (r : Option Value) (hf : hc_H) (J : Nat → hc_K) (lv : hc_L) (st : List Value) (h : hc_H) : Prop := (qi_iload 4 (qi_zret r hf)) lv st h
theorem sn_R_isBest_118 {Ph : Nat → State → Prop} {h0 hf : hc_H} {r : Option Value} : qk Ph M_R_isBest h0 hf r 118 (vc_R_isBest_118 r hf (cx Ph M_R_isBest h0 hf r)) := (qs_iload d_R_isBest_118 (qs_zret d_R_isBest_120 rfl))
def vc_R_isBest_110 (r : Option Value) (hf : hc_H) (J : Nat → hc_K) (lv : hc_L) (st : List Value) (h : hc_H) : Prop := (qi_istore 4 (qi_iinc 5 (nI 1) (J 52))) lv st h
theorem sn_R_isBest_110 {Ph : Nat → State → Prop} {h0 hf : hc_H} {r : Option Value} : qk Ph M_R_isBest h0 hf r 110 (vc_R_isBest_110 r hf (cx Ph M_R_isBest h0 hf r)) := (qs_istore d_R_isBest_110 (by decide) (qs_iinc d_R_isBest_112 (by decide) (by decide) (qs_goto (tgt := 52) d_R_isBest_115 (by decide) (fun _ _ _ h9 => h9))))
def vc_R_isBest_109 (r : Option Value) (hf : hc_H) (J : Nat → hc_K) (lv : hc_L) (st : List Value) (h : hc_H) : Prop := (qi_push (nI 0) (vc_R_isBest_110 r hf J)) lv st h
theorem sn_R_isBest_109 {Ph : Nat → State → Prop} {h0 hf : hc_H} {r : Option Value} : qk Ph M_R_isBest h0 hf r 109 (vc_R_isBest_109 r hf (cx Ph M_R_isBest h0 hf r)) := (qs_iconst d_R_isBest_109 (by decide) sn_R_isBest_110)
def vc_R_isBest_105 (r : Option Value) (hf : hc_H) (J : Nat → hc_K) (lv : hc_L) (st : List Value) (h : hc_H) : Prop := (qi_push (nI 1) (vc_R_isBest_110 r hf J)) lv st h
theorem sn_R_isBest_105 {Ph : Nat → State → Prop} {h0 hf : hc_H} {r : Option Value} : qk Ph M_R_isBest h0 hf r 105 (vc_R_isBest_105 r hf (cx Ph M_R_isBest h0 hf r)) := (qs_iconst d_R_isBest_105 (by decide) (qs_goto (tgt := 110) d_R_isBest_106 (by decide) sn_R_isBest_110))
def vc_R_isBest_102 (r : Option Value) (hf : hc_H) (J : Nat → hc_K) (lv : hc_L) (st : List Value) (h : hc_H) : Prop := (qi_icmp_ne (vc_R_isBest_109 r hf J) (vc_R_isBest_105 r hf J)) lv st h
theorem sn_R_isBest_102 {Ph : Nat → State → Prop} {h0 hf : hc_H} {r : Option Value} : qk Ph M_R_isBest h0 hf r 102 (vc_R_isBest_102 r hf (cx Ph M_R_isBest h0 hf r)) := (qs_icmp_ne (tgt := 109) d_R_isBest_102 (by decide) sn_R_isBest_109 sn_R_isBest_105)
def vc_R_isBest_101 (r : Option Value) (hf : hc_H) (J : Nat → hc_K) (lv : hc_L) (st : List Value) (h : hc_H) : Prop := (qi_push (nI 0) (vc_R_isBest_102 r hf J)) lv st h
theorem sn_R_isBest_101 {Ph : Nat → State → Prop} {h0 hf : hc_H} {r : Option Value} : qk Ph M_R_isBest h0 hf r 101 (vc_R_isBest_101 r hf (cx Ph M_R_isBest h0 hf r)) := (qs_iconst d_R_isBest_101 (by decide) sn_R_isBest_102)
def vc_R_isBest_52 (r : Option Value) (hf : hc_H) (J : Nat → hc_K) (lv : hc_L) (st : List Value) (h : hc_H) : Prop := (qi_iload 5 (qi_aload 0 (qi_get 6 2 (qi_push (nI 0) (qi_iald 0 (qi_icmp_ge (vc_R_isBest_118 r hf J) (qi_iload 4 (qi_if_eq (vc_R_isBest_109 r hf J) (qi_aload 0 (qi_get 6 14 (qi_iload 5 (qi_invS hc_tt M_R_has 2 (qi_if_eq (vc_R_isBest_105 r hf J) (qi_iload 2 (qi_iload 5 (qi_invS hc_tt M_R_has 2 (qi_aload 0 (qi_get 6 13 (qi_iload 5 (qi_iald 0 (qi_iload 3 (qi_icmp_ne (vc_R_isBest_101 r hf J) (qi_push (nI 1) (vc_R_isBest_102 r hf J)))))))))))))))))))))))) lv st h
theorem sn_R_isBest_52 {Ph : Nat → State → Prop} {h0 hf : hc_H} {r : Option Value} : qk Ph M_R_isBest h0 hf r 52 (vc_R_isBest_52 r hf (cx Ph M_R_isBest h0 hf r)) := (qs_iload d_R_isBest_52 (qs_aload_n d_R_isBest_54 rfl (qs_get d_R_isBest_55 ff_R_13 (qs_iconst d_R_isBest_58 (by decide) (qs_iaload d_R_isBest_59 (qs_icmp_ge (tgt := 118) d_R_isBest_60 (by decide) sn_R_isBest_118 (qs_iload d_R_isBest_63 (qs_if_eq (tgt := 109) d_R_isBest_65 (by decide) sn_R_isBest_109 (qs_aload_n d_R_isBest_68 rfl (qs_get d_R_isBest_69 ff_R_169 (qs_iload d_R_isBest_72 (qs_invS hc_Ph_tt (fun _ _ _ => trivial) d_R_isBest_74 zz_R_has wk_932 wk_933 ⟨by decide, by decide⟩ (qs_if_eq (tgt := 105) d_R_isBest_77 (by decide) sn_R_isBest_105 (qs_iload_n d_R_isBest_80 rfl (qs_iload d_R_isBest_81 (qs_invS hc_Ph_tt (fun _ _ _ => trivial) d_R_isBest_83 zz_R_has wk_932 wk_933 ⟨by decide, by decide⟩ (qs_aload_n d_R_isBest_86 rfl (qs_get d_R_isBest_87 ff_R_41 (qs_iload d_R_isBest_90 (qs_iaload d_R_isBest_92 (qs_iload_n d_R_isBest_93 rfl (qs_icmp_ne (tgt := 101) d_R_isBest_94 (by decide) sn_R_isBest_101 (qs_iconst d_R_isBest_97 (by decide) (qs_goto (tgt := 102) d_R_isBest_98 (by decide) sn_R_isBest_102))))))))))))))))))))))))
def vc_R_isBest_30 (r : Option Value) (hf : hc_H) (J : Nat → hc_K) (lv : hc_L) (st : List Value) (h : hc_H) : Prop := (qi_aload 0 (qi_get 6 9 (qi_push (nI 0) (qi_iald 0 (qi_aload 0 (qi_get 6 9 (qi_iload 1 (qi_iald 0 (qi_isub (qi_push (nI 1) (qi_iadd (qi_istore 3 (qi_push (nI 1) (qi_istore 4 (qi_push (nI 0) (qi_istore 5 (J 52))))))))))))))))) lv st h
theorem sn_R_isBest_30 {Ph : Nat → State → Prop} {h0 hf : hc_H} {r : Option Value} : qk Ph M_R_isBest h0 hf r 30 (vc_R_isBest_30 r hf (cx Ph M_R_isBest h0 hf r)) := (qs_aload_n d_R_isBest_30 rfl (qs_get d_R_isBest_31 ff_R_29 (qs_iconst d_R_isBest_34 (by decide) (qs_iaload d_R_isBest_35 (qs_aload_n d_R_isBest_36 rfl (qs_get d_R_isBest_37 ff_R_29 (qs_iload_n d_R_isBest_40 rfl (qs_iaload d_R_isBest_41 (qs_isub d_R_isBest_42 (qs_iconst d_R_isBest_43 (by decide) (qs_iadd d_R_isBest_44 (qs_istore_n d_R_isBest_45 rfl (by decide) (qs_iconst d_R_isBest_46 (by decide) (qs_istore d_R_isBest_47 (by decide) (qs_iconst d_R_isBest_49 (by decide) (qs_istore d_R_isBest_50 (by decide) (fun _ _ _ h9 => h9)))))))))))))))))
def vc_R_isBest_28 (r : Option Value) (hf : hc_H) (J : Nat → hc_K) (lv : hc_L) (st : List Value) (h : hc_H) : Prop := (qi_push (nI 0) (qi_zret r hf)) lv st h
theorem sn_R_isBest_28 {Ph : Nat → State → Prop} {h0 hf : hc_H} {r : Option Value} : qk Ph M_R_isBest h0 hf r 28 (vc_R_isBest_28 r hf (cx Ph M_R_isBest h0 hf r)) := (qs_iconst d_R_isBest_28 (by decide) (qs_zret d_R_isBest_29 rfl))
def vc_R_isBest_0 (r : Option Value) (hf : hc_H) (J : Nat → hc_K) (lv : hc_L) (st : List Value) (h : hc_H) : Prop := (qi_aload 0 (qi_get 6 9 (qi_iload 1 (qi_iload 2 (qi_ior (qi_iald 0 (qi_push (nI 1) (qi_iadd (qi_aload 0 (qi_get 6 9 (qi_iload 1 (qi_iald 0 (qi_icmp_ne (vc_R_isBest_28 r hf J) (qi_aload 0 (qi_iload 1 (qi_iload 2 (qi_invV hc_tt M_R_isNext 2 6 (qi_if_ne (vc_R_isBest_30 r hf J) (vc_R_isBest_28 r hf J))))))))))))))))))) lv st h
theorem sn_R_isBest_0 {Ph : Nat → State → Prop} {h0 hf : hc_H} {r : Option Value} : qk Ph M_R_isBest h0 hf r 0 (vc_R_isBest_0 r hf (cx Ph M_R_isBest h0 hf r)) := (qs_aload_n d_R_isBest_0 rfl (qs_get d_R_isBest_1 ff_R_29 (qs_iload_n d_R_isBest_4 rfl (qs_iload_n d_R_isBest_5 rfl (qs_ior d_R_isBest_6 (qs_iaload d_R_isBest_7 (qs_iconst d_R_isBest_8 (by decide) (qs_iadd d_R_isBest_9 (qs_aload_n d_R_isBest_10 rfl (qs_get d_R_isBest_11 ff_R_29 (qs_iload_n d_R_isBest_14 rfl (qs_iaload d_R_isBest_15 (qs_icmp_ne (tgt := 28) d_R_isBest_16 (by decide) sn_R_isBest_28 (qs_aload_n d_R_isBest_19 rfl (qs_iload_n d_R_isBest_20 rfl (qs_iload_n d_R_isBest_21 rfl (qs_invV hc_Ph_tt (fun _ _ _ => trivial) d_R_isBest_22 zz_R_isNext wk_1066 ⟨wk_1068, wk_45⟩ ⟨_, rfl, rfl⟩ ⟨by decide, by decide⟩ (qs_if_ne (tgt := 30) d_R_isBest_25 (by decide) sn_R_isBest_30 sn_R_isBest_28))))))))))))))))))
theorem zz_R_isBest : hc_z M_R_isBest 2 := ⟨wk_1103, wk_66, by decide +kernel⟩
