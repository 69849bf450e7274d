/-! BalancedLine$Plan.<init>()V -/
abbrev M_P_init : hc_M := (⟨"BalancedLine$Plan", "<init>", "()V"⟩, prog_4_method_1_code, 1, none, 1, 20)
theorem d_P_init_0 : decode (mC M_P_init) 0 = .ok (.aload_n 0, 1) := by decide +kernel
theorem d_P_init_1 : decode (mC M_P_init) 1 = .ok (.invokespecial 3, 3) := by decide +kernel
theorem d_P_init_4 : decode (mC M_P_init) 4 = .ok (.aload_n 0, 1) := by decide +kernel
theorem d_P_init_5 : decode (mC M_P_init) 5 = .ok (.bipush 12, 2) := by decide +kernel
theorem d_P_init_7 : decode (mC M_P_init) 7 = .ok (.newarray .int, 2) := by decide +kernel
theorem d_P_init_9 : decode (mC M_P_init) 9 = .ok (.putfield 9, 3) := by decide +kernel
theorem d_P_init_12 : decode (mC M_P_init) 12 = .ok (.aload_n 0, 1) := by decide +kernel
theorem d_P_init_13 : decode (mC M_P_init) 13 = .ok (.bipush 12, 2) := by decide +kernel
theorem d_P_init_15 : decode (mC M_P_init) 15 = .ok (.newarray .int, 2) := by decide +kernel
theorem d_P_init_17 : decode (mC M_P_init) 17 = .ok (.putfield 15, 3) := by decide +kernel
theorem d_P_init_20 : decode (mC M_P_init) 20 = .ok (.aload_n 0, 1) := by decide +kernel
theorem d_P_init_21 : decode (mC M_P_init) 21 = .ok (.bipush 12, 2) := by decide +kernel
theorem d_P_init_23 : decode (mC M_P_init) 23 = .ok (.newarray .int, 2) := by decide +kernel
theorem d_P_init_25 : decode (mC M_P_init) 25 = .ok (.putfield 18, 3) := by decide +kernel
theorem d_P_init_28 : decode (mC M_P_init) 28 = .ok (.aload_n 0, 1) := by decide +kernel
theorem d_P_init_29 : decode (mC M_P_init) 29 = .ok (.bipush 12, 2) := by decide +kernel
theorem d_P_init_31 : decode (mC M_P_init) 31 = .ok (.newarray .int, 2) := by decide +kernel
theorem d_P_init_33 : decode (mC M_P_init) 33 = .ok (.putfield 21, 3) := by decide +kernel
theorem d_P_init_36 : decode (mC M_P_init) 36 = .ok (.aload_n 0, 1) := by decide +kernel
theorem d_P_init_37 : decode (mC M_P_init) 37 = .ok (.bipush 12, 2) := by decide +kernel
theorem d_P_init_39 : decode (mC M_P_init) 39 = .ok (.newarray .int, 2) := by decide +kernel
theorem d_P_init_41 : decode (mC M_P_init) 41 = .ok (.putfield 24, 3) := by decide +kernel
theorem d_P_init_44 : decode (mC M_P_init) 44 = .ok (.return_, 1) := by decide +kernel
def vc_P_init_0 (r : Option Value) (hf : hc_H) (J : Nat → hc_K) (lv : hc_L) (st : List Value) (h : hc_H) : Prop := (qi_aload 0 (qi_obj (qi_aload 0 (qi_push (nI 12) (qi_newa 0 (qi_put 2 2 (.array .int) (qi_aload 0 (qi_push (nI 12) (qi_newa 0 (qi_put 2 3 (.array .int) (qi_aload 0 (qi_push (nI 12) (qi_newa 0 (qi_put 2 4 (.array .int) (qi_aload 0 (qi_push (nI 12) (qi_newa 0 (qi_put 2 5 (.array .int) (qi_aload 0 (qi_push (nI 12) (qi_newa 0 (qi_put 2 6 (.array .int) (qi_vret r hf))))))))))))))))))))))) lv st h
theorem sn_P_init_0 {Ph : Nat → State → Prop} {h0 hf : hc_H} {r : Option Value} : qk Ph M_P_init h0 hf r 0 (vc_P_init_0 r hf (cx Ph M_P_init h0 hf r)) := (qs_aload_n d_P_init_0 rfl (qs_obj d_P_init_1 wk_97 wk_75 wk_obj (by decide) (by decide) (qs_aload_n d_P_init_4 rfl (qs_bipush d_P_init_5 (by decide) (qs_new_int d_P_init_7 (qs_putF d_P_init_9 ff_P_9 rfl ⟨_, _, _, rfl, rfl, rfl, by decide +kernel⟩ (qs_aload_n d_P_init_12 rfl (qs_bipush d_P_init_13 (by decide) (qs_new_int d_P_init_15 (qs_putF d_P_init_17 ff_P_15 rfl ⟨_, _, _, rfl, rfl, rfl, by decide +kernel⟩ (qs_aload_n d_P_init_20 rfl (qs_bipush d_P_init_21 (by decide) (qs_new_int d_P_init_23 (qs_putF d_P_init_25 ff_P_18 rfl ⟨_, _, _, rfl, rfl, rfl, by decide +kernel⟩ (qs_aload_n d_P_init_28 rfl (qs_bipush d_P_init_29 (by decide) (qs_new_int d_P_init_31 (qs_putF d_P_init_33 ff_P_21 rfl ⟨_, _, _, rfl, rfl, rfl, by decide +kernel⟩ (qs_aload_n d_P_init_36 rfl (qs_bipush d_P_init_37 (by decide) (qs_new_int d_P_init_39 (qs_putF d_P_init_41 ff_P_24 rfl ⟨_, _, _, rfl, rfl, rfl, by decide +kernel⟩ (qs_vret d_P_init_44 rfl)))))))))))))))))))))))
theorem zz_J_fill : hc_z M_J_fill 2 := ⟨wk_218, wk_62, by decide +kernel⟩
/-! BalancedLine$Plan.clear()V -/
abbrev M_P_clear : hc_M := (⟨"BalancedLine$Plan", "clear", "()V"⟩, prog_4_method_2_code, 1, none, 1, 23)
theorem d_P_clear_0 : decode (mC M_P_clear) 0 = .ok (.aload_n 0, 1) := by decide +kernel
theorem d_P_clear_1 : decode (mC M_P_clear) 1 = .ok (.iconst 0, 1) := by decide +kernel
theorem d_P_clear_2 : decode (mC M_P_clear) 2 = .ok (.putfield 27, 3) := by decide +kernel
theorem d_P_clear_5 : decode (mC M_P_clear) 5 = .ok (.aload_n 0, 1) := by decide +kernel
theorem d_P_clear_6 : decode (mC M_P_clear) 6 = .ok (.iconst 0, 1) := by decide +kernel
theorem d_P_clear_7 : decode (mC M_P_clear) 7 = .ok (.putfield 31, 3) := by decide +kernel
theorem d_P_clear_10 : decode (mC M_P_clear) 10 = .ok (.aload_n 0, 1) := by decide +kernel
theorem d_P_clear_11 : decode (mC M_P_clear) 11 = .ok (.getfield 9, 3) := by decide +kernel
theorem d_P_clear_14 : decode (mC M_P_clear) 14 = .ok (.iconst 0, 1) := by decide +kernel
theorem d_P_clear_15 : decode (mC M_P_clear) 15 = .ok (.invokestatic 34, 3) := by decide +kernel
theorem d_P_clear_18 : decode (mC M_P_clear) 18 = .ok (.aload_n 0, 1) := by decide +kernel
theorem d_P_clear_19 : decode (mC M_P_clear) 19 = .ok (.getfield 15, 3) := by decide +kernel
theorem d_P_clear_22 : decode (mC M_P_clear) 22 = .ok (.iconst 0, 1) := by decide +kernel
theorem d_P_clear_23 : decode (mC M_P_clear) 23 = .ok (.invokestatic 34, 3) := by decide +kernel
theorem d_P_clear_26 : decode (mC M_P_clear) 26 = .ok (.aload_n 0, 1) := by decide +kernel
theorem d_P_clear_27 : decode (mC M_P_clear) 27 = .ok (.getfield 18, 3) := by decide +kernel
theorem d_P_clear_30 : decode (mC M_P_clear) 30 = .ok (.iconst 0, 1) := by decide +kernel
theorem d_P_clear_31 : decode (mC M_P_clear) 31 = .ok (.invokestatic 34, 3) := by decide +kernel
theorem d_P_clear_34 : decode (mC M_P_clear) 34 = .ok (.aload_n 0, 1) := by decide +kernel
theorem d_P_clear_35 : decode (mC M_P_clear) 35 = .ok (.getfield 21, 3) := by decide +kernel
theorem d_P_clear_38 : decode (mC M_P_clear) 38 = .ok (.iconst 0, 1) := by decide +kernel
theorem d_P_clear_39 : decode (mC M_P_clear) 39 = .ok (.invokestatic 34, 3) := by decide +kernel
theorem d_P_clear_42 : decode (mC M_P_clear) 42 = .ok (.aload_n 0, 1) := by decide +kernel
theorem d_P_clear_43 : decode (mC M_P_clear) 43 = .ok (.getfield 24, 3) := by decide +kernel
theorem d_P_clear_46 : decode (mC M_P_clear) 46 = .ok (.iconst 0, 1) := by decide +kernel
theorem d_P_clear_47 : decode (mC M_P_clear) 47 = .ok (.invokestatic 34, 3) := by decide +kernel
theorem d_P_clear_50 : decode (mC M_P_clear) 50 = .ok (.return_, 1) := by decide +kernel
def vc_P_clear_0 (r : Option Value) (hf : hc_H) (J : Nat → hc_K) (lv : hc_L) (st : List Value) (h : hc_H) : Prop := (qi_aload 0 (qi_push (nI 0) (qi_put 2 0 .int (qi_aload 0 (qi_push (nI 0) (qi_put 2 1 .int (qi_aload 0 (qi_get 2 2 (qi_push (nI 0) (qi_invS hc_tt M_J_fill 2 (qi_aload 0 (qi_get 2 3 (qi_push (nI 0) (qi_invS hc_tt M_J_fill 2 (qi_aload 0 (qi_get 2 4 (qi_push (nI 0) (qi_invS hc_tt M_J_fill 2 (qi_aload 0 (qi_get 2 5 (qi_push (nI 0) (qi_invS hc_tt M_J_fill 2 (qi_aload 0 (qi_get 2 6 (qi_push (nI 0) (qi_invS hc_tt M_J_fill 2 (qi_vret r hf))))))))))))))))))))))))))) lv st h
theorem sn_P_clear_0 {Ph : Nat → State → Prop} {h0 hf : hc_H} {r : Option Value} : qk Ph M_P_clear h0 hf r 0 (vc_P_clear_0 r hf (cx Ph M_P_clear h0 hf r)) := (qs_aload_n d_P_clear_0 rfl (qs_iconst d_P_clear_1 (by decide) (qs_put d_P_clear_2 ff_P_27 ⟨_, _, _, rfl, rfl, by decide +kernel⟩ (qs_aload_n d_P_clear_5 rfl (qs_iconst d_P_clear_6 (by decide) (qs_put d_P_clear_7 ff_P_31 ⟨_, _, _, rfl, rfl, by decide +kernel⟩ (qs_aload_n d_P_clear_10 rfl (qs_get d_P_clear_11 ff_P_9 (qs_iconst d_P_clear_14 (by decide) (qs_invS hc_Ph_tt (fun _ _ _ => trivial) d_P_clear_15 zz_J_fill wk_216 wk_217 ⟨by decide, by decide⟩ (qs_aload_n d_P_clear_18 rfl (qs_get d_P_clear_19 ff_P_15 (qs_iconst d_P_clear_22 (by decide) (qs_invS hc_Ph_tt (fun _ _ _ => trivial) d_P_clear_23 zz_J_fill wk_216 wk_217 ⟨by decide, by decide⟩ (qs_aload_n d_P_clear_26 rfl (qs_get d_P_clear_27 ff_P_18 (qs_iconst d_P_clear_30 (by decide) (qs_invS hc_Ph_tt (fun _ _ _ => trivial) d_P_clear_31 zz_J_fill wk_216 wk_217 ⟨by decide, by decide⟩ (qs_aload_n d_P_clear_34 rfl (qs_get d_P_clear_35 ff_P_21 (qs_iconst d_P_clear_38 (by decide) (qs_invS hc_Ph_tt (fun _ _ _ => trivial) d_P_clear_39 zz_J_fill wk_216 wk_217 ⟨by decide, by decide⟩ (qs_aload_n d_P_clear_42 rfl (qs_get d_P_clear_43 ff_P_24 (qs_iconst d_P_clear_46 (by decide) (qs_invS hc_Ph_tt (fun _ _ _ => trivial) d_P_clear_47 zz_J_fill wk_216 wk_217 ⟨by decide, by decide⟩ (qs_vret d_P_clear_50 rfl)))))))))))))))))))))))))))
/-! BalancedLine$Plan.copy(LBalancedLine$Plan;)V -/
abbrev M_P_copy : hc_M := (⟨"BalancedLine$Plan", "copy", "(LBalancedLine$Plan;)V"⟩, prog_4_method_3_code, 2, none, 1, 26)
theorem d_P_copy_0 : decode (mC M_P_copy) 0 = .ok (.aload_n 0, 1) := by decide +kernel
theorem d_P_copy_1 : decode (mC M_P_copy) 1 = .ok (.aload_n 1, 1) := by decide +kernel
theorem d_P_copy_2 : decode (mC M_P_copy) 2 = .ok (.getfield 27, 3) := by decide +kernel
theorem d_P_copy_5 : decode (mC M_P_copy) 5 = .ok (.putfield 27, 3) := by decide +kernel
theorem d_P_copy_8 : decode (mC M_P_copy) 8 = .ok (.aload_n 0, 1) := by decide +kernel
theorem d_P_copy_9 : decode (mC M_P_copy) 9 = .ok (.aload_n 1, 1) := by decide +kernel
theorem d_P_copy_10 : decode (mC M_P_copy) 10 = .ok (.getfield 31, 3) := by decide +kernel
theorem d_P_copy_13 : decode (mC M_P_copy) 13 = .ok (.putfield 31, 3) := by decide +kernel
theorem d_P_copy_16 : decode (mC M_P_copy) 16 = .ok (.aload_n 1, 1) := by decide +kernel
theorem d_P_copy_17 : decode (mC M_P_copy) 17 = .ok (.getfield 9, 3) := by decide +kernel
theorem d_P_copy_20 : decode (mC M_P_copy) 20 = .ok (.iconst 0, 1) := by decide +kernel
theorem d_P_copy_21 : decode (mC M_P_copy) 21 = .ok (.aload_n 0, 1) := by decide +kernel
theorem d_P_copy_22 : decode (mC M_P_copy) 22 = .ok (.getfield 9, 3) := by decide +kernel
theorem d_P_copy_25 : decode (mC M_P_copy) 25 = .ok (.iconst 0, 1) := by decide +kernel
theorem d_P_copy_26 : decode (mC M_P_copy) 26 = .ok (.bipush 12, 2) := by decide +kernel
theorem d_P_copy_28 : decode (mC M_P_copy) 28 = .ok (.invokestatic 40, 3) := by decide +kernel
theorem d_P_copy_31 : decode (mC M_P_copy) 31 = .ok (.aload_n 1, 1) := by decide +kernel
theorem d_P_copy_32 : decode (mC M_P_copy) 32 = .ok (.getfield 15, 3) := by decide +kernel
theorem d_P_copy_35 : decode (mC M_P_copy) 35 = .ok (.iconst 0, 1) := by decide +kernel
theorem d_P_copy_36 : decode (mC M_P_copy) 36 = .ok (.aload_n 0, 1) := by decide +kernel
theorem d_P_copy_37 : decode (mC M_P_copy) 37 = .ok (.getfield 15, 3) := by decide +kernel
theorem d_P_copy_40 : decode (mC M_P_copy) 40 = .ok (.iconst 0, 1) := by decide +kernel
theorem d_P_copy_41 : decode (mC M_P_copy) 41 = .ok (.bipush 12, 2) := by decide +kernel
theorem d_P_copy_43 : decode (mC M_P_copy) 43 = .ok (.invokestatic 40, 3) := by decide +kernel
theorem d_P_copy_46 : decode (mC M_P_copy) 46 = .ok (.aload_n 1, 1) := by decide +kernel
theorem d_P_copy_47 : decode (mC M_P_copy) 47 = .ok (.getfield 18, 3) := by decide +kernel
theorem d_P_copy_50 : decode (mC M_P_copy) 50 = .ok (.iconst 0, 1) := by decide +kernel
theorem d_P_copy_51 : decode (mC M_P_copy) 51 = .ok (.aload_n 0, 1) := by decide +kernel
theorem d_P_copy_52 : decode (mC M_P_copy) 52 = .ok (.getfield 18, 3) := by decide +kernel
theorem d_P_copy_55 : decode (mC M_P_copy) 55 = .ok (.iconst 0, 1) := by decide +kernel
theorem d_P_copy_56 : decode (mC M_P_copy) 56 = .ok (.bipush 12, 2) := by decide +kernel
theorem d_P_copy_58 : decode (mC M_P_copy) 58 = .ok (.invokestatic 40, 3) := by decide +kernel
theorem d_P_copy_61 : decode (mC M_P_copy) 61 = .ok (.aload_n 1, 1) := by decide +kernel
theorem d_P_copy_62 : decode (mC M_P_copy) 62 = .ok (.getfield 21, 3) := by decide +kernel
theorem d_P_copy_65 : decode (mC M_P_copy) 65 = .ok (.iconst 0, 1) := by decide +kernel
theorem d_P_copy_66 : decode (mC M_P_copy) 66 = .ok (.aload_n 0, 1) := by decide +kernel
theorem d_P_copy_67 : decode (mC M_P_copy) 67 = .ok (.getfield 21, 3) := by decide +kernel
theorem d_P_copy_70 : decode (mC M_P_copy) 70 = .ok (.iconst 0, 1) := by decide +kernel
theorem d_P_copy_71 : decode (mC M_P_copy) 71 = .ok (.bipush 12, 2) := by decide +kernel
theorem d_P_copy_73 : decode (mC M_P_copy) 73 = .ok (.invokestatic 40, 3) := by decide +kernel
theorem d_P_copy_76 : decode (mC M_P_copy) 76 = .ok (.aload_n 1, 1) := by decide +kernel
theorem d_P_copy_77 : decode (mC M_P_copy) 77 = .ok (.getfield 24, 3) := by decide +kernel
theorem d_P_copy_80 : decode (mC M_P_copy) 80 = .ok (.iconst 0, 1) := by decide +kernel
theorem d_P_copy_81 : decode (mC M_P_copy) 81 = .ok (.aload_n 0, 1) := by decide +kernel
theorem d_P_copy_82 : decode (mC M_P_copy) 82 = .ok (.getfield 24, 3) := by decide +kernel
theorem d_P_copy_85 : decode (mC M_P_copy) 85 = .ok (.iconst 0, 1) := by decide +kernel
theorem d_P_copy_86 : decode (mC M_P_copy) 86 = .ok (.bipush 12, 2) := by decide +kernel
theorem d_P_copy_88 : decode (mC M_P_copy) 88 = .ok (.invokestatic 40, 3) := by decide +kernel
theorem d_P_copy_91 : decode (mC M_P_copy) 91 = .ok (.return_, 1) := by decide +kernel
def vc_P_copy_0 (r : Option Value) (hf : hc_H) (J : Nat → hc_K) (lv : hc_L) (st : List Value) (h : hc_H) : Prop := (qi_aload 0 (qi_aload 1 (qi_get 2 0 (qi_put 2 0 .int (qi_aload 0 (qi_aload 1 (qi_get 2 1 (qi_put 2 1 .int (qi_aload 1 (qi_get 2 2 (qi_push (nI 0) (qi_aload 0 (qi_get 2 2 (qi_push (nI 0) (qi_push (nI 12) (qi_acopy (qi_aload 1 (qi_get 2 3 (qi_push (nI 0) (qi_aload 0 (qi_get 2 3 (qi_push (nI 0) (qi_push (nI 12) (qi_acopy (qi_aload 1 (qi_get 2 4 (qi_push (nI 0) (qi_aload 0 (qi_get 2 4 (qi_push (nI 0) (qi_push (nI 12) (qi_acopy (qi_aload 1 (qi_get 2 5 (qi_push (nI 0) (qi_aload 0 (qi_get 2 5 (qi_push (nI 0) (qi_push (nI 12) (qi_acopy (qi_aload 1 (qi_get 2 6 (qi_push (nI 0) (qi_aload 0 (qi_get 2 6 (qi_push (nI 0) (qi_push (nI 12) (qi_acopy (qi_vret r hf))))))))))))))))))))))))))))))))))))))))))))))))) lv st h
theorem sn_P_copy_0 {Ph : Nat → State → Prop} {h0 hf : hc_H} {r : Option Value} : qk Ph M_P_copy h0 hf r 0 (vc_P_copy_0 r hf (cx Ph M_P_copy h0 hf r)) := (qs_aload_n d_P_copy_0 rfl (qs_aload_n d_P_copy_1 rfl (qs_get d_P_copy_2 ff_P_27 (qs_put d_P_copy_5 ff_P_27 ⟨_, _, _, rfl, rfl, by decide +kernel⟩ (qs_aload_n d_P_copy_8 rfl (qs_aload_n d_P_copy_9 rfl (qs_get d_P_copy_10 ff_P_31 (qs_put d_P_copy_13 ff_P_31 ⟨_, _, _, rfl, rfl, by decide +kernel⟩ (qs_aload_n d_P_copy_16 rfl (qs_get d_P_copy_17 ff_P_9 (qs_iconst d_P_copy_20 (by decide) (qs_aload_n d_P_copy_21 rfl (qs_get d_P_copy_22 ff_P_9 (qs_iconst d_P_copy_25 (by decide) (qs_bipush d_P_copy_26 (by decide) (qs_acopy d_P_copy_28 wk_439 wk_441 wk_440 wk_67 (by decide) (by decide) (qs_aload_n d_P_copy_31 rfl (qs_get d_P_copy_32 ff_P_15 (qs_iconst d_P_copy_35 (by decide) (qs_aload_n d_P_copy_36 rfl (qs_get d_P_copy_37 ff_P_15 (qs_iconst d_P_copy_40 (by decide) (qs_bipush d_P_copy_41 (by decide) (qs_acopy d_P_copy_43 wk_439 wk_441 wk_440 wk_67 (by decide) (by decide) (qs_aload_n d_P_copy_46 rfl (qs_get d_P_copy_47 ff_P_18 (qs_iconst d_P_copy_50 (by decide) (qs_aload_n d_P_copy_51 rfl (qs_get d_P_copy_52 ff_P_18 (qs_iconst d_P_copy_55 (by decide) (qs_bipush d_P_copy_56 (by decide) (qs_acopy d_P_copy_58 wk_439 wk_441 wk_440 wk_67 (by decide) (by decide) (qs_aload_n d_P_copy_61 rfl (qs_get d_P_copy_62 ff_P_21 (qs_iconst d_P_copy_65 (by decide) (qs_aload_n d_P_copy_66 rfl (qs_get d_P_copy_67 ff_P_21 (qs_iconst d_P_copy_70 (by decide) (qs_bipush d_P_copy_71 (by decide) (qs_acopy d_P_copy_73 wk_439 wk_441 wk_440 wk_67 (by decide) (by decide) (qs_aload_n d_P_copy_76 rfl (qs_get d_P_copy_77 ff_P_24 (qs_iconst d_P_copy_80 (by decide) (qs_aload_n d_P_copy_81 rfl (qs_get d_P_copy_82 ff_P_24 (qs_iconst d_P_copy_85 (by decide) (qs_bipush d_P_copy_86 (by decide) (qs_acopy d_P_copy_88 wk_439 wk_441 wk_440 wk_67 (by decide) (by decide) (qs_vret d_P_copy_91 rfl)))))))))))))))))))))))))))))))))))))))))))))))))
/-! BalancedLine$Plan.has(I)Z -/
abbrev M_P_has : hc_M := (⟨"BalancedLine$Plan", "has", "(I)Z"⟩, prog_4_method_4_code, 2, (some .boolean), 0, 0)
theorem d_P_has_0 : decode (mC M_P_has) 0 = .ok (.iload_n 1, 1) := by decide +kernel
theorem d_P_has_1 : decode (mC M_P_has) 1 = .ok (.ifCond .lt 15, 3) := by decide +kernel
theorem d_P_has_4 : decode (mC M_P_has) 4 = .ok (.iload_n 1, 1) := by decide +kernel
theorem d_P_has_5 : decode (mC M_P_has) 5 = .ok (.aload_n 0, 1) := by decide +kernel
theorem d_P_has_6 : decode (mC M_P_has) 6 = .ok (.getfield 27, 3) := by decide +kernel
theorem d_P_has_9 : decode (mC M_P_has) 9 = .ok (.if_icmp .ge 7, 3) := by decide +kernel
theorem d_P_has_12 : decode (mC M_P_has) 12 = .ok (.iconst 1, 1) := by decide +kernel
theorem d_P_has_13 : decode (mC M_P_has) 13 = .ok (.goto 4, 3) := by decide +kernel
theorem d_P_has_16 : decode (mC M_P_has) 16 = .ok (.iconst 0, 1) := by decide +kernel
theorem d_P_has_17 : decode (mC M_P_has) 17 = .ok (.ireturn, 1) := by decide +kernel
def vc_P_has_17 (r : Option Value) (hf : hc_H) (J : Nat → hc_K) (lv : hc_L) (st : List Value) (h : hc_H) : Prop := (qi_zret r hf) lv st h
theorem sn_P_has_17 {Ph : Nat → State → Prop} {h0 hf : hc_H} {r : Option Value} : qk Ph M_P_has h0 hf r 17 (vc_P_has_17 r hf (cx Ph M_P_has h0 hf r)) := (qs_zret d_P_has_17 rfl)
def vc_P_has_16 (r : Option Value) (hf : hc_H) (J : Nat → hc_K) (lv : hc_L) (st : List Value) (h : hc_H) : Prop := (qi_push (nI 0) (vc_P_has_17 r hf J)) lv st h
theorem sn_P_has_16 {Ph : Nat → State → Prop} {h0 hf : hc_H} {r : Option Value} : qk Ph M_P_has h0 hf r 16 (vc_P_has_16 r hf (cx Ph M_P_has h0 hf r)) := (qs_iconst d_P_has_16 (by decide) sn_P_has_17)
def vc_P_has_0 (r : Option Value) (hf : hc_H) (J : Nat → hc_K) (lv : hc_L) (st : List Value) (h : hc_H) : Prop := (qi_iload 1 (qi_if_lt (vc_P_has_16 r hf J) (qi_iload 1 (qi_aload 0 (qi_get 2 0 (qi_icmp_ge (vc_P_has_16 r hf J) (qi_push (nI 1) (vc_P_has_17 r hf J)))))))) lv st h
theorem sn_P_has_0 {Ph : Nat → State → Prop} {h0 hf : hc_H} {r : Option Value} : qk Ph M_P_has h0 hf r 0 (vc_P_has_0 r hf (cx Ph M_P_has h0 hf r)) := (qs_iload_n d_P_has_0 rfl (qs_if_lt (tgt := 16) d_P_has_1 (by decide) sn_P_has_16 (qs_iload_n d_P_has_4 rfl (qs_aload_n d_P_has_5 rfl (qs_get d_P_has_6 ff_P_27 (qs_icmp_ge (tgt := 16) d_P_has_9 (by decide) sn_P_has_16 (qs_iconst d_P_has_12 (by decide) (qs_goto (tgt := 17) d_P_has_13 (by decide) sn_P_has_17))))))))
theorem zz_P_has : hc_z M_P_has 1 := ⟨wk_257, wk_56, by decide +kernel⟩
/-! BalancedLine$Plan.hasPair(II)Z -/
abbrev M_P_hasPair : hc_M := (⟨"BalancedLine$Plan", "hasPair", "(II)Z"⟩, prog_4_method_5_code, 3, (some .boolean), 1, 21)
theorem d_P_hasPair_0 : decode (mC M_P_hasPair) 0 = .ok (.aload_n 0, 1) := by decide +kernel
theorem d_P_hasPair_1 : decode (mC M_P_hasPair) 1 = .ok (.iload_n 1, 1) := by decide +kernel
theorem d_P_hasPair_2 : decode (mC M_P_hasPair) 2 = .ok (.invokevirtual 46, 3) := by decide +kernel
theorem d_P_hasPair_5 : decode (mC M_P_hasPair) 5 = .ok (.ifCond .eq 20, 3) := by decide +kernel
theorem d_P_hasPair_8 : decode (mC M_P_hasPair) 8 = .ok (.aload_n 0, 1) := by decide +kernel
theorem d_P_hasPair_9 : decode (mC M_P_hasPair) 9 = .ok (.iload_n 2, 1) := by decide +kernel
theorem d_P_hasPair_10 : decode (mC M_P_hasPair) 10 = .ok (.invokevirtual 46, 3) := by decide +kernel
theorem d_P_hasPair_13 : decode (mC M_P_hasPair) 13 = .ok (.ifCond .eq 12, 3) := by decide +kernel
theorem d_P_hasPair_16 : decode (mC M_P_hasPair) 16 = .ok (.iload_n 1, 1) := by decide +kernel
theorem d_P_hasPair_17 : decode (mC M_P_hasPair) 17 = .ok (.iload_n 2, 1) := by decide +kernel
theorem d_P_hasPair_18 : decode (mC M_P_hasPair) 18 = .ok (.if_icmp .eq 7, 3) := by decide +kernel
theorem d_P_hasPair_21 : decode (mC M_P_hasPair) 21 = .ok (.iconst 1, 1) := by decide +kernel
theorem d_P_hasPair_22 : decode (mC M_P_hasPair) 22 = .ok (.goto 4, 3) := by decide +kernel
theorem d_P_hasPair_25 : decode (mC M_P_hasPair) 25 = .ok (.iconst 0, 1) := by decide +kernel
theorem d_P_hasPair_26 : decode (mC M_P_hasPair) 26 = .ok (.ireturn, 1) := by decide +kernel
def vc_P_hasPair_26 (r : Option Value) (hf : hc_H) (J : Nat → hc_K) (lv : hc_L) (st : List Value) (h : hc_H) : Prop := (qi_zret r hf) lv st h
theorem sn_P_hasPair_26 {Ph : Nat → State → Prop} {h0 hf : hc_H} {r : Option Value} : qk Ph M_P_hasPair h0 hf r 26 (vc_P_hasPair_26 r hf (cx Ph M_P_hasPair h0 hf r)) := (qs_zret d_P_hasPair_26 rfl)
def vc_P_hasPair_25 (r : Option Value) (hf : hc_H) (J : Nat → hc_K) (lv : hc_L) (st : List Value) (h : hc_H) : Prop := (qi_push (nI 0) (vc_P_hasPair_26 r hf J)) lv st h
theorem sn_P_hasPair_25 {Ph : Nat → State → Prop} {h0 hf : hc_H} {r : Option Value} : qk Ph M_P_hasPair h0 hf r 25 (vc_P_hasPair_25 r hf (cx Ph M_P_hasPair h0 hf r)) := (qs_iconst d_P_hasPair_25 (by decide) sn_P_hasPair_26)
def vc_P_hasPair_0 (r : Option Value) (hf : hc_H) (J : Nat → hc_K) (lv : hc_L) (st : List Value) (h : hc_H) : Prop := (qi_aload 0 (qi_iload 1 (qi_invV hc_tt M_P_has 1 2 (qi_if_eq (vc_P_hasPair_25 r hf J) (qi_aload 0 (qi_iload 2 (qi_invV hc_tt M_P_has 1 2 (qi_if_eq (vc_P_hasPair_25 r hf J) (qi_iload 1 (qi_iload 2 (qi_icmp_eq (vc_P_hasPair_25 r hf J) (qi_push (nI 1) (vc_P_hasPair_26 r hf J))))))))))))) lv st h
theorem sn_P_hasPair_0 {Ph : Nat → State → Prop} {h0 hf : hc_H} {r : Option Value} : qk Ph M_P_hasPair h0 hf r 0 (vc_P_hasPair_0 r hf (cx Ph M_P_hasPair h0 hf r)) := (qs_aload_n d_P_hasPair_0 rfl (qs_iload_n d_P_hasPair_1 rfl (qs_invV hc_Ph_tt (fun _ _ _ => trivial) d_P_hasPair_2 zz_P_has wk_254 ⟨wk_255, wk_256⟩ ⟨_, rfl, rfl⟩ ⟨by decide, by decide⟩ (qs_if_eq (tgt := 25) d_P_hasPair_5 (by decide) sn_P_hasPair_25 (qs_aload_n d_P_hasPair_8 rfl (qs_iload_n d_P_hasPair_9 rfl (qs_invV hc_Ph_tt (fun _ _ _ => trivial) d_P_hasPair_10 zz_P_has wk_254 ⟨wk_255, wk_256⟩ ⟨_, rfl, rfl⟩ ⟨by decide, by decide⟩ (qs_if_eq (tgt := 25) d_P_hasPair_13 (by decide) sn_P_hasPair_25 (qs_iload_n d_P_hasPair_16 rfl (qs_iload_n d_P_hasPair_17 rfl (qs_icmp_eq (tgt := 25) d_P_hasPair_18 (by decide) sn_P_hasPair_25 (qs_iconst d_P_hasPair_21 (by decide) (qs_goto (tgt := 26) d_P_hasPair_22 (by decide) sn_P_hasPair_26)))))))))))))
/-! BalancedLine$Plan.addTask(I)Z -/
abbrev M_P_addTask : hc_M := (⟨"BalancedLine$Plan", "addTask", "(I)Z"⟩, prog_4_method_6_code, 2, (some .boolean), 0, 0)
theorem d_P_addTask_0 : decode (mC M_P_addTask) 0 = .ok (.aload_n 0, 1) := by decide +kernel
theorem d_P_addTask_1 : decode (mC M_P_addTask) 1 = .ok (.getfield 27, 3) := by decide +kernel
theorem d_P_addTask_4 : decode (mC M_P_addTask) 4 = .ok (.bipush 12, 2) := by decide +kernel
theorem d_P_addTask_6 : decode (mC M_P_addTask) 6 = .ok (.if_icmp .lt 5, 3) := by decide +kernel
theorem d_P_addTask_9 : decode (mC M_P_addTask) 9 = .ok (.iconst 0, 1) := by decide +kernel
theorem d_P_addTask_10 : decode (mC M_P_addTask) 10 = .ok (.ireturn, 1) := by decide +kernel
theorem d_P_addTask_11 : decode (mC M_P_addTask) 11 = .ok (.aload_n 0, 1) := by decide +kernel
theorem d_P_addTask_12 : decode (mC M_P_addTask) 12 = .ok (.getfield 9, 3) := by decide +kernel
theorem d_P_addTask_15 : decode (mC M_P_addTask) 15 = .ok (.aload_n 0, 1) := by decide +kernel
theorem d_P_addTask_16 : decode (mC M_P_addTask) 16 = .ok (.getfield 27, 3) := by decide +kernel
theorem d_P_addTask_19 : decode (mC M_P_addTask) 19 = .ok (.iload_n 1, 1) := by decide +kernel
theorem d_P_addTask_20 : decode (mC M_P_addTask) 20 = .ok (.iastore, 1) := by decide +kernel
theorem d_P_addTask_21 : decode (mC M_P_addTask) 21 = .ok (.aload_n 0, 1) := by decide +kernel
theorem d_P_addTask_22 : decode (mC M_P_addTask) 22 = .ok (.dup, 1) := by decide +kernel
theorem d_P_addTask_23 : decode (mC M_P_addTask) 23 = .ok (.getfield 27, 3) := by decide +kernel
theorem d_P_addTask_26 : decode (mC M_P_addTask) 26 = .ok (.iconst 1, 1) := by decide +kernel
theorem d_P_addTask_27 : decode (mC M_P_addTask) 27 = .ok (.iadd, 1) := by decide +kernel
theorem d_P_addTask_28 : decode (mC M_P_addTask) 28 = .ok (.putfield 27, 3) := by decide +kernel
theorem d_P_addTask_31 : decode (mC M_P_addTask) 31 = .ok (.iconst 1, 1) := by decide +kernel
theorem d_P_addTask_32 : decode (mC M_P_addTask) 32 = .ok (.ireturn, 1) := by decide +kernel
def vc_P_addTask_11 (r : Option Value) (hf : hc_H) (J : Nat → hc_K) (lv : hc_L) (st : List Value) (h : hc_H) : Prop := (qi_aload 0 (qi_get 2 2 (qi_aload 0 (qi_get 2 0 (qi_iload 1 (qi_iast (qi_aload 0 (qi_dup (qi_get 2 0 (qi_push (nI 1) (qi_iadd (qi_put 2 0 .int (qi_push (nI 1) (qi_zret r hf)))))))))))))) lv st h
theorem sn_P_addTask_11 {Ph : Nat → State → Prop} {h0 hf : hc_H} {r : Option Value} : qk Ph M_P_addTask h0 hf r 11 (vc_P_addTask_11 r hf (cx Ph M_P_addTask h0 hf r)) := (qs_aload_n d_P_addTask_11 rfl (qs_get d_P_addTask_12 ff_P_9 (qs_aload_n d_P_addTask_15 rfl (qs_get d_P_addTask_16 ff_P_27 (qs_iload_n d_P_addTask_19 rfl (qs_iastore d_P_addTask_20 (qs_aload_n d_P_addTask_21 rfl (qs_dup d_P_addTask_22 (qs_get d_P_addTask_23 ff_P_27 (qs_iconst d_P_addTask_26 (by decide) (qs_iadd d_P_addTask_27 (qs_put d_P_addTask_28 ff_P_27 ⟨_, _, _, rfl, rfl, by decide +kernel⟩ (qs_iconst d_P_addTask_31 (by decide) (qs_zret d_P_addTask_32 rfl))))))))))))))
def vc_P_addTask_0 (r : Option Value) (hf : hc_H) (J : Nat → hc_K) (lv : hc_L) (st : List Value) (h : hc_H) : Prop := (qi_aload 0 (qi_get 2 0 (qi_push (nI 12) (qi_icmp_lt (vc_P_addTask_11 r hf J) (qi_push (nI 0) (qi_zret r hf)))))) lv st h
theorem sn_P_addTask_0 {Ph : Nat → State → Prop} {h0 hf : hc_H} {r : Option Value} : qk Ph M_P_addTask h0 hf r 0 (vc_P_addTask_0 r hf (cx Ph M_P_addTask h0 hf r)) := (qs_aload_n d_P_addTask_0 rfl (qs_get d_P_addTask_1 ff_P_27 (qs_bipush d_P_addTask_4 (by decide) (qs_icmp_lt (tgt := 11) d_P_addTask_6 (by decide) sn_P_addTask_11 (qs_iconst d_P_addTask_9 (by decide) (qs_zret d_P_addTask_10 rfl))))))
/-! BalancedLine$Plan.isBehind(II)Z -/
abbrev M_P_isBehind : hc_M := (⟨"BalancedLine$Plan", "isBehind", "(II)Z"⟩, prog_4_method_7_code, 3, (some .boolean), 0, 0)
theorem d_P_isBehind_0 : decode (mC M_P_isBehind) 0 = .ok (.aload_n 0, 1) := by decide +kernel
theorem d_P_isBehind_1 : decode (mC M_P_isBehind) 1 = .ok (.getfield 15, 3) := by decide +kernel
theorem d_P_isBehind_4 : decode (mC M_P_isBehind) 4 = .ok (.iload_n 1, 1) := by decide +kernel
theorem d_P_isBehind_5 : decode (mC M_P_isBehind) 5 = .ok (.iaload, 1) := by decide +kernel
theorem d_P_isBehind_6 : decode (mC M_P_isBehind) 6 = .ok (.iload_n 2, 1) := by decide +kernel
theorem d_P_isBehind_7 : decode (mC M_P_isBehind) 7 = .ok (.ishr, 1) := by decide +kernel
theorem d_P_isBehind_8 : decode (mC M_P_isBehind) 8 = .ok (.iconst 1, 1) := by decide +kernel
theorem d_P_isBehind_9 : decode (mC M_P_isBehind) 9 = .ok (.iand, 1) := by decide +kernel
theorem d_P_isBehind_10 : decode (mC M_P_isBehind) 10 = .ok (.iconst 1, 1) := by decide +kernel
theorem d_P_isBehind_11 : decode (mC M_P_isBehind) 11 = .ok (.if_icmp .ne 7, 3) := by decide +kernel
theorem d_P_isBehind_14 : decode (mC M_P_isBehind) 14 = .ok (.iconst 1, 1) := by decide +kernel
theorem d_P_isBehind_15 : decode (mC M_P_isBehind) 15 = .ok (.goto 4, 3) := by decide +kernel
theorem d_P_isBehind_18 : decode (mC M_P_isBehind) 18 = .ok (.iconst 0, 1) := by decide +kernel
theorem d_P_isBehind_19 : decode (mC M_P_isBehind) 19 = .ok (.ireturn, 1) := by decide +kernel
def vc_P_isBehind_19 (r : Option Value) (hf : hc_H) (J : Nat → hc_K) (lv : hc_L) (st : List Value) (h : hc_H) : Prop := (qi_zret r hf) lv st h
theorem sn_P_isBehind_19 {Ph : Nat → State → Prop} {h0 hf : hc_H} {r : Option Value} : qk Ph M_P_isBehind h0 hf r 19 (vc_P_isBehind_19 r hf (cx Ph M_P_isBehind h0 hf r)) := (qs_zret d_P_isBehind_19 rfl)
def vc_P_isBehind_18 (r : Option Value) (hf : hc_H) (J : Nat → hc_K) (lv : hc_L) (st : List Value) (h : hc_H) : Prop := (qi_push (nI 0) (vc_P_isBehind_19 r hf J)) lv st h
theorem sn_P_isBehind_18 {Ph : Nat → State → Prop} {h0 hf : hc_H} {r : Option Value} : qk Ph M_P_isBehind h0 hf r 18 (vc_P_isBehind_18 r hf (cx Ph M_P_isBehind h0 hf r)) := (qs_iconst d_P_isBehind_18 (by decide) sn_P_isBehind_19)
def vc_P_isBehind_0 (r : Option Value) (hf : hc_H) (J : Nat → hc_K) (lv : hc_L) (st : List Value) (h : hc_H) : Prop := (qi_aload 0 (qi_get 2 3 (qi_iload 1 (qi_iald 0 (qi_iload 2 (qi_ishr (qi_push (nI 1) (qi_iand (qi_push (nI 1) (qi_icmp_ne (vc_P_isBehind_18 r hf J) (qi_push (nI 1) (vc_P_isBehind_19 r hf J)))))))))))) lv st h
theorem sn_P_isBehind_0 {Ph : Nat → State → Prop} {h0 hf : hc_H} {r : Option Value} : qk Ph M_P_isBehind h0 hf r 0 (vc_P_isBehind_0 r hf (cx Ph M_P_isBehind h0 hf r)) := (qs_aload_n d_P_isBehind_0 rfl (qs_get d_P_isBehind_1 ff_P_15 (qs_iload_n d_P_isBehind_4 rfl (qs_iaload d_P_isBehind_5 (qs_iload_n d_P_isBehind_6 rfl (qs_ishr d_P_isBehind_7 (qs_iconst d_P_isBehind_8 (by decide) (qs_iand d_P_isBehind_9 (qs_iconst d_P_isBehind_10 (by decide) (qs_icmp_ne (tgt := 18) d_P_isBehind_11 (by decide) sn_P_isBehind_18 (qs_iconst d_P_isBehind_14 (by decide) (qs_goto (tgt := 19) d_P_isBehind_15 (by decide) sn_P_isBehind_19))))))))))))
/-! BalancedLine$Plan.allBehind(I)I -/
abbrev M_P_allBehind : hc_M := (⟨"BalancedLine$Plan", "allBehind", "(I)I"⟩, prog_4_method_14_code, 5, (some .int), 0, 0)
theorem d_P_allBehind_0 : decode (mC M_P_allBehind) 0 = .ok (.iconst 0, 1) := by decide +kernel
theorem d_P_allBehind_1 : decode (mC M_P_allBehind) 1 = .ok (.istore_n 2, 1) := by decide +kernel
theorem d_P_allBehind_2 : decode (mC M_P_allBehind) 2 = .ok (.iconst 0, 1) := by decide +kernel
theorem d_P_allBehind_3 : decode (mC M_P_allBehind) 3 = .ok (.istore_n 3, 1) := by decide +kernel
theorem d_P_allBehind_4 : decode (mC M_P_allBehind) 4 = .ok (.iload_n 3, 1) := by decide +kernel
theorem d_P_allBehind_5 : decode (mC M_P_allBehind) 5 = .ok (.aload_n 0, 1) := by decide +kernel
theorem d_P_allBehind_6 : decode (mC M_P_allBehind) 6 = .ok (.getfield 27, 3) := by decide +kernel
theorem d_P_allBehind_9 : decode (mC M_P_allBehind) 9 = .ok (.if_icmp .ge 50, 3) := by decide +kernel
theorem d_P_allBehind_12 : decode (mC M_P_allBehind) 12 = .ok (.iconst 0, 1) := by decide +kernel
theorem d_P_allBehind_13 : decode (mC M_P_allBehind) 13 = .ok (.istore 4, 2) := by decide +kernel
theorem d_P_allBehind_15 : decode (mC M_P_allBehind) 15 = .ok (.iload 4, 2) := by decide +kernel
theorem d_P_allBehind_17 : decode (mC M_P_allBehind) 17 = .ok (.aload_n 0, 1) := by decide +kernel
theorem d_P_allBehind_18 : decode (mC M_P_allBehind) 18 = .ok (.getfield 27, 3) := by decide +kernel
theorem d_P_allBehind_21 : decode (mC M_P_allBehind) 21 = .ok (.if_icmp .ge 32, 3) := by decide +kernel
theorem d_P_allBehind_24 : decode (mC M_P_allBehind) 24 = .ok (.aload_n 0, 1) := by decide +kernel
theorem d_P_allBehind_25 : decode (mC M_P_allBehind) 25 = .ok (.getfield 15, 3) := by decide +kernel
theorem d_P_allBehind_28 : decode (mC M_P_allBehind) 28 = .ok (.iload 4, 2) := by decide +kernel
theorem d_P_allBehind_30 : decode (mC M_P_allBehind) 30 = .ok (.iaload, 1) := by decide +kernel
theorem d_P_allBehind_31 : decode (mC M_P_allBehind) 31 = .ok (.iload_n 2, 1) := by decide +kernel
theorem d_P_allBehind_32 : decode (mC M_P_allBehind) 32 = .ok (.iconst 1, 1) := by decide +kernel
theorem d_P_allBehind_33 : decode (mC M_P_allBehind) 33 = .ok (.iload_n 1, 1) := by decide +kernel
theorem d_P_allBehind_34 : decode (mC M_P_allBehind) 34 = .ok (.ishl, 1) := by decide +kernel
theorem d_P_allBehind_35 : decode (mC M_P_allBehind) 35 = .ok (.ior, 1) := by decide +kernel
theorem d_P_allBehind_36 : decode (mC M_P_allBehind) 36 = .ok (.iand, 1) := by decide +kernel
theorem d_P_allBehind_37 : decode (mC M_P_allBehind) 37 = .ok (.ifCond .eq 10, 3) := by decide +kernel
theorem d_P_allBehind_40 : decode (mC M_P_allBehind) 40 = .ok (.iload_n 2, 1) := by decide +kernel
theorem d_P_allBehind_41 : decode (mC M_P_allBehind) 41 = .ok (.iconst 1, 1) := by decide +kernel
theorem d_P_allBehind_42 : decode (mC M_P_allBehind) 42 = .ok (.iload 4, 2) := by decide +kernel
theorem d_P_allBehind_44 : decode (mC M_P_allBehind) 44 = .ok (.ishl, 1) := by decide +kernel
theorem d_P_allBehind_45 : decode (mC M_P_allBehind) 45 = .ok (.ior, 1) := by decide +kernel
theorem d_P_allBehind_46 : decode (mC M_P_allBehind) 46 = .ok (.istore_n 2, 1) := by decide +kernel
theorem d_P_allBehind_47 : decode (mC M_P_allBehind) 47 = .ok (.iinc 4 1, 3) := by decide +kernel
theorem d_P_allBehind_50 : decode (mC M_P_allBehind) 50 = .ok (.goto (-35), 3) := by decide +kernel
theorem d_P_allBehind_53 : decode (mC M_P_allBehind) 53 = .ok (.iinc 3 1, 3) := by decide +kernel
theorem d_P_allBehind_56 : decode (mC M_P_allBehind) 56 = .ok (.goto (-52), 3) := by decide +kernel
theorem d_P_allBehind_59 : decode (mC M_P_allBehind) 59 = .ok (.iload_n 2, 1) := by decide +kernel
theorem d_P_allBehind_60 : decode (mC M_P_allBehind) 60 = .ok (.ireturn, 1) := by decide +kernel
def vc_P_allBehind_59 (r : Option Value) (hf : hc_H) (J : Nat → hc_K) (lv : hc_L) (st : List Value) (h : hc_H) : Prop := (qi_iload 2 (qi_iret r hf)) lv st h
theorem sn_P_allBehind_59 {Ph : Nat → State → Prop} {h0 hf : hc_H} {r : Option Value} : qk Ph M_P_allBehind h0 hf r 59 (vc_P_allBehind_59 r hf (cx Ph M_P_allBehind h0 hf r)) := (qs_iload_n d_P_allBehind_59 rfl (qs_iret d_P_allBehind_60 rfl))
def vc_P_allBehind_53 (r : Option Value) (hf : hc_H) (J : Nat → hc_K) (lv : hc_L) (st : List Value) (h : hc_H) : Prop := (qi_iinc 3 (nI 1) (J 4)) lv st h
theorem sn_P_allBehind_53 {Ph : Nat → State → Prop} {h0 hf : hc_H} {r : Option Value} : qk Ph M_P_allBehind h0 hf r 53 (vc_P_allBehind_53 r hf (cx Ph M_P_allBehind h0 hf r)) := (qs_iinc d_P_allBehind_53 (by decide) (by decide) (qs_goto (tgt := 4) d_P_allBehind_56 (by decide) (fun _ _ _ h9 => h9)))
def vc_P_allBehind_47 (r : Option Value) (hf : hc_H) (J : Nat → hc_K) (lv : hc_L) (st : List Value) (h : hc_H) : Prop := (qi_iinc 4 (nI 1) (J 15)) lv st h
theorem sn_P_allBehind_47 {Ph : Nat → State → Prop} {h0 hf : hc_H} {r : Option Value} : qk Ph M_P_allBehind h0 hf r 47 (vc_P_allBehind_47 r hf (cx Ph M_P_allBehind h0 hf r)) := (qs_iinc d_P_allBehind_47 (by decide) (by decide) (qs_goto (tgt := 15) d_P_allBehind_50 (by decide) (fun _ _ _ h9 => h9)))
def vc_P_allBehind_15 (r : Option Value) (hf : hc_H) (J : Nat → hc_K) (lv : hc_L) (st : List Value) (h : hc_H) : Prop := (qi_iload 4 (qi_aload 0 (qi_get 2 0 (qi_icmp_ge (vc_P_allBehind_53 r hf J) (qi_aload 0 (qi_get 2 3 (qi_iload 4 (qi_iald 0 (qi_iload 2 (qi_push (nI 1) (qi_iload 1 (qi_ishl (qi_ior (qi_iand (qi_if_eq (vc_P_allBehind_47 r hf J) (qi_iload 2 (qi_push (nI 1) (qi_iload 4 (qi_ishl (qi_ior (qi_istore 2 (vc_P_allBehind_47 r hf J)))))))))))))))))))))) lv st h
theorem sn_P_allBehind_15 {Ph : Nat → State → Prop} {h0 hf : hc_H} {r : Option Value} : qk Ph M_P_allBehind h0 hf r 15 (vc_P_allBehind_15 r hf (cx Ph M_P_allBehind h0 hf r)) := (qs_iload d_P_allBehind_15 (qs_aload_n d_P_allBehind_17 rfl (qs_get d_P_allBehind_18 ff_P_27 (qs_icmp_ge (tgt := 53) d_P_allBehind_21 (by decide) sn_P_allBehind_53 (qs_aload_n d_P_allBehind_24 rfl (qs_get d_P_allBehind_25 ff_P_15 (qs_iload d_P_allBehind_28 (qs_iaload d_P_allBehind_30 (qs_iload_n d_P_allBehind_31 rfl (qs_iconst d_P_allBehind_32 (by decide) (qs_iload_n d_P_allBehind_33 rfl (qs_ishl d_P_allBehind_34 (qs_ior d_P_allBehind_35 (qs_iand d_P_allBehind_36 (qs_if_eq (tgt := 47) d_P_allBehind_37 (by decide) sn_P_allBehind_47 (qs_iload_n d_P_allBehind_40 rfl (qs_iconst d_P_allBehind_41 (by decide) (qs_iload d_P_allBehind_42 (qs_ishl d_P_allBehind_44 (qs_ior d_P_allBehind_45 (qs_istore_n d_P_allBehind_46 rfl (by decide) sn_P_allBehind_47)))))))))))))))))))))
def vc_P_allBehind_4 (r : Option Value) (hf : hc_H) (J : Nat → hc_K) (lv : hc_L) (st : List Value) (h : hc_H) : Prop := (qi_iload 3 (qi_aload 0 (qi_get 2 0 (qi_icmp_ge (vc_P_allBehind_59 r hf J) (qi_push (nI 0) (qi_istore 4 (J 15))))))) lv st h
theorem sn_P_allBehind_4 {Ph : Nat → State → Prop} {h0 hf : hc_H} {r : Option Value} : qk Ph M_P_allBehind h0 hf r 4 (vc_P_allBehind_4 r hf (cx Ph M_P_allBehind h0 hf r)) := (qs_iload_n d_P_allBehind_4 rfl (qs_aload_n d_P_allBehind_5 rfl (qs_get d_P_allBehind_6 ff_P_27 (qs_icmp_ge (tgt := 59) d_P_allBehind_9 (by decide) sn_P_allBehind_59 (qs_iconst d_P_allBehind_12 (by decide) (qs_istore d_P_allBehind_13 (by decide) (fun _ _ _ h9 => h9)))))))
def vc_P_allBehind_0 (r : Option Value) (hf : hc_H) (J : Nat → hc_K) (lv : hc_L) (st : List Value) (h : hc_H) : Prop := (qi_push (nI 0) (qi_istore 2 (qi_push (nI 0) (qi_istore 3 (J 4))))) lv st h
theorem sn_P_allBehind_0 {Ph : Nat → State → Prop} {h0 hf : hc_H} {r : Option Value} : qk Ph M_P_allBehind h0 hf r 0 (vc_P_allBehind_0 r hf (cx Ph M_P_allBehind h0 hf r)) := (qs_iconst d_P_allBehind_0 (by decide) (qs_istore_n d_P_allBehind_1 rfl (by decide) (qs_iconst d_P_allBehind_2 (by decide) (qs_istore_n d_P_allBehind_3 rfl (by decide) (fun _ _ _ h9 => h9)))))
theorem zz_P_allBehind : hc_z M_P_allBehind 1 := ⟨wk_273, wk_56, by decide +kernel⟩
/-! BalancedLine$Plan.wouldGoRound(II)Z -/
abbrev M_P_wouldGoRound : hc_M := (⟨"BalancedLine$Plan", "wouldGoRound", "(II)Z"⟩, prog_4_method_8_code, 3, (some .boolean), 1, 24)
theorem d_P_wouldGoRound_0 : decode (mC M_P_wouldGoRound) 0 = .ok (.aload_n 0, 1) := by decide +kernel
theorem d_P_wouldGoRound_1 : decode (mC M_P_wouldGoRound) 1 = .ok (.iload_n 2, 1) := by decide +kernel
theorem d_P_wouldGoRound_2 : decode (mC M_P_wouldGoRound) 2 = .ok (.invokevirtual 50, 3) := by decide +kernel
theorem d_P_wouldGoRound_5 : decode (mC M_P_wouldGoRound) 5 = .ok (.iload_n 1, 1) := by decide +kernel
theorem d_P_wouldGoRound_6 : decode (mC M_P_wouldGoRound) 6 = .ok (.ishr, 1) := by decide +kernel
theorem d_P_wouldGoRound_7 : decode (mC M_P_wouldGoRound) 7 = .ok (.iconst 1, 1) := by decide +kernel
theorem d_P_wouldGoRound_8 : decode (mC M_P_wouldGoRound) 8 = .ok (.iand, 1) := by decide +kernel
theorem d_P_wouldGoRound_9 : decode (mC M_P_wouldGoRound) 9 = .ok (.iconst 1, 1) := by decide +kernel
theorem d_P_wouldGoRound_10 : decode (mC M_P_wouldGoRound) 10 = .ok (.if_icmp .ne 7, 3) := by decide +kernel
theorem d_P_wouldGoRound_13 : decode (mC M_P_wouldGoRound) 13 = .ok (.iconst 1, 1) := by decide +kernel
theorem d_P_wouldGoRound_14 : decode (mC M_P_wouldGoRound) 14 = .ok (.goto 4, 3) := by decide +kernel
theorem d_P_wouldGoRound_17 : decode (mC M_P_wouldGoRound) 17 = .ok (.iconst 0, 1) := by decide +kernel
theorem d_P_wouldGoRound_18 : decode (mC M_P_wouldGoRound) 18 = .ok (.ireturn, 1) := by decide +kernel
def vc_P_wouldGoRound_18 (r : Option Value) (hf : hc_H) (J : Nat → hc_K) (lv : hc_L) (st : List Value) (h : hc_H) : Prop := (qi_zret r hf) lv st h
theorem sn_P_wouldGoRound_18 {Ph : Nat → State → Prop} {h0 hf : hc_H} {r : Option Value} : qk Ph M_P_wouldGoRound h0 hf r 18 (vc_P_wouldGoRound_18 r hf (cx Ph M_P_wouldGoRound h0 hf r)) := (qs_zret d_P_wouldGoRound_18 rfl)
def vc_P_wouldGoRound_17 (r : Option Value) (hf : hc_H) (J : Nat → hc_K) (lv : hc_L) (st : List Value) (h : hc_H) : Prop := (qi_push (nI 0) (vc_P_wouldGoRound_18 r hf J)) lv st h
theorem sn_P_wouldGoRound_17 {Ph : Nat → State → Prop} {h0 hf : hc_H} {r : Option Value} : qk Ph M_P_wouldGoRound h0 hf r 17 (vc_P_wouldGoRound_17 r hf (cx Ph M_P_wouldGoRound h0 hf r)) := (qs_iconst d_P_wouldGoRound_17 (by decide) sn_P_wouldGoRound_18)
def vc_P_wouldGoRound_0 (r : Option Value) (hf : hc_H) (J : Nat → hc_K) (lv : hc_L) (st : List Value) (h : hc_H) : Prop := (qi_aload 0 (qi_iload 2 (qi_invV hc_tt M_P_allBehind 1 2 (qi_iload 1 (qi_ishr (qi_push (nI 1) (qi_iand (qi_push (nI 1) (qi_icmp_ne (vc_P_wouldGoRound_17 r hf J) (qi_push (nI 1) (vc_P_wouldGoRound_18 r hf J))))))))))) lv st h
theorem sn_P_wouldGoRound_0 {Ph : Nat → State → Prop} {h0 hf : hc_H} {r : Option Value} : qk Ph M_P_wouldGoRound h0 hf r 0 (vc_P_wouldGoRound_0 r hf (cx Ph M_P_wouldGoRound h0 hf r)) := (qs_aload_n d_P_wouldGoRound_0 rfl (qs_iload_n d_P_wouldGoRound_1 rfl (qs_invV hc_Ph_tt (fun _ _ _ => trivial) d_P_wouldGoRound_2 zz_P_allBehind wk_270 ⟨wk_271, wk_272⟩ ⟨_, rfl, rfl⟩ ⟨by decide, by decide⟩ (qs_iload_n d_P_wouldGoRound_5 rfl (qs_ishr d_P_wouldGoRound_6 (qs_iconst d_P_wouldGoRound_7 (by decide) (qs_iand d_P_wouldGoRound_8 (qs_iconst d_P_wouldGoRound_9 (by decide) (qs_icmp_ne (tgt := 17) d_P_wouldGoRound_10 (by decide) sn_P_wouldGoRound_17 (qs_iconst d_P_wouldGoRound_13 (by decide) (qs_goto (tgt := 18) d_P_wouldGoRound_14 (by decide) sn_P_wouldGoRound_18)))))))))))
/-! BalancedLine$Plan.setOrder(IIZ)V -/
abbrev M_P_setOrder : hc_M := (⟨"BalancedLine$Plan", "setOrder", "(IIZ)V"⟩, prog_4_method_9_code, 4, none, 0, 0)
theorem d_P_setOrder_0 : decode (mC M_P_setOrder) 0 = .ok (.aload_n 0, 1) := by decide +kernel
theorem d_P_setOrder_1 : decode (mC M_P_setOrder) 1 = .ok (.getfield 15, 3) := by decide +kernel
theorem d_P_setOrder_4 : decode (mC M_P_setOrder) 4 = .ok (.iload_n 2, 1) := by decide +kernel
theorem d_P_setOrder_5 : decode (mC M_P_setOrder) 5 = .ok (.iload_n 3, 1) := by decide +kernel
theorem d_P_setOrder_6 : decode (mC M_P_setOrder) 6 = .ok (.ifCond .eq 16, 3) := by decide +kernel
theorem d_P_setOrder_9 : decode (mC M_P_setOrder) 9 = .ok (.aload_n 0, 1) := by decide +kernel
theorem d_P_setOrder_10 : decode (mC M_P_setOrder) 10 = .ok (.getfield 15, 3) := by decide +kernel
theorem d_P_setOrder_13 : decode (mC M_P_setOrder) 13 = .ok (.iload_n 2, 1) := by decide +kernel
theorem d_P_setOrder_14 : decode (mC M_P_setOrder) 14 = .ok (.iaload, 1) := by decide +kernel
theorem d_P_setOrder_15 : decode (mC M_P_setOrder) 15 = .ok (.iconst 1, 1) := by decide +kernel
theorem d_P_setOrder_16 : decode (mC M_P_setOrder) 16 = .ok (.iload_n 1, 1) := by decide +kernel
theorem d_P_setOrder_17 : decode (mC M_P_setOrder) 17 = .ok (.ishl, 1) := by decide +kernel
theorem d_P_setOrder_18 : decode (mC M_P_setOrder) 18 = .ok (.ior, 1) := by decide +kernel
theorem d_P_setOrder_19 : decode (mC M_P_setOrder) 19 = .ok (.goto 15, 3) := by decide +kernel
theorem d_P_setOrder_22 : decode (mC M_P_setOrder) 22 = .ok (.aload_n 0, 1) := by decide +kernel
theorem d_P_setOrder_23 : decode (mC M_P_setOrder) 23 = .ok (.getfield 15, 3) := by decide +kernel
theorem d_P_setOrder_26 : decode (mC M_P_setOrder) 26 = .ok (.iload_n 2, 1) := by decide +kernel
theorem d_P_setOrder_27 : decode (mC M_P_setOrder) 27 = .ok (.iaload, 1) := by decide +kernel
theorem d_P_setOrder_28 : decode (mC M_P_setOrder) 28 = .ok (.iconst 1, 1) := by decide +kernel
theorem d_P_setOrder_29 : decode (mC M_P_setOrder) 29 = .ok (.iload_n 1, 1) := by decide +kernel
theorem d_P_setOrder_30 : decode (mC M_P_setOrder) 30 = .ok (.ishl, 1) := by decide +kernel
theorem d_P_setOrder_31 : decode (mC M_P_setOrder) 31 = .ok (.iconst (-1), 1) := by decide +kernel
theorem d_P_setOrder_32 : decode (mC M_P_setOrder) 32 = .ok (.ixor, 1) := by decide +kernel
theorem d_P_setOrder_33 : decode (mC M_P_setOrder) 33 = .ok (.iand, 1) := by decide +kernel
theorem d_P_setOrder_34 : decode (mC M_P_setOrder) 34 = .ok (.iastore, 1) := by decide +kernel
theorem d_P_setOrder_35 : decode (mC M_P_setOrder) 35 = .ok (.return_, 1) := by decide +kernel
def vc_P_setOrder_34 (r : Option Value) (hf : hc_H) (J : Nat → hc_K) (lv : hc_L) (st : List Value) (h : hc_H) : Prop := (qi_iast (qi_vret r hf)) lv st h
theorem sn_P_setOrder_34 {Ph : Nat → State → Prop} {h0 hf : hc_H} {r : Option Value} : qk Ph M_P_setOrder h0 hf r 34 (vc_P_setOrder_34 r hf (cx Ph M_P_setOrder h0 hf r)) := (qs_iastore d_P_setOrder_34 (qs_vret d_P_setOrder_35 rfl))
def vc_P_setOrder_22 (r : Option Value) (hf : hc_H) (J : Nat → hc_K) (lv : hc_L) (st : List Value) (h : hc_H) : Prop := (qi_aload 0 (qi_get 2 3 (qi_iload 2 (qi_iald 0 (qi_push (nI 1) (qi_iload 1 (qi_ishl (qi_push (-1) (qi_ixor (qi_iand (vc_P_setOrder_34 r hf J))))))))))) lv st h
theorem sn_P_setOrder_22 {Ph : Nat → State → Prop} {h0 hf : hc_H} {r : Option Value} : qk Ph M_P_setOrder h0 hf r 22 (vc_P_setOrder_22 r hf (cx Ph M_P_setOrder h0 hf r)) := (qs_aload_n d_P_setOrder_22 rfl (qs_get d_P_setOrder_23 ff_P_15 (qs_iload_n d_P_setOrder_26 rfl (qs_iaload d_P_setOrder_27 (qs_iconst d_P_setOrder_28 (by decide) (qs_iload_n d_P_setOrder_29 rfl (qs_ishl d_P_setOrder_30 (qs_iconst d_P_setOrder_31 (by decide) (qs_ixor d_P_setOrder_32 (qs_iand d_P_setOrder_33 sn_P_setOrder_34))))))))))
def vc_P_setOrder_0 (r : Option Value) (hf : hc_H) (J : Nat → hc_K) (lv : hc_L) (st : List Value) (h : hc_H) : Prop := (qi_aload 0 (qi_get 2 3 (qi_iload 2 (qi_iload 3 (qi_if_eq (vc_P_setOrder_22 r hf J) (qi_aload 0 (qi_get 2 3 (qi_iload 2 (qi_iald 0 (qi_push (nI 1) (qi_iload 1 (qi_ishl (qi_ior (vc_P_setOrder_34 r hf J)))))))))))))) lv st h
theorem sn_P_setOrder_0 {Ph : Nat → State → Prop} {h0 hf : hc_H} {r : Option Value} : qk Ph M_P_setOrder h0 hf r 0 (vc_P_setOrder_0 r hf (cx Ph M_P_setOrder h0 hf r)) := (qs_aload_n d_P_setOrder_0 rfl (qs_get d_P_setOrder_1 ff_P_15 (qs_iload_n d_P_setOrder_4 rfl (qs_iload_n d_P_setOrder_5 rfl (qs_if_eq (tgt := 22) d_P_setOrder_6 (by decide) sn_P_setOrder_22 (qs_aload_n d_P_setOrder_9 rfl (qs_get d_P_setOrder_10 ff_P_15 (qs_iload_n d_P_setOrder_13 rfl (qs_iaload d_P_setOrder_14 (qs_iconst d_P_setOrder_15 (by decide) (qs_iload_n d_P_setOrder_16 rfl (qs_ishl d_P_setOrder_17 (qs_ior d_P_setOrder_18 (qs_goto (tgt := 34) d_P_setOrder_19 (by decide) sn_P_setOrder_34))))))))))))))
/-! BalancedLine$Plan.zoneOf(II)I -/
abbrev M_P_zoneOf : hc_M := (⟨"BalancedLine$Plan", "zoneOf", "(II)I"⟩, prog_4_method_10_code, 3, (some .int), 0, 0)
theorem d_P_zoneOf_0 : decode (mC M_P_zoneOf) 0 = .ok (.aload_n 0, 1) := by decide +kernel
theorem d_P_zoneOf_1 : decode (mC M_P_zoneOf) 1 = .ok (.getfield 18, 3) := by decide +kernel
theorem d_P_zoneOf_4 : decode (mC M_P_zoneOf) 4 = .ok (.iload_n 1, 1) := by decide +kernel
theorem d_P_zoneOf_5 : decode (mC M_P_zoneOf) 5 = .ok (.iaload, 1) := by decide +kernel
theorem d_P_zoneOf_6 : decode (mC M_P_zoneOf) 6 = .ok (.iload_n 2, 1) := by decide +kernel
theorem d_P_zoneOf_7 : decode (mC M_P_zoneOf) 7 = .ok (.ishr, 1) := by decide +kernel
theorem d_P_zoneOf_8 : decode (mC M_P_zoneOf) 8 = .ok (.iconst 1, 1) := by decide +kernel
theorem d_P_zoneOf_9 : decode (mC M_P_zoneOf) 9 = .ok (.iand, 1) := by decide +kernel
theorem d_P_zoneOf_10 : decode (mC M_P_zoneOf) 10 = .ok (.iconst 1, 1) := by decide +kernel
theorem d_P_zoneOf_11 : decode (mC M_P_zoneOf) 11 = .ok (.if_icmp .ne 5, 3) := by decide +kernel
theorem d_P_zoneOf_14 : decode (mC M_P_zoneOf) 14 = .ok (.iconst 1, 1) := by decide +kernel
theorem d_P_zoneOf_15 : decode (mC M_P_zoneOf) 15 = .ok (.ireturn, 1) := by decide +kernel
theorem d_P_zoneOf_16 : decode (mC M_P_zoneOf) 16 = .ok (.aload_n 0, 1) := by decide +kernel
theorem d_P_zoneOf_17 : decode (mC M_P_zoneOf) 17 = .ok (.getfield 21, 3) := by decide +kernel
theorem d_P_zoneOf_20 : decode (mC M_P_zoneOf) 20 = .ok (.iload_n 1, 1) := by decide +kernel
theorem d_P_zoneOf_21 : decode (mC M_P_zoneOf) 21 = .ok (.iaload, 1) := by decide +kernel
theorem d_P_zoneOf_22 : decode (mC M_P_zoneOf) 22 = .ok (.iload_n 2, 1) := by decide +kernel
theorem d_P_zoneOf_23 : decode (mC M_P_zoneOf) 23 = .ok (.ishr, 1) := by decide +kernel
theorem d_P_zoneOf_24 : decode (mC M_P_zoneOf) 24 = .ok (.iconst 1, 1) := by decide +kernel
theorem d_P_zoneOf_25 : decode (mC M_P_zoneOf) 25 = .ok (.iand, 1) := by decide +kernel
theorem d_P_zoneOf_26 : decode (mC M_P_zoneOf) 26 = .ok (.iconst 1, 1) := by decide +kernel
theorem d_P_zoneOf_27 : decode (mC M_P_zoneOf) 27 = .ok (.if_icmp .ne 7, 3) := by decide +kernel
theorem d_P_zoneOf_30 : decode (mC M_P_zoneOf) 30 = .ok (.iconst 2, 1) := by decide +kernel
theorem d_P_zoneOf_31 : decode (mC M_P_zoneOf) 31 = .ok (.goto 4, 3) := by decide +kernel
theorem d_P_zoneOf_34 : decode (mC M_P_zoneOf) 34 = .ok (.iconst 0, 1) := by decide +kernel
theorem d_P_zoneOf_35 : decode (mC M_P_zoneOf) 35 = .ok (.ireturn, 1) := by decide +kernel
def vc_P_zoneOf_35 (r : Option Value) (hf : hc_H) (J : Nat → hc_K) (lv : hc_L) (st : List Value) (h : hc_H) : Prop := (qi_iret r hf) lv st h
theorem sn_P_zoneOf_35 {Ph : Nat → State → Prop} {h0 hf : hc_H} {r : Option Value} : qk Ph M_P_zoneOf h0 hf r 35 (vc_P_zoneOf_35 r hf (cx Ph M_P_zoneOf h0 hf r)) := (qs_iret d_P_zoneOf_35 rfl)
def vc_P_zoneOf_34 (r : Option Value) (hf : hc_H) (J : Nat → hc_K) (lv : hc_L) (st : List Value) (h : hc_H) : Prop := (qi_push (nI 0) (vc_P_zoneOf_35 r hf J)) lv st h
theorem sn_P_zoneOf_34 {Ph : Nat → State → Prop} {h0 hf : hc_H} {r : Option Value} : qk Ph M_P_zoneOf h0 hf r 34 (vc_P_zoneOf_34 r hf (cx Ph M_P_zoneOf h0 hf r)) := (qs_iconst d_P_zoneOf_34 (by decide) sn_P_zoneOf_35)
def vc_P_zoneOf_16 (r : Option Value) (hf : hc_H) (J : Nat → hc_K) (lv : hc_L) (st : List Value) (h : hc_H) : Prop := (qi_aload 0 (qi_get 2 5 (qi_iload 1 (qi_iald 0 (qi_iload 2 (qi_ishr (qi_push (nI 1) (qi_iand (qi_push (nI 1) (qi_icmp_ne (vc_P_zoneOf_34 r hf J) (qi_push (nI 2) (vc_P_zoneOf_35 r hf J)))))))))))) lv st h
theorem sn_P_zoneOf_16 {Ph : Nat → State → Prop} {h0 hf : hc_H} {r : Option Value} : qk Ph M_P_zoneOf h0 hf r 16 (vc_P_zoneOf_16 r hf (cx Ph M_P_zoneOf h0 hf r)) := (qs_aload_n d_P_zoneOf_16 rfl (qs_get d_P_zoneOf_17 ff_P_21 (qs_iload_n d_P_zoneOf_20 rfl (qs_iaload d_P_zoneOf_21 (qs_iload_n d_P_zoneOf_22 rfl (qs_ishr d_P_zoneOf_23 (qs_iconst d_P_zoneOf_24 (by decide) (qs_iand d_P_zoneOf_25 (qs_iconst d_P_zoneOf_26 (by decide) (qs_icmp_ne (tgt := 34) d_P_zoneOf_27 (by decide) sn_P_zoneOf_34 (qs_iconst d_P_zoneOf_30 (by decide) (qs_goto (tgt := 35) d_P_zoneOf_31 (by decide) sn_P_zoneOf_35))))))))))))
def vc_P_zoneOf_0 (r : Option Value) (hf : hc_H) (J : Nat → hc_K) (lv : hc_L) (st : List Value) (h : hc_H) : Prop := (qi_aload 0 (qi_get 2 4 (qi_iload 1 (qi_iald 0 (qi_iload 2 (qi_ishr (qi_push (nI 1) (qi_iand (qi_push (nI 1) (qi_icmp_ne (vc_P_zoneOf_16 r hf J) (qi_push (nI 1) (qi_iret r hf)))))))))))) lv st h
theorem sn_P_zoneOf_0 {Ph : Nat → State → Prop} {h0 hf : hc_H} {r : Option Value} : qk Ph M_P_zoneOf h0 hf r 0 (vc_P_zoneOf_0 r hf (cx Ph M_P_zoneOf h0 hf r)) := (qs_aload_n d_P_zoneOf_0 rfl (qs_get d_P_zoneOf_1 ff_P_18 (qs_iload_n d_P_zoneOf_4 rfl (qs_iaload d_P_zoneOf_5 (qs_iload_n d_P_zoneOf_6 rfl (qs_ishr d_P_zoneOf_7 (qs_iconst d_P_zoneOf_8 (by decide) (qs_iand d_P_zoneOf_9 (qs_iconst d_P_zoneOf_10 (by decide) (qs_icmp_ne (tgt := 16) d_P_zoneOf_11 (by decide) sn_P_zoneOf_16 (qs_iconst d_P_zoneOf_14 (by decide) (qs_iret d_P_zoneOf_15 rfl))))))))))))
/-! BalancedLine$Plan.setPair([IIIZ)V -/
abbrev M_P_setPair : hc_M := (⟨"BalancedLine$Plan", "setPair", "([IIIZ)V"⟩, prog_4_method_12_code, 4, none, 0, 0)
theorem d_P_setPair_0 : decode (mC M_P_setPair) 0 = .ok (.aload_n 0, 1) := by decide +kernel
theorem d_P_setPair_1 : decode (mC M_P_setPair) 1 = .ok (.iload_n 1, 1) := by decide +kernel
theorem d_P_setPair_2 : decode (mC M_P_setPair) 2 = .ok (.iload_n 3, 1) := by decide +kernel
theorem d_P_setPair_3 : decode (mC M_P_setPair) 3 = .ok (.ifCond .eq 13, 3) := by decide +kernel
theorem d_P_setPair_6 : decode (mC M_P_setPair) 6 = .ok (.aload_n 0, 1) := by decide +kernel
theorem d_P_setPair_7 : decode (mC M_P_setPair) 7 = .ok (.iload_n 1, 1) := by decide +kernel
theorem d_P_setPair_8 : decode (mC M_P_setPair) 8 = .ok (.iaload, 1) := by decide +kernel
theorem d_P_setPair_9 : decode (mC M_P_setPair) 9 = .ok (.iconst 1, 1) := by decide +kernel
theorem d_P_setPair_10 : decode (mC M_P_setPair) 10 = .ok (.iload_n 2, 1) := by decide +kernel
theorem d_P_setPair_11 : decode (mC M_P_setPair) 11 = .ok (.ishl, 1) := by decide +kernel
theorem d_P_setPair_12 : decode (mC M_P_setPair) 12 = .ok (.ior, 1) := by decide +kernel
theorem d_P_setPair_13 : decode (mC M_P_setPair) 13 = .ok (.goto 12, 3) := by decide +kernel
theorem d_P_setPair_16 : decode (mC M_P_setPair) 16 = .ok (.aload_n 0, 1) := by decide +kernel
theorem d_P_setPair_17 : decode (mC M_P_setPair) 17 = .ok (.iload_n 1, 1) := by decide +kernel
theorem d_P_setPair_18 : decode (mC M_P_setPair) 18 = .ok (.iaload, 1) := by decide +kernel
theorem d_P_setPair_19 : decode (mC M_P_setPair) 19 = .ok (.iconst 1, 1) := by decide +kernel
theorem d_P_setPair_20 : decode (mC M_P_setPair) 20 = .ok (.iload_n 2, 1) := by decide +kernel
theorem d_P_setPair_21 : decode (mC M_P_setPair) 21 = .ok (.ishl, 1) := by decide +kernel
theorem d_P_setPair_22 : decode (mC M_P_setPair) 22 = .ok (.iconst (-1), 1) := by decide +kernel
theorem d_P_setPair_23 : decode (mC M_P_setPair) 23 = .ok (.ixor, 1) := by decide +kernel
theorem d_P_setPair_24 : decode (mC M_P_setPair) 24 = .ok (.iand, 1) := by decide +kernel
theorem d_P_setPair_25 : decode (mC M_P_setPair) 25 = .ok (.iastore, 1) := by decide +kernel
theorem d_P_setPair_26 : decode (mC M_P_setPair) 26 = .ok (.aload_n 0, 1) := by decide +kernel
theorem d_P_setPair_27 : decode (mC M_P_setPair) 27 = .ok (.iload_n 2, 1) := by decide +kernel
theorem d_P_setPair_28 : decode (mC M_P_setPair) 28 = .ok (.iload_n 3, 1) := by decide +kernel
theorem d_P_setPair_29 : decode (mC M_P_setPair) 29 = .ok (.ifCond .eq 13, 3) := by decide +kernel
theorem d_P_setPair_32 : decode (mC M_P_setPair) 32 = .ok (.aload_n 0, 1) := by decide +kernel
theorem d_P_setPair_33 : decode (mC M_P_setPair) 33 = .ok (.iload_n 2, 1) := by decide +kernel
theorem d_P_setPair_34 : decode (mC M_P_setPair) 34 = .ok (.iaload, 1) := by decide +kernel
theorem d_P_setPair_35 : decode (mC M_P_setPair) 35 = .ok (.iconst 1, 1) := by decide +kernel
theorem d_P_setPair_36 : decode (mC M_P_setPair) 36 = .ok (.iload_n 1, 1) := by decide +kernel
theorem d_P_setPair_37 : decode (mC M_P_setPair) 37 = .ok (.ishl, 1) := by decide +kernel
theorem d_P_setPair_38 : decode (mC M_P_setPair) 38 = .ok (.ior, 1) := by decide +kernel
theorem d_P_setPair_39 : decode (mC M_P_setPair) 39 = .ok (.goto 12, 3) := by decide +kernel
theorem d_P_setPair_42 : decode (mC M_P_setPair) 42 = .ok (.aload_n 0, 1) := by decide +kernel
theorem d_P_setPair_43 : decode (mC M_P_setPair) 43 = .ok (.iload_n 2, 1) := by decide +kernel
theorem d_P_setPair_44 : decode (mC M_P_setPair) 44 = .ok (.iaload, 1) := by decide +kernel
theorem d_P_setPair_45 : decode (mC M_P_setPair) 45 = .ok (.iconst 1, 1) := by decide +kernel
theorem d_P_setPair_46 : decode (mC M_P_setPair) 46 = .ok (.iload_n 1, 1) := by decide +kernel
theorem d_P_setPair_47 : decode (mC M_P_setPair) 47 = .ok (.ishl, 1) := by decide +kernel
theorem d_P_setPair_48 : decode (mC M_P_setPair) 48 = .ok (.iconst (-1), 1) := by decide +kernel
theorem d_P_setPair_49 : decode (mC M_P_setPair) 49 = .ok (.ixor, 1) := by decide +kernel
theorem d_P_setPair_50 : decode (mC M_P_setPair) 50 = .ok (.iand, 1) := by decide +kernel
theorem d_P_setPair_51 : decode (mC M_P_setPair) 51 = .ok (.iastore, 1) := by decide +kernel
theorem d_P_setPair_52 : decode (mC M_P_setPair) 52 = .ok (.return_, 1) := by decide +kernel
def vc_P_setPair_51 (r : Option Value) (hf : hc_H) (J : Nat → hc_K) (lv : hc_L) (st : List Value) (h : hc_H) : Prop := (qi_iast (qi_vret r hf)) lv st h
theorem sn_P_setPair_51 {Ph : Nat → State → Prop} {h0 hf : hc_H} {r : Option Value} : qk Ph M_P_setPair h0 hf r 51 (vc_P_setPair_51 r hf (cx Ph M_P_setPair h0 hf r)) := (qs_iastore d_P_setPair_51 (qs_vret d_P_setPair_52 rfl))
def vc_P_setPair_42 (r : Option Value) (hf : hc_H) (J : Nat → hc_K) (lv : hc_L) (st : List Value) (h : hc_H) : Prop := (qi_aload 0 (qi_iload 2 (qi_iald 0 (qi_push (nI 1) (qi_iload 1 (qi_ishl (qi_push (-1) (qi_ixor (qi_iand (vc_P_setPair_51 r hf J)))))))))) lv st h
theorem sn_P_setPair_42 {Ph : Nat → State → Prop} {h0 hf : hc_H} {r : Option Value} : qk Ph M_P_setPair h0 hf r 42 (vc_P_setPair_42 r hf (cx Ph M_P_setPair h0 hf r)) := (qs_aload_n d_P_setPair_42 rfl (qs_iload_n d_P_setPair_43 rfl (qs_iaload d_P_setPair_44 (qs_iconst d_P_setPair_45 (by decide) (qs_iload_n d_P_setPair_46 rfl (qs_ishl d_P_setPair_47 (qs_iconst d_P_setPair_48 (by decide) (qs_ixor d_P_setPair_49 (qs_iand d_P_setPair_50 sn_P_setPair_51)))))))))
def vc_P_setPair_25 (r : Option Value) (hf : hc_H) (J : Nat → hc_K) (lv : hc_L) (st : List Value) (h : hc_H) : Prop := (qi_iast (qi_aload 0 (qi_iload 2 (qi_iload 3 (qi_if_eq (vc_P_setPair_42 r hf J) (qi_aload 0 (qi_iload 2 (qi_iald 0 (qi_push (nI 1) (qi_iload 1 (qi_ishl (qi_ior (vc_P_setPair_51 r hf J))))))))))))) lv st h
theorem sn_P_setPair_25 {Ph : Nat → State → Prop} {h0 hf : hc_H} {r : Option Value} : qk Ph M_P_setPair h0 hf r 25 (vc_P_setPair_25 r hf (cx Ph M_P_setPair h0 hf r)) := (qs_iastore d_P_setPair_25 (qs_aload_n d_P_setPair_26 rfl (qs_iload_n d_P_setPair_27 rfl (qs_iload_n d_P_setPair_28 rfl (qs_if_eq (tgt := 42) d_P_setPair_29 (by decide) sn_P_setPair_42 (qs_aload_n d_P_setPair_32 rfl (qs_iload_n d_P_setPair_33 rfl (qs_iaload d_P_setPair_34 (qs_iconst d_P_setPair_35 (by decide) (qs_iload_n d_P_setPair_36 rfl (qs_ishl d_P_setPair_37 (qs_ior d_P_setPair_38 (qs_goto (tgt := 51) d_P_setPair_39 (by decide) sn_P_setPair_51)))))))))))))
def vc_P_setPair_16 (r : Option Value) (hf : hc_H) (J : Nat → hc_K) (lv : hc_L) (st : List Value) (h : hc_H) : Prop := (qi_aload 0 (qi_iload 1 (qi_iald 0 (qi_push (nI 1) (qi_iload 2 (qi_ishl (qi_push (-1) (qi_ixor (qi_iand (vc_P_setPair_25 r hf J)))))))))) lv st h
theorem sn_P_setPair_16 {Ph : Nat → State → Prop} {h0 hf : hc_H} {r : Option Value} : qk Ph M_P_setPair h0 hf r 16 (vc_P_setPair_16 r hf (cx Ph M_P_setPair h0 hf r)) := (qs_aload_n d_P_setPair_16 rfl (qs_iload_n d_P_setPair_17 rfl (qs_iaload d_P_setPair_18 (qs_iconst d_P_setPair_19 (by decide) (qs_iload_n d_P_setPair_20 rfl (qs_ishl d_P_setPair_21 (qs_iconst d_P_setPair_22 (by decide) (qs_ixor d_P_setPair_23 (qs_iand d_P_setPair_24 sn_P_setPair_25)))))))))
def vc_P_setPair_0 (r : Option Value) (hf : hc_H) (J : Nat → hc_K) (lv : hc_L) (st : List Value) (h : hc_H) : Prop := (qi_aload 0 (qi_iload 1 (qi_iload 3 (qi_if_eq (vc_P_setPair_16 r hf J) (qi_aload 0 (qi_iload 1 (qi_iald 0 (qi_push (nI 1) (qi_iload 2 (qi_ishl (qi_ior (vc_P_setPair_25 r hf J)))))))))))) lv st h
theorem sn_P_setPair_0 {Ph : Nat → State → Prop} {h0 hf : hc_H} {r : Option Value} : qk Ph M_P_setPair h0 hf r 0 (vc_P_setPair_0 r hf (cx Ph M_P_setPair h0 hf r)) := (qs_aload_n d_P_setPair_0 rfl (qs_iload_n d_P_setPair_1 rfl (qs_iload_n d_P_setPair_2 rfl (qs_if_eq (tgt := 16) d_P_setPair_3 (by decide) sn_P_setPair_16 (qs_aload_n d_P_setPair_6 rfl (qs_iload_n d_P_setPair_7 rfl (qs_iaload d_P_setPair_8 (qs_iconst d_P_setPair_9 (by decide) (qs_iload_n d_P_setPair_10 rfl (qs_ishl d_P_setPair_11 (qs_ior d_P_setPair_12 (qs_goto (tgt := 25) d_P_setPair_13 (by decide) sn_P_setPair_25))))))))))))
theorem zz_P_setPair : hc_z M_P_setPair 4 := ⟨wk_288, wk_56, by decide +kernel⟩
/-! BalancedLine$Plan.setZone(III)V -/
abbrev M_P_setZone : hc_M := (⟨"BalancedLine$Plan", "setZone", "(III)V"⟩, prog_4_method_11_code, 4, none, 1, 23)
theorem d_P_setZone_0 : decode (mC M_P_setZone) 0 = .ok (.aload_n 0, 1) := by decide +kernel
theorem d_P_setZone_1 : decode (mC M_P_setZone) 1 = .ok (.getfield 18, 3) := by decide +kernel
theorem d_P_setZone_4 : decode (mC M_P_setZone) 4 = .ok (.iload_n 1, 1) := by decide +kernel
theorem d_P_setZone_5 : decode (mC M_P_setZone) 5 = .ok (.iload_n 2, 1) := by decide +kernel
theorem d_P_setZone_6 : decode (mC M_P_setZone) 6 = .ok (.iload_n 3, 1) := by decide +kernel
theorem d_P_setZone_7 : decode (mC M_P_setZone) 7 = .ok (.iconst 1, 1) := by decide +kernel
theorem d_P_setZone_8 : decode (mC M_P_setZone) 8 = .ok (.if_icmp .ne 7, 3) := by decide +kernel
theorem d_P_setZone_11 : decode (mC M_P_setZone) 11 = .ok (.iconst 1, 1) := by decide +kernel
theorem d_P_setZone_12 : decode (mC M_P_setZone) 12 = .ok (.goto 4, 3) := by decide +kernel
theorem d_P_setZone_15 : decode (mC M_P_setZone) 15 = .ok (.iconst 0, 1) := by decide +kernel
theorem d_P_setZone_16 : decode (mC M_P_setZone) 16 = .ok (.invokestatic 54, 3) := by decide +kernel
theorem d_P_setZone_19 : decode (mC M_P_setZone) 19 = .ok (.aload_n 0, 1) := by decide +kernel
theorem d_P_setZone_20 : decode (mC M_P_setZone) 20 = .ok (.getfield 21, 3) := by decide +kernel
theorem d_P_setZone_23 : decode (mC M_P_setZone) 23 = .ok (.iload_n 1, 1) := by decide +kernel
theorem d_P_setZone_24 : decode (mC M_P_setZone) 24 = .ok (.iload_n 2, 1) := by decide +kernel
theorem d_P_setZone_25 : decode (mC M_P_setZone) 25 = .ok (.iload_n 3, 1) := by decide +kernel
theorem d_P_setZone_26 : decode (mC M_P_setZone) 26 = .ok (.iconst 2, 1) := by decide +kernel
theorem d_P_setZone_27 : decode (mC M_P_setZone) 27 = .ok (.if_icmp .ne 7, 3) := by decide +kernel
theorem d_P_setZone_30 : decode (mC M_P_setZone) 30 = .ok (.iconst 1, 1) := by decide +kernel
theorem d_P_setZone_31 : decode (mC M_P_setZone) 31 = .ok (.goto 4, 3) := by decide +kernel
theorem d_P_setZone_34 : decode (mC M_P_setZone) 34 = .ok (.iconst 0, 1) := by decide +kernel
theorem d_P_setZone_35 : decode (mC M_P_setZone) 35 = .ok (.invokestatic 54, 3) := by decide +kernel
theorem d_P_setZone_38 : decode (mC M_P_setZone) 38 = .ok (.return_, 1) := by decide +kernel
def vc_P_setZone_35 (r : Option Value) (hf : hc_H) (J : Nat → hc_K) (lv : hc_L) (st : List Value) (h : hc_H) : Prop := (qi_invS hc_tt M_P_setPair 4 (qi_vret r hf)) lv st h
theorem sn_P_setZone_35 {Ph : Nat → State → Prop} {h0 hf : hc_H} {r : Option Value} : qk Ph M_P_setZone h0 hf r 35 (vc_P_setZone_35 r hf (cx Ph M_P_setZone h0 hf r)) := (qs_invS hc_Ph_tt (fun _ _ _ => trivial) d_P_setZone_35 zz_P_setPair wk_286 wk_287 ⟨by decide, by decide⟩ (qs_vret d_P_setZone_38 rfl))
def vc_P_setZone_34 (r : Option Value) (hf : hc_H) (J : Nat → hc_K) (lv : hc_L) (st : List Value) (h : hc_H) : Prop := (qi_push (nI 0) (vc_P_setZone_35 r hf J)) lv st h
theorem sn_P_setZone_34 {Ph : Nat → State → Prop} {h0 hf : hc_H} {r : Option Value} : qk Ph M_P_setZone h0 hf r 34 (vc_P_setZone_34 r hf (cx Ph M_P_setZone h0 hf r)) := (qs_iconst d_P_setZone_34 (by decide) sn_P_setZone_35)
def vc_P_setZone_16 (r : Option Value) (hf : hc_H) (J : Nat → hc_K) (lv : hc_L) (st : List Value) (h : hc_H) : Prop := (qi_invS hc_tt M_P_setPair 4 (qi_aload 0 (qi_get 2 5 (qi_iload 1 (qi_iload 2 (qi_iload 3 (qi_push (nI 2) (qi_icmp_ne (vc_P_setZone_34 r hf J) (qi_push (nI 1) (vc_P_setZone_35 r hf J)))))))))) lv st h
theorem sn_P_setZone_16 {Ph : Nat → State → Prop} {h0 hf : hc_H} {r : Option Value} : qk Ph M_P_setZone h0 hf r 16 (vc_P_setZone_16 r hf (cx Ph M_P_setZone h0 hf r)) := (qs_invS hc_Ph_tt (fun _ _ _ => trivial) d_P_setZone_16 zz_P_setPair wk_286 wk_287 ⟨by decide, by decide⟩ (qs_aload_n d_P_setZone_19 rfl (qs_get d_P_setZone_20 ff_P_21 (qs_iload_n d_P_setZone_23 rfl (qs_iload_n d_P_setZone_24 rfl (qs_iload_n d_P_setZone_25 rfl (qs_iconst d_P_setZone_26 (by decide) (qs_icmp_ne (tgt := 34) d_P_setZone_27 (by decide) sn_P_setZone_34 (qs_iconst d_P_setZone_30 (by decide) (qs_goto (tgt := 35) d_P_setZone_31 (by decide) sn_P_setZone_35))))))))))
def vc_P_setZone_15 (r : Option Value) (hf : hc_H) (J : Nat → hc_K) (lv : hc_L) (st : List Value) (h : hc_H) : Prop := (qi_push (nI 0) (vc_P_setZone_16 r hf J)) lv st h
theorem sn_P_setZone_15 {Ph : Nat → State → Prop} {h0 hf : hc_H} {r : Option Value} : qk Ph M_P_setZone h0 hf r 15 (vc_P_setZone_15 r hf (cx Ph M_P_setZone h0 hf r)) := (qs_iconst d_P_setZone_15 (by decide) sn_P_setZone_16)
def vc_P_setZone_0 (r : Option Value) (hf : hc_H) (J : Nat → hc_K) (lv : hc_L) (st : List Value) (h : hc_H) : Prop := (qi_aload 0 (qi_get 2 4 (qi_iload 1 (qi_iload 2 (qi_iload 3 (qi_push (nI 1) (qi_icmp_ne (vc_P_setZone_15 r hf J) (qi_push (nI 1) (vc_P_setZone_16 r hf J))))))))) lv st h
theorem sn_P_setZone_0 {Ph : Nat → State → Prop} {h0 hf : hc_H} {r : Option Value} : qk Ph M_P_setZone h0 hf r 0 (vc_P_setZone_0 r hf (cx Ph M_P_setZone h0 hf r)) := (qs_aload_n d_P_setZone_0 rfl (qs_get d_P_setZone_1 ff_P_18 (qs_iload_n d_P_setZone_4 rfl (qs_iload_n d_P_setZone_5 rfl (qs_iload_n d_P_setZone_6 rfl (qs_iconst d_P_setZone_7 (by decide) (qs_icmp_ne (tgt := 15) d_P_setZone_8 (by decide) sn_P_setZone_15 (qs_iconst d_P_setZone_11 (by decide) (qs_goto (tgt := 16) d_P_setZone_12 (by decide) sn_P_setZone_16)))))))))
theorem zz_P_isBehind : hc_z M_P_isBehind 2 := ⟨wk_265, wk_56, by decide +kernel⟩
/-! BalancedLine$Plan.behind(I)I -/
abbrev M_P_behind : hc_M := (⟨"BalancedLine$Plan", "behind", "(I)I"⟩, prog_4_method_13_code, 4, (some .int), 1, 22)
theorem d_P_behind_0 : decode (mC M_P_behind) 0 = .ok (.iconst 0, 1) := by decide +kernel
theorem d_P_behind_1 : decode (mC M_P_behind) 1 = .ok (.istore_n 2, 1) := by decide +kernel
theorem d_P_behind_2 : decode (mC M_P_behind) 2 = .ok (.iconst 0, 1) := by decide +kernel
theorem d_P_behind_3 : decode (mC M_P_behind) 3 = .ok (.istore_n 3, 1) := by decide +kernel
theorem d_P_behind_4 : decode (mC M_P_behind) 4 = .ok (.iload_n 3, 1) := by decide +kernel
theorem d_P_behind_5 : decode (mC M_P_behind) 5 = .ok (.aload_n 0, 1) := by decide +kernel
theorem d_P_behind_6 : decode (mC M_P_behind) 6 = .ok (.getfield 27, 3) := by decide +kernel
theorem d_P_behind_9 : decode (mC M_P_behind) 9 = .ok (.if_icmp .ge 24, 3) := by decide +kernel
theorem d_P_behind_12 : decode (mC M_P_behind) 12 = .ok (.aload_n 0, 1) := by decide +kernel
theorem d_P_behind_13 : decode (mC M_P_behind) 13 = .ok (.iload_n 3, 1) := by decide +kernel
theorem d_P_behind_14 : decode (mC M_P_behind) 14 = .ok (.iload_n 1, 1) := by decide +kernel
theorem d_P_behind_15 : decode (mC M_P_behind) 15 = .ok (.invokevirtual 58, 3) := by decide +kernel
theorem d_P_behind_18 : decode (mC M_P_behind) 18 = .ok (.ifCond .eq 9, 3) := by decide +kernel
theorem d_P_behind_21 : decode (mC M_P_behind) 21 = .ok (.iload_n 2, 1) := by decide +kernel
theorem d_P_behind_22 : decode (mC M_P_behind) 22 = .ok (.iconst 1, 1) := by decide +kernel
theorem d_P_behind_23 : decode (mC M_P_behind) 23 = .ok (.iload_n 3, 1) := by decide +kernel
theorem d_P_behind_24 : decode (mC M_P_behind) 24 = .ok (.ishl, 1) := by decide +kernel
theorem d_P_behind_25 : decode (mC M_P_behind) 25 = .ok (.ior, 1) := by decide +kernel
theorem d_P_behind_26 : decode (mC M_P_behind) 26 = .ok (.istore_n 2, 1) := by decide +kernel
theorem d_P_behind_27 : decode (mC M_P_behind) 27 = .ok (.iinc 3 1, 3) := by decide +kernel
theorem d_P_behind_30 : decode (mC M_P_behind) 30 = .ok (.goto (-26), 3) := by decide +kernel
theorem d_P_behind_33 : decode (mC M_P_behind) 33 = .ok (.iload_n 2, 1) := by decide +kernel
theorem d_P_behind_34 : decode (mC M_P_behind) 34 = .ok (.ireturn, 1) := by decide +kernel
def vc_P_behind_33 (r : Option Value) (hf : hc_H) (J : Nat → hc_K) (lv : hc_L) (st : List Value) (h : hc_H) : Prop := (qi_iload 2 (qi_iret r hf)) lv st h
theorem sn_P_behind_33 {Ph : Nat → State → Prop} {h0 hf : hc_H} {r : Option Value} : qk Ph M_P_behind h0 hf r 33 (vc_P_behind_33 r hf (cx Ph M_P_behind h0 hf r)) := (qs_iload_n d_P_behind_33 rfl (qs_iret d_P_behind_34 rfl))
def vc_P_behind_27 (r : Option Value) (hf : hc_H) (J : Nat → hc_K) (lv : hc_L) (st : List Value) (h : hc_H) : Prop := (qi_iinc 3 (nI 1) (J 4)) lv st h
theorem sn_P_behind_27 {Ph : Nat → State → Prop} {h0 hf : hc_H} {r : Option Value} : qk Ph M_P_behind h0 hf r 27 (vc_P_behind_27 r hf (cx Ph M_P_behind h0 hf r)) := (qs_iinc d_P_behind_27 (by decide) (by decide) (qs_goto (tgt := 4) d_P_behind_30 (by decide) (fun _ _ _ h9 => h9)))
def vc_P_behind_4 (r : Option Value) (hf : hc_H) (J : Nat → hc_K) (lv : hc_L) (st : List Value) (h : hc_H) : Prop := (qi_iload 3 (qi_aload 0 (qi_get 2 0 (qi_icmp_ge (vc_P_behind_33 r hf J) (qi_aload 0 (qi_iload 3 (qi_iload 1 (qi_invV hc_tt M_P_isBehind 2 2 (qi_if_eq (vc_P_behind_27 r hf J) (qi_iload 2 (qi_push (nI 1) (qi_iload 3 (qi_ishl (qi_ior (qi_istore 2 (vc_P_behind_27 r hf J)))))))))))))))) lv st h
theorem sn_P_behind_4 {Ph : Nat → State → Prop} {h0 hf : hc_H} {r : Option Value} : qk Ph M_P_behind h0 hf r 4 (vc_P_behind_4 r hf (cx Ph M_P_behind h0 hf r)) := (qs_iload_n d_P_behind_4 rfl (qs_aload_n d_P_behind_5 rfl (qs_get d_P_behind_6 ff_P_27 (qs_icmp_ge (tgt := 33) d_P_behind_9 (by decide) sn_P_behind_33 (qs_aload_n d_P_behind_12 rfl (qs_iload_n d_P_behind_13 rfl (qs_iload_n d_P_behind_14 rfl (qs_invV hc_Ph_tt (fun _ _ _ => trivial) d_P_behind_15 zz_P_isBehind wk_479 ⟨wk_263, wk_264⟩ ⟨_, rfl, rfl⟩ ⟨by decide, by decide⟩ (qs_if_eq (tgt := 27) d_P_behind_18 (by decide) sn_P_behind_27 (qs_iload_n d_P_behind_21 rfl (qs_iconst d_P_behind_22 (by decide) (qs_iload_n d_P_behind_23 rfl (qs_ishl d_P_behind_24 (qs_ior d_P_behind_25 (qs_istore_n d_P_behind_26 rfl (by decide) sn_P_behind_27)))))))))))))))
def vc_P_behind_0 (r : Option Value) (hf : hc_H) (J : Nat → hc_K) (lv : hc_L) (st : List Value) (h : hc_H) : Prop := (qi_push (nI 0) (qi_istore 2 (qi_push (nI 0) (qi_istore 3 (J 4))))) lv st h
theorem sn_P_behind_0 {Ph : Nat → State → Prop} {h0 hf : hc_H} {r : Option Value} : qk Ph M_P_behind h0 hf r 0 (vc_P_behind_0 r hf (cx Ph M_P_behind h0 hf r)) := (qs_iconst d_P_behind_0 (by decide) (qs_istore_n d_P_behind_1 rfl (by decide) (qs_iconst d_P_behind_2 (by decide) (qs_istore_n d_P_behind_3 rfl (by decide) (fun _ _ _ h9 => h9)))))
/-! BalancedLine$Plan.allAhead(I)I -/
abbrev M_P_allAhead : hc_M := (⟨"BalancedLine$Plan", "allAhead", "(I)I"⟩, prog_4_method_15_code, 5, (some .int), 0, 0)
theorem d_P_allAhead_0 : decode (mC M_P_allAhead) 0 = .ok (.aload_n 0, 1) := by decide +kernel
theorem d_P_allAhead_1 : decode (mC M_P_allAhead) 1 = .ok (.getfield 15, 3) := by decide +kernel
theorem d_P_allAhead_4 : decode (mC M_P_allAhead) 4 = .ok (.iload_n 1, 1) := by decide +kernel
theorem d_P_allAhead_5 : decode (mC M_P_allAhead) 5 = .ok (.iaload, 1) := by decide +kernel
theorem d_P_allAhead_6 : decode (mC M_P_allAhead) 6 = .ok (.istore_n 2, 1) := by decide +kernel
theorem d_P_allAhead_7 : decode (mC M_P_allAhead) 7 = .ok (.iconst 0, 1) := by decide +kernel
theorem d_P_allAhead_8 : decode (mC M_P_allAhead) 8 = .ok (.istore_n 3, 1) := by decide +kernel
theorem d_P_allAhead_9 : decode (mC M_P_allAhead) 9 = .ok (.iload_n 3, 1) := by decide +kernel
theorem d_P_allAhead_10 : decode (mC M_P_allAhead) 10 = .ok (.aload_n 0, 1) := by decide +kernel
theorem d_P_allAhead_11 : decode (mC M_P_allAhead) 11 = .ok (.getfield 27, 3) := by decide +kernel
theorem d_P_allAhead_14 : decode (mC M_P_allAhead) 14 = .ok (.if_icmp .ge 47, 3) := by decide +kernel
theorem d_P_allAhead_17 : decode (mC M_P_allAhead) 17 = .ok (.iconst 0, 1) := by decide +kernel
theorem d_P_allAhead_18 : decode (mC M_P_allAhead) 18 = .ok (.istore 4, 2) := by decide +kernel
theorem d_P_allAhead_20 : decode (mC M_P_allAhead) 20 = .ok (.iload 4, 2) := by decide +kernel
theorem d_P_allAhead_22 : decode (mC M_P_allAhead) 22 = .ok (.aload_n 0, 1) := by decide +kernel
theorem d_P_allAhead_23 : decode (mC M_P_allAhead) 23 = .ok (.getfield 27, 3) := by decide +kernel
theorem d_P_allAhead_26 : decode (mC M_P_allAhead) 26 = .ok (.if_icmp .ge 29, 3) := by decide +kernel
theorem d_P_allAhead_29 : decode (mC M_P_allAhead) 29 = .ok (.iload_n 2, 1) := by decide +kernel
theorem d_P_allAhead_30 : decode (mC M_P_allAhead) 30 = .ok (.iload 4, 2) := by decide +kernel
theorem d_P_allAhead_32 : decode (mC M_P_allAhead) 32 = .ok (.ishr, 1) := by decide +kernel
theorem d_P_allAhead_33 : decode (mC M_P_allAhead) 33 = .ok (.iconst 1, 1) := by decide +kernel
theorem d_P_allAhead_34 : decode (mC M_P_allAhead) 34 = .ok (.iand, 1) := by decide +kernel
theorem d_P_allAhead_35 : decode (mC M_P_allAhead) 35 = .ok (.iconst 1, 1) := by decide +kernel
theorem d_P_allAhead_36 : decode (mC M_P_allAhead) 36 = .ok (.if_icmp .ne 13, 3) := by decide +kernel
theorem d_P_allAhead_39 : decode (mC M_P_allAhead) 39 = .ok (.iload_n 2, 1) := by decide +kernel
theorem d_P_allAhead_40 : decode (mC M_P_allAhead) 40 = .ok (.aload_n 0, 1) := by decide +kernel
theorem d_P_allAhead_41 : decode (mC M_P_allAhead) 41 = .ok (.getfield 15, 3) := by decide +kernel
theorem d_P_allAhead_44 : decode (mC M_P_allAhead) 44 = .ok (.iload 4, 2) := by decide +kernel
theorem d_P_allAhead_46 : decode (mC M_P_allAhead) 46 = .ok (.iaload, 1) := by decide +kernel
theorem d_P_allAhead_47 : decode (mC M_P_allAhead) 47 = .ok (.ior, 1) := by decide +kernel
theorem d_P_allAhead_48 : decode (mC M_P_allAhead) 48 = .ok (.istore_n 2, 1) := by decide +kernel
theorem d_P_allAhead_49 : decode (mC M_P_allAhead) 49 = .ok (.iinc 4 1, 3) := by decide +kernel
theorem d_P_allAhead_52 : decode (mC M_P_allAhead) 52 = .ok (.goto (-32), 3) := by decide +kernel
theorem d_P_allAhead_55 : decode (mC M_P_allAhead) 55 = .ok (.iinc 3 1, 3) := by decide +kernel
theorem d_P_allAhead_58 : decode (mC M_P_allAhead) 58 = .ok (.goto (-49), 3) := by decide +kernel
theorem d_P_allAhead_61 : decode (mC M_P_allAhead) 61 = .ok (.iload_n 2, 1) := by decide +kernel
theorem d_P_allAhead_62 : decode (mC M_P_allAhead) 62 = .ok (.ireturn, 1) := by decide +kernel
def vc_P_allAhead_61 (r : Option Value) (hf : hc_H) (J : Nat → hc_K) (lv : hc_L) (st : List Value) (h : hc_H) : Prop := (qi_iload 2 (qi_iret r hf)) lv st h
theorem sn_P_allAhead_61 {Ph : Nat → State → Prop} {h0 hf : hc_H} {r : Option Value} : qk Ph M_P_allAhead h0 hf r 61 (vc_P_allAhead_61 r hf (cx Ph M_P_allAhead h0 hf r)) := (qs_iload_n d_P_allAhead_61 rfl (qs_iret d_P_allAhead_62 rfl))
def vc_P_allAhead_55 (r : Option Value) (hf : hc_H) (J : Nat → hc_K) (lv : hc_L) (st : List Value) (h : hc_H) : Prop := (qi_iinc 3 (nI 1) (J 9)) lv st h
theorem sn_P_allAhead_55 {Ph : Nat → State → Prop} {h0 hf : hc_H} {r : Option Value} : qk Ph M_P_allAhead h0 hf r 55 (vc_P_allAhead_55 r hf (cx Ph M_P_allAhead h0 hf r)) := (qs_iinc d_P_allAhead_55 (by decide) (by decide) (qs_goto (tgt := 9) d_P_allAhead_58 (by decide) (fun _ _ _ h9 => h9)))
def vc_P_allAhead_49 (r : Option Value) (hf : hc_H) (J : Nat → hc_K) (lv : hc_L) (st : List Value) (h : hc_H) : Prop := (qi_iinc 4 (nI 1) (J 20)) lv st h
theorem sn_P_allAhead_49 {Ph : Nat → State → Prop} {h0 hf : hc_H} {r : Option Value} : qk Ph M_P_allAhead h0 hf r 49 (vc_P_allAhead_49 r hf (cx Ph M_P_allAhead h0 hf r)) := (qs_iinc d_P_allAhead_49 (by decide) (by decide) (qs_goto (tgt := 20) d_P_allAhead_52 (by decide) (fun _ _ _ h9 => h9)))
def vc_P_allAhead_20 (r : Option Value) (hf : hc_H) (J : Nat → hc_K) (lv : hc_L) (st : List Value) (h : hc_H) : Prop := (qi_iload 4 (qi_aload 0 (qi_get 2 0 (qi_icmp_ge (vc_P_allAhead_55 r hf J) (qi_iload 2 (qi_iload 4 (qi_ishr (qi_push (nI 1) (qi_iand (qi_push (nI 1) (qi_icmp_ne (vc_P_allAhead_49 r hf J) (qi_iload 2 (qi_aload 0 (qi_get 2 3 (qi_iload 4 (qi_iald 0 (qi_ior (qi_istore 2 (vc_P_allAhead_49 r hf J))))))))))))))))))) lv st h
theorem sn_P_allAhead_20 {Ph : Nat → State → Prop} {h0 hf : hc_H} {r : Option Value} : qk Ph M_P_allAhead h0 hf r 20 (vc_P_allAhead_20 r hf (cx Ph M_P_allAhead h0 hf r)) := (qs_iload d_P_allAhead_20 (qs_aload_n d_P_allAhead_22 rfl (qs_get d_P_allAhead_23 ff_P_27 (qs_icmp_ge (tgt := 55) d_P_allAhead_26 (by decide) sn_P_allAhead_55 (qs_iload_n d_P_allAhead_29 rfl (qs_iload d_P_allAhead_30 (qs_ishr d_P_allAhead_32 (qs_iconst d_P_allAhead_33 (by decide) (qs_iand d_P_allAhead_34 (qs_iconst d_P_allAhead_35 (by decide) (qs_icmp_ne (tgt := 49) d_P_allAhead_36 (by decide) sn_P_allAhead_49 (qs_iload_n d_P_allAhead_39 rfl (qs_aload_n d_P_allAhead_40 rfl (qs_get d_P_allAhead_41 ff_P_15 (qs_iload d_P_allAhead_44 (qs_iaload d_P_allAhead_46 (qs_ior d_P_allAhead_47 (qs_istore_n d_P_allAhead_48 rfl (by decide) sn_P_allAhead_49))))))))))))))))))
def vc_P_allAhead_9 (r : Option Value) (hf : hc_H) (J : Nat → hc_K) (lv : hc_L) (st : List Value) (h : hc_H) : Prop := (qi_iload 3 (qi_aload 0 (qi_get 2 0 (qi_icmp_ge (vc_P_allAhead_61 r hf J) (qi_push (nI 0) (qi_istore 4 (J 20))))))) lv st h
theorem sn_P_allAhead_9 {Ph : Nat → State → Prop} {h0 hf : hc_H} {r : Option Value} : qk Ph M_P_allAhead h0 hf r 9 (vc_P_allAhead_9 r hf (cx Ph M_P_allAhead h0 hf r)) := (qs_iload_n d_P_allAhead_9 rfl (qs_aload_n d_P_allAhead_10 rfl (qs_get d_P_allAhead_11 ff_P_27 (qs_icmp_ge (tgt := 61) d_P_allAhead_14 (by decide) sn_P_allAhead_61 (qs_iconst d_P_allAhead_17 (by decide) (qs_istore d_P_allAhead_18 (by decide) (fun _ _ _ h9 => h9)))))))
def vc_P_allAhead_0 (r : Option Value) (hf : hc_H) (J : Nat → hc_K) (lv : hc_L) (st : List Value) (h : hc_H) : Prop := (qi_aload 0 (qi_get 2 3 (qi_iload 1 (qi_iald 0 (qi_istore 2 (qi_push (nI 0) (qi_istore 3 (J 9)))))))) lv st h
theorem sn_P_allAhead_0 {Ph : Nat → State → Prop} {h0 hf : hc_H} {r : Option Value} : qk Ph M_P_allAhead h0 hf r 0 (vc_P_allAhead_0 r hf (cx Ph M_P_allAhead h0 hf r)) := (qs_aload_n d_P_allAhead_0 rfl (qs_get d_P_allAhead_1 ff_P_15 (qs_iload_n d_P_allAhead_4 rfl (qs_iaload d_P_allAhead_5 (qs_istore_n d_P_allAhead_6 rfl (by decide) (qs_iconst d_P_allAhead_7 (by decide) (qs_istore_n d_P_allAhead_8 rfl (by decide) (fun _ _ _ h9 => h9))))))))
theorem zz_J_bitCount : hc_z M_J_bitCount 1 := ⟨wk_504, wk_68, by decide +kernel⟩
/-! BalancedLine$Plan.orders()I -/
abbrev M_P_orders : hc_M := (⟨"BalancedLine$Plan", "orders", "()I"⟩, prog_4_method_16_code, 3, (some .int), 1, 20)
theorem d_P_orders_0 : decode (mC M_P_orders) 0 = .ok (.iconst 0, 1) := by decide +kernel
theorem d_P_orders_1 : decode (mC M_P_orders) 1 = .ok (.istore_n 1, 1) := by decide +kernel
theorem d_P_orders_2 : decode (mC M_P_orders) 2 = .ok (.iconst 0, 1) := by decide +kernel
theorem d_P_orders_3 : decode (mC M_P_orders) 3 = .ok (.istore_n 2, 1) := by decide +kernel
theorem d_P_orders_4 : decode (mC M_P_orders) 4 = .ok (.iload_n 2, 1) := by decide +kernel
theorem d_P_orders_5 : decode (mC M_P_orders) 5 = .ok (.aload_n 0, 1) := by decide +kernel
theorem d_P_orders_6 : decode (mC M_P_orders) 6 = .ok (.getfield 27, 3) := by decide +kernel
theorem d_P_orders_9 : decode (mC M_P_orders) 9 = .ok (.if_icmp .ge 21, 3) := by decide +kernel
theorem d_P_orders_12 : decode (mC M_P_orders) 12 = .ok (.iload_n 1, 1) := by decide +kernel
theorem d_P_orders_13 : decode (mC M_P_orders) 13 = .ok (.aload_n 0, 1) := by decide +kernel
theorem d_P_orders_14 : decode (mC M_P_orders) 14 = .ok (.getfield 15, 3) := by decide +kernel
theorem d_P_orders_17 : decode (mC M_P_orders) 17 = .ok (.iload_n 2, 1) := by decide +kernel
theorem d_P_orders_18 : decode (mC M_P_orders) 18 = .ok (.iaload, 1) := by decide +kernel
theorem d_P_orders_19 : decode (mC M_P_orders) 19 = .ok (.invokestatic 62, 3) := by decide +kernel
theorem d_P_orders_22 : decode (mC M_P_orders) 22 = .ok (.iadd, 1) := by decide +kernel
theorem d_P_orders_23 : decode (mC M_P_orders) 23 = .ok (.istore_n 1, 1) := by decide +kernel
theorem d_P_orders_24 : decode (mC M_P_orders) 24 = .ok (.iinc 2 1, 3) := by decide +kernel
theorem d_P_orders_27 : decode (mC M_P_orders) 27 = .ok (.goto (-23), 3) := by decide +kernel
theorem d_P_orders_30 : decode (mC M_P_orders) 30 = .ok (.iload_n 1, 1) := by decide +kernel
theorem d_P_orders_31 : decode (mC M_P_orders) 31 = .ok (.ireturn, 1) := by decide +kernel
def vc_P_orders_30 (r : Option Value) (hf : hc_H) (J : Nat → hc_K) (lv : hc_L) (st : List Value) (h : hc_H) : Prop := (qi_iload 1 (qi_iret r hf)) lv st h
theorem sn_P_orders_30 {Ph : Nat → State → Prop} {h0 hf : hc_H} {r : Option Value} : qk Ph M_P_orders h0 hf r 30 (vc_P_orders_30 r hf (cx Ph M_P_orders h0 hf r)) := (qs_iload_n d_P_orders_30 rfl (qs_iret d_P_orders_31 rfl))
def vc_P_orders_4 (r : Option Value) (hf : hc_H) (J : Nat → hc_K) (lv : hc_L) (st : List Value) (h : hc_H) : Prop := (qi_iload 2 (qi_aload 0 (qi_get 2 0 (qi_icmp_ge (vc_P_orders_30 r hf J) (qi_iload 1 (qi_aload 0 (qi_get 2 3 (qi_iload 2 (qi_iald 0 (qi_invS hc_tt M_J_bitCount 1 (qi_iadd (qi_istore 1 (qi_iinc 2 (nI 1) (J 4)))))))))))))) lv st h
theorem sn_P_orders_4 {Ph : Nat → State → Prop} {h0 hf : hc_H} {r : Option Value} : qk Ph M_P_orders h0 hf r 4 (vc_P_orders_4 r hf (cx Ph M_P_orders h0 hf r)) := (qs_iload_n d_P_orders_4 rfl (qs_aload_n d_P_orders_5 rfl (qs_get d_P_orders_6 ff_P_27 (qs_icmp_ge (tgt := 30) d_P_orders_9 (by decide) sn_P_orders_30 (qs_iload_n d_P_orders_12 rfl (qs_aload_n d_P_orders_13 rfl (qs_get d_P_orders_14 ff_P_15 (qs_iload_n d_P_orders_17 rfl (qs_iaload d_P_orders_18 (qs_invS hc_Ph_tt (fun _ _ _ => trivial) d_P_orders_19 zz_J_bitCount wk_502 wk_503 ⟨by decide, by decide⟩ (qs_iadd d_P_orders_22 (qs_istore_n d_P_orders_23 rfl (by decide) (qs_iinc d_P_orders_24 (by decide) (by decide) (qs_goto (tgt := 4) d_P_orders_27 (by decide) (fun _ _ _ h9 => h9)))))))))))))))
def vc_P_orders_0 (r : Option Value) (hf : hc_H) (J : Nat → hc_K) (lv : hc_L) (st : List Value) (h : hc_H) : Prop := (qi_push (nI 0) (qi_istore 1 (qi_push (nI 0) (qi_istore 2 (J 4))))) lv st h
theorem sn_P_orders_0 {Ph : Nat → State → Prop} {h0 hf : hc_H} {r : Option Value} : qk Ph M_P_orders h0 hf r 0 (vc_P_orders_0 r hf (cx Ph M_P_orders h0 hf r)) := (qs_iconst d_P_orders_0 (by decide) (qs_istore_n d_P_orders_1 rfl (by decide) (qs_iconst d_P_orders_2 (by decide) (qs_istore_n d_P_orders_3 rfl (by decide) (fun _ _ _ h9 => h9)))))
/-! BalancedLine$Plan.pairs([I)I -/
abbrev M_P_pairs : hc_M := (⟨"BalancedLine$Plan", "pairs", "([I)I"⟩, prog_4_method_17_code, 4, (some .int), 1, 20)
theorem d_P_pairs_0 : decode (mC M_P_pairs) 0 = .ok (.iconst 0, 1) := by decide +kernel
theorem d_P_pairs_1 : decode (mC M_P_pairs) 1 = .ok (.istore_n 2, 1) := by decide +kernel
theorem d_P_pairs_2 : decode (mC M_P_pairs) 2 = .ok (.iconst 0, 1) := by decide +kernel
theorem d_P_pairs_3 : decode (mC M_P_pairs) 3 = .ok (.istore_n 3, 1) := by decide +kernel
theorem d_P_pairs_4 : decode (mC M_P_pairs) 4 = .ok (.iload_n 3, 1) := by decide +kernel
theorem d_P_pairs_5 : decode (mC M_P_pairs) 5 = .ok (.aload_n 0, 1) := by decide +kernel
theorem d_P_pairs_6 : decode (mC M_P_pairs) 6 = .ok (.getfield 27, 3) := by decide +kernel
theorem d_P_pairs_9 : decode (mC M_P_pairs) 9 = .ok (.if_icmp .ge 18, 3) := by decide +kernel
theorem d_P_pairs_12 : decode (mC M_P_pairs) 12 = .ok (.iload_n 2, 1) := by decide +kernel
theorem d_P_pairs_13 : decode (mC M_P_pairs) 13 = .ok (.aload_n 1, 1) := by decide +kernel
theorem d_P_pairs_14 : decode (mC M_P_pairs) 14 = .ok (.iload_n 3, 1) := by decide +kernel
theorem d_P_pairs_15 : decode (mC M_P_pairs) 15 = .ok (.iaload, 1) := by decide +kernel
theorem d_P_pairs_16 : decode (mC M_P_pairs) 16 = .ok (.invokestatic 62, 3) := by decide +kernel
theorem d_P_pairs_19 : decode (mC M_P_pairs) 19 = .ok (.iadd, 1) := by decide +kernel
theorem d_P_pairs_20 : decode (mC M_P_pairs) 20 = .ok (.istore_n 2, 1) := by decide +kernel
theorem d_P_pairs_21 : decode (mC M_P_pairs) 21 = .ok (.iinc 3 1, 3) := by decide +kernel
theorem d_P_pairs_24 : decode (mC M_P_pairs) 24 = .ok (.goto (-20), 3) := by decide +kernel
theorem d_P_pairs_27 : decode (mC M_P_pairs) 27 = .ok (.iload_n 2, 1) := by decide +kernel
theorem d_P_pairs_28 : decode (mC M_P_pairs) 28 = .ok (.iconst 2, 1) := by decide +kernel
theorem d_P_pairs_29 : decode (mC M_P_pairs) 29 = .ok (.idiv, 1) := by decide +kernel
theorem d_P_pairs_30 : decode (mC M_P_pairs) 30 = .ok (.ireturn, 1) := by decide +kernel
def vc_P_pairs_27 (r : Option Value) (hf : hc_H) (J : Nat → hc_K) (lv : hc_L) (st : List Value) (h : hc_H) : Prop := (qi_iload 2 (qi_push (nI 2) (qi_idiv (qi_iret r hf)))) lv st h
theorem sn_P_pairs_27 {Ph : Nat → State → Prop} {h0 hf : hc_H} {r : Option Value} : qk Ph M_P_pairs h0 hf r 27 (vc_P_pairs_27 r hf (cx Ph M_P_pairs h0 hf r)) := (qs_iload_n d_P_pairs_27 rfl (qs_iconst d_P_pairs_28 (by decide) (qs_idiv d_P_pairs_29 (qs_iret d_P_pairs_30 rfl))))
def vc_P_pairs_4 (r : Option Value) (hf : hc_H) (J : Nat → hc_K) (lv : hc_L) (st : List Value) (h : hc_H) : Prop := (qi_iload 3 (qi_aload 0 (qi_get 2 0 (qi_icmp_ge (vc_P_pairs_27 r hf J) (qi_iload 2 (qi_aload 1 (qi_iload 3 (qi_iald 0 (qi_invS hc_tt M_J_bitCount 1 (qi_iadd (qi_istore 2 (qi_iinc 3 (nI 1) (J 4))))))))))))) lv st h
theorem sn_P_pairs_4 {Ph : Nat → State → Prop} {h0 hf : hc_H} {r : Option Value} : qk Ph M_P_pairs h0 hf r 4 (vc_P_pairs_4 r hf (cx Ph M_P_pairs h0 hf r)) := (qs_iload_n d_P_pairs_4 rfl (qs_aload_n d_P_pairs_5 rfl (qs_get d_P_pairs_6 ff_P_27 (qs_icmp_ge (tgt := 27) d_P_pairs_9 (by decide) sn_P_pairs_27 (qs_iload_n d_P_pairs_12 rfl (qs_aload_n d_P_pairs_13 rfl (qs_iload_n d_P_pairs_14 rfl (qs_iaload d_P_pairs_15 (qs_invS hc_Ph_tt (fun _ _ _ => trivial) d_P_pairs_16 zz_J_bitCount wk_502 wk_503 ⟨by decide, by decide⟩ (qs_iadd d_P_pairs_19 (qs_istore_n d_P_pairs_20 rfl (by decide) (qs_iinc d_P_pairs_21 (by decide) (by decide) (qs_goto (tgt := 4) d_P_pairs_24 (by decide) (fun _ _ _ h9 => h9))))))))))))))
def vc_P_pairs_0 (r : Option Value) (hf : hc_H) (J : Nat → hc_K) (lv : hc_L) (st : List Value) (h : hc_H) : Prop := (qi_push (nI 0) (qi_istore 2 (qi_push (nI 0) (qi_istore 3 (J 4))))) lv st h
theorem sn_P_pairs_0 {Ph : Nat → State → Prop} {h0 hf : hc_H} {r : Option Value} : qk Ph M_P_pairs h0 hf r 0 (vc_P_pairs_0 r hf (cx Ph M_P_pairs h0 hf r)) := (qs_iconst d_P_pairs_0 (by decide) (qs_istore_n d_P_pairs_1 rfl (by decide) (qs_iconst d_P_pairs_2 (by decide) (qs_istore_n d_P_pairs_3 rfl (by decide) (fun _ _ _ h9 => h9)))))
/-! BalancedLine$Plan.timeOf(I)I -/
abbrev M_P_timeOf : hc_M := (⟨"BalancedLine$Plan", "timeOf", "(I)I"⟩, prog_4_method_18_code, 4, (some .int), 0, 0)
theorem d_P_timeOf_0 : decode (mC M_P_timeOf) 0 = .ok (.iconst 0, 1) := by decide +kernel
theorem d_P_timeOf_1 : decode (mC M_P_timeOf) 1 = .ok (.istore_n 2, 1) := by decide +kernel
theorem d_P_timeOf_2 : decode (mC M_P_timeOf) 2 = .ok (.iconst 0, 1) := by decide +kernel
theorem d_P_timeOf_3 : decode (mC M_P_timeOf) 3 = .ok (.istore_n 3, 1) := by decide +kernel
theorem d_P_timeOf_4 : decode (mC M_P_timeOf) 4 = .ok (.iload_n 3, 1) := by decide +kernel
theorem d_P_timeOf_5 : decode (mC M_P_timeOf) 5 = .ok (.aload_n 0, 1) := by decide +kernel
theorem d_P_timeOf_6 : decode (mC M_P_timeOf) 6 = .ok (.getfield 27, 3) := by decide +kernel
theorem d_P_timeOf_9 : decode (mC M_P_timeOf) 9 = .ok (.if_icmp .ge 27, 3) := by decide +kernel
theorem d_P_timeOf_12 : decode (mC M_P_timeOf) 12 = .ok (.iload_n 1, 1) := by decide +kernel
theorem d_P_timeOf_13 : decode (mC M_P_timeOf) 13 = .ok (.iload_n 3, 1) := by decide +kernel
theorem d_P_timeOf_14 : decode (mC M_P_timeOf) 14 = .ok (.ishr, 1) := by decide +kernel
theorem d_P_timeOf_15 : decode (mC M_P_timeOf) 15 = .ok (.iconst 1, 1) := by decide +kernel
theorem d_P_timeOf_16 : decode (mC M_P_timeOf) 16 = .ok (.iand, 1) := by decide +kernel
theorem d_P_timeOf_17 : decode (mC M_P_timeOf) 17 = .ok (.iconst 1, 1) := by decide +kernel
theorem d_P_timeOf_18 : decode (mC M_P_timeOf) 18 = .ok (.if_icmp .ne 12, 3) := by decide +kernel
theorem d_P_timeOf_21 : decode (mC M_P_timeOf) 21 = .ok (.iload_n 2, 1) := by decide +kernel
theorem d_P_timeOf_22 : decode (mC M_P_timeOf) 22 = .ok (.aload_n 0, 1) := by decide +kernel
theorem d_P_timeOf_23 : decode (mC M_P_timeOf) 23 = .ok (.getfield 9, 3) := by decide +kernel
theorem d_P_timeOf_26 : decode (mC M_P_timeOf) 26 = .ok (.iload_n 3, 1) := by decide +kernel
theorem d_P_timeOf_27 : decode (mC M_P_timeOf) 27 = .ok (.iaload, 1) := by decide +kernel
theorem d_P_timeOf_28 : decode (mC M_P_timeOf) 28 = .ok (.iadd, 1) := by decide +kernel
theorem d_P_timeOf_29 : decode (mC M_P_timeOf) 29 = .ok (.istore_n 2, 1) := by decide +kernel
theorem d_P_timeOf_30 : decode (mC M_P_timeOf) 30 = .ok (.iinc 3 1, 3) := by decide +kernel
theorem d_P_timeOf_33 : decode (mC M_P_timeOf) 33 = .ok (.goto (-29), 3) := by decide +kernel
theorem d_P_timeOf_36 : decode (mC M_P_timeOf) 36 = .ok (.iload_n 2, 1) := by decide +kernel
theorem d_P_timeOf_37 : decode (mC M_P_timeOf) 37 = .ok (.ireturn, 1) := by decide +kernel
def vc_P_timeOf_36 (r : Option Value) (hf : hc_H) (J : Nat → hc_K) (lv : hc_L) (st : List Value) (h : hc_H) : Prop := (qi_iload 2 (qi_iret r hf)) lv st h
theorem sn_P_timeOf_36 {Ph : Nat → State → Prop} {h0 hf : hc_H} {r : Option Value} : qk Ph M_P_timeOf h0 hf r 36 (vc_P_timeOf_36 r hf (cx Ph M_P_timeOf h0 hf r)) := (qs_iload_n d_P_timeOf_36 rfl (qs_iret d_P_timeOf_37 rfl))
def vc_P_timeOf_30 (r : Option Value) (hf : hc_H) (J : Nat → hc_K) (lv : hc_L) (st : List Value) (h : hc_H) : Prop := (qi_iinc 3 (nI 1) (J 4)) lv st h
theorem sn_P_timeOf_30 {Ph : Nat → State → Prop} {h0 hf : hc_H} {r : Option Value} : qk Ph M_P_timeOf h0 hf r 30 (vc_P_timeOf_30 r hf (cx Ph M_P_timeOf h0 hf r)) := (qs_iinc d_P_timeOf_30 (by decide) (by decide) (qs_goto (tgt := 4) d_P_timeOf_33 (by decide) (fun _ _ _ h9 => h9)))
def vc_P_timeOf_4 (r : Option Value) (hf : hc_H) (J : Nat → hc_K) (lv : hc_L) (st : List Value) (h : hc_H) : Prop := (qi_iload 3 (qi_aload 0 (qi_get 2 0 (qi_icmp_ge (vc_P_timeOf_36 r hf J) (qi_iload 1 (qi_iload 3 (qi_ishr (qi_push (nI 1) (qi_iand (qi_push (nI 1) (qi_icmp_ne (vc_P_timeOf_30 r hf J) (qi_iload 2 (qi_aload 0 (qi_get 2 2 (qi_iload 3 (qi_iald 0 (qi_iadd (qi_istore 2 (vc_P_timeOf_30 r hf J))))))))))))))))))) lv st h
theorem sn_P_timeOf_4 {Ph : Nat → State → Prop} {h0 hf : hc_H} {r : Option Value} : qk Ph M_P_timeOf h0 hf r 4 (vc_P_timeOf_4 r hf (cx Ph M_P_timeOf h0 hf r)) := (qs_iload_n d_P_timeOf_4 rfl (qs_aload_n d_P_timeOf_5 rfl (qs_get d_P_timeOf_6 ff_P_27 (qs_icmp_ge (tgt := 36) d_P_timeOf_9 (by decide) sn_P_timeOf_36 (qs_iload_n d_P_timeOf_12 rfl (qs_iload_n d_P_timeOf_13 rfl (qs_ishr d_P_timeOf_14 (qs_iconst d_P_timeOf_15 (by decide) (qs_iand d_P_timeOf_16 (qs_iconst d_P_timeOf_17 (by decide) (qs_icmp_ne (tgt := 30) d_P_timeOf_18 (by decide) sn_P_timeOf_30 (qs_iload_n d_P_timeOf_21 rfl (qs_aload_n d_P_timeOf_22 rfl (qs_get d_P_timeOf_23 ff_P_9 (qs_iload_n d_P_timeOf_26 rfl (qs_iaload d_P_timeOf_27 (qs_iadd d_P_timeOf_28 (qs_istore_n d_P_timeOf_29 rfl (by decide) sn_P_timeOf_30))))))))))))))))))
def vc_P_timeOf_0 (r : Option Value) (hf : hc_H) (J : Nat → hc_K) (lv : hc_L) (st : List Value) (h : hc_H) : Prop := (qi_push (nI 0) (qi_istore 2 (qi_push (nI 0) (qi_istore 3 (J 4))))) lv st h
theorem sn_P_timeOf_0 {Ph : Nat → State → Prop} {h0 hf : hc_H} {r : Option Value} : qk Ph M_P_timeOf h0 hf r 0 (vc_P_timeOf_0 r hf (cx Ph M_P_timeOf h0 hf r)) := (qs_iconst d_P_timeOf_0 (by decide) (qs_istore_n d_P_timeOf_1 rfl (by decide) (qs_iconst d_P_timeOf_2 (by decide) (qs_istore_n d_P_timeOf_3 rfl (by decide) (fun _ _ _ h9 => h9)))))
/-! BalancedLine$Plan.everyTask()I -/
abbrev M_P_everyTask : hc_M := (⟨"BalancedLine$Plan", "everyTask", "()I"⟩, prog_4_method_19_code, 1, (some .int), 0, 0)
theorem d_P_everyTask_0 : decode (mC M_P_everyTask) 0 = .ok (.iconst 1, 1) := by decide +kernel
theorem d_P_everyTask_1 : decode (mC M_P_everyTask) 1 = .ok (.aload_n 0, 1) := by decide +kernel
theorem d_P_everyTask_2 : decode (mC M_P_everyTask) 2 = .ok (.getfield 27, 3) := by decide +kernel
theorem d_P_everyTask_5 : decode (mC M_P_everyTask) 5 = .ok (.ishl, 1) := by decide +kernel
theorem d_P_everyTask_6 : decode (mC M_P_everyTask) 6 = .ok (.iconst 1, 1) := by decide +kernel
theorem d_P_everyTask_7 : decode (mC M_P_everyTask) 7 = .ok (.isub, 1) := by decide +kernel
theorem d_P_everyTask_8 : decode (mC M_P_everyTask) 8 = .ok (.ireturn, 1) := by decide +kernel
def vc_P_everyTask_0 (r : Option Value) (hf : hc_H) (J : Nat → hc_K) (lv : hc_L) (st : List Value) (h : hc_H) : Prop := (qi_push (nI 1) (qi_aload 0 (qi_get 2 0 (qi_ishl (qi_push (nI 1) (qi_isub (qi_iret r hf))))))) lv st h
theorem sn_P_everyTask_0 {Ph : Nat → State → Prop} {h0 hf : hc_H} {r : Option Value} : qk Ph M_P_everyTask h0 hf r 0 (vc_P_everyTask_0 r hf (cx Ph M_P_everyTask h0 hf r)) := (qs_iconst d_P_everyTask_0 (by decide) (qs_aload_n d_P_everyTask_1 rfl (qs_get d_P_everyTask_2 ff_P_27 (qs_ishl d_P_everyTask_5 (qs_iconst d_P_everyTask_6 (by decide) (qs_isub d_P_everyTask_7 (qs_iret d_P_everyTask_8 rfl)))))))
theorem zz_P_everyTask : hc_z M_P_everyTask 0 := ⟨wk_590, wk_56, by decide +kernel⟩
theorem zz_P_timeOf : hc_z M_P_timeOf 1 := ⟨wk_546, wk_56, by decide +kernel⟩
/-! BalancedLine$Plan.total()I -/
abbrev M_P_total : hc_M := (⟨"BalancedLine$Plan", "total", "()I"⟩, prog_4_method_20_code, 1, (some .int), 1, 23)
theorem d_P_total_0 : decode (mC M_P_total) 0 = .ok (.aload_n 0, 1) := by decide +kernel
theorem d_P_total_1 : decode (mC M_P_total) 1 = .ok (.aload_n 0, 1) := by decide +kernel
theorem d_P_total_2 : decode (mC M_P_total) 2 = .ok (.invokevirtual 67, 3) := by decide +kernel
theorem d_P_total_5 : decode (mC M_P_total) 5 = .ok (.invokevirtual 71, 3) := by decide +kernel
theorem d_P_total_8 : decode (mC M_P_total) 8 = .ok (.ireturn, 1) := by decide +kernel
def vc_P_total_0 (r : Option Value) (hf : hc_H) (J : Nat → hc_K) (lv : hc_L) (st : List Value) (h : hc_H) : Prop := (qi_aload 0 (qi_aload 0 (qi_invV hc_tt M_P_everyTask 0 2 (qi_invV hc_tt M_P_timeOf 1 2 (qi_iret r hf))))) lv st h
theorem sn_P_total_0 {Ph : Nat → State → Prop} {h0 hf : hc_H} {r : Option Value} : qk Ph M_P_total h0 hf r 0 (vc_P_total_0 r hf (cx Ph M_P_total h0 hf r)) := (qs_aload_n d_P_total_0 rfl (qs_aload_n d_P_total_1 rfl (qs_invV hc_Ph_tt (fun _ _ _ => trivial) d_P_total_2 zz_P_everyTask wk_606 ⟨wk_588, wk_589⟩ ⟨_, rfl, rfl⟩ ⟨by decide, by decide⟩ (qs_invV hc_Ph_tt (fun _ _ _ => trivial) d_P_total_5 zz_P_timeOf wk_626 ⟨wk_544, wk_545⟩ ⟨_, rfl, rfl⟩ ⟨by decide, by decide⟩ (qs_iret d_P_total_8 rfl)))))
/-! BalancedLine$Plan.longestTime()I -/
abbrev M_P_longestTime : hc_M := (⟨"BalancedLine$Plan", "longestTime", "()I"⟩, prog_4_method_21_code, 3, (some .int), 1, 21)
theorem d_P_longestTime_0 : decode (mC M_P_longestTime) 0 = .ok (.iconst 0, 1) := by decide +kernel
theorem d_P_longestTime_1 : decode (mC M_P_longestTime) 1 = .ok (.istore_n 1, 1) := by decide +kernel
theorem d_P_longestTime_2 : decode (mC M_P_longestTime) 2 = .ok (.iconst 0, 1) := by decide +kernel
theorem d_P_longestTime_3 : decode (mC M_P_longestTime) 3 = .ok (.istore_n 2, 1) := by decide +kernel
theorem d_P_longestTime_4 : decode (mC M_P_longestTime) 4 = .ok (.iload_n 2, 1) := by decide +kernel
theorem d_P_longestTime_5 : decode (mC M_P_longestTime) 5 = .ok (.aload_n 0, 1) := by decide +kernel
theorem d_P_longestTime_6 : decode (mC M_P_longestTime) 6 = .ok (.getfield 27, 3) := by decide +kernel
theorem d_P_longestTime_9 : decode (mC M_P_longestTime) 9 = .ok (.if_icmp .ge 20, 3) := by decide +kernel
theorem d_P_longestTime_12 : decode (mC M_P_longestTime) 12 = .ok (.iload_n 1, 1) := by decide +kernel
theorem d_P_longestTime_13 : decode (mC M_P_longestTime) 13 = .ok (.aload_n 0, 1) := by decide +kernel
theorem d_P_longestTime_14 : decode (mC M_P_longestTime) 14 = .ok (.getfield 9, 3) := by decide +kernel
theorem d_P_longestTime_17 : decode (mC M_P_longestTime) 17 = .ok (.iload_n 2, 1) := by decide +kernel
theorem d_P_longestTime_18 : decode (mC M_P_longestTime) 18 = .ok (.iaload, 1) := by decide +kernel
theorem d_P_longestTime_19 : decode (mC M_P_longestTime) 19 = .ok (.invokestatic 74, 3) := by decide +kernel
theorem d_P_longestTime_22 : decode (mC M_P_longestTime) 22 = .ok (.istore_n 1, 1) := by decide +kernel
theorem d_P_longestTime_23 : decode (mC M_P_longestTime) 23 = .ok (.iinc 2 1, 3) := by decide +kernel
theorem d_P_longestTime_26 : decode (mC M_P_longestTime) 26 = .ok (.goto (-22), 3) := by decide +kernel
theorem d_P_longestTime_29 : decode (mC M_P_longestTime) 29 = .ok (.iload_n 1, 1) := by decide +kernel
theorem d_P_longestTime_30 : decode (mC M_P_longestTime) 30 = .ok (.ireturn, 1) := by decide +kernel
def vc_P_longestTime_29 (r : Option Value) (hf : hc_H) (J : Nat → hc_K) (lv : hc_L) (st : List Value) (h : hc_H) : Prop := (qi_iload 1 (qi_iret r hf)) lv st h
theorem sn_P_longestTime_29 {Ph : Nat → State → Prop} {h0 hf : hc_H} {r : Option Value} : qk Ph M_P_longestTime h0 hf r 29 (vc_P_longestTime_29 r hf (cx Ph M_P_longestTime h0 hf r)) := (qs_iload_n d_P_longestTime_29 rfl (qs_iret d_P_longestTime_30 rfl))
def vc_P_longestTime_4 (r : Option Value) (hf : hc_H) (J : Nat → hc_K) (lv : hc_L) (st : List Value) (h : hc_H) : Prop := (qi_iload 2 (qi_aload 0 (qi_get 2 0 (qi_icmp_ge (vc_P_longestTime_29 r hf J) (qi_iload 1 (qi_aload 0 (qi_get 2 2 (qi_iload 2 (qi_iald 0 (qi_max (qi_istore 1 (qi_iinc 2 (nI 1) (J 4))))))))))))) lv st h
theorem sn_P_longestTime_4 {Ph : Nat → State → Prop} {h0 hf : hc_H} {r : Option Value} : qk Ph M_P_longestTime h0 hf r 4 (vc_P_longestTime_4 r hf (cx Ph M_P_longestTime h0 hf r)) := (qs_iload_n d_P_longestTime_4 rfl (qs_aload_n d_P_longestTime_5 rfl (qs_get d_P_longestTime_6 ff_P_27 (qs_icmp_ge (tgt := 29) d_P_longestTime_9 (by decide) sn_P_longestTime_29 (qs_iload_n d_P_longestTime_12 rfl (qs_aload_n d_P_longestTime_13 rfl (qs_get d_P_longestTime_14 ff_P_9 (qs_iload_n d_P_longestTime_17 rfl (qs_iaload d_P_longestTime_18 (qs_max d_P_longestTime_19 wk_613 (by decide) (by decide) (qs_istore_n d_P_longestTime_22 rfl (by decide) (qs_iinc d_P_longestTime_23 (by decide) (by decide) (qs_goto (tgt := 4) d_P_longestTime_26 (by decide) (fun _ _ _ h9 => h9))))))))))))))
def vc_P_longestTime_0 (r : Option Value) (hf : hc_H) (J : Nat → hc_K) (lv : hc_L) (st : List Value) (h : hc_H) : Prop := (qi_push (nI 0) (qi_istore 1 (qi_push (nI 0) (qi_istore 2 (J 4))))) lv st h
theorem sn_P_longestTime_0 {Ph : Nat → State → Prop} {h0 hf : hc_H} {r : Option Value} : qk Ph M_P_longestTime h0 hf r 0 (vc_P_longestTime_0 r hf (cx Ph M_P_longestTime h0 hf r)) := (qs_iconst d_P_longestTime_0 (by decide) (qs_istore_n d_P_longestTime_1 rfl (by decide) (qs_iconst d_P_longestTime_2 (by decide) (qs_istore_n d_P_longestTime_3 rfl (by decide) (fun _ _ _ h9 => h9)))))
/-! BalancedLine$Plan.putIn(I)I -/
abbrev M_P_putIn : hc_M := (⟨"BalancedLine$Plan", "putIn", "(I)I"⟩, prog_4_method_22_code, 4, (some .int), 0, 0)
theorem d_P_putIn_0 : decode (mC M_P_putIn) 0 = .ok (.iconst 0, 1) := by decide +kernel
theorem d_P_putIn_1 : decode (mC M_P_putIn) 1 = .ok (.istore_n 2, 1) := by decide +kernel
theorem d_P_putIn_2 : decode (mC M_P_putIn) 2 = .ok (.iconst 0, 1) := by decide +kernel
theorem d_P_putIn_3 : decode (mC M_P_putIn) 3 = .ok (.istore_n 3, 1) := by decide +kernel
theorem d_P_putIn_4 : decode (mC M_P_putIn) 4 = .ok (.iload_n 3, 1) := by decide +kernel
theorem d_P_putIn_5 : decode (mC M_P_putIn) 5 = .ok (.aload_n 0, 1) := by decide +kernel
theorem d_P_putIn_6 : decode (mC M_P_putIn) 6 = .ok (.getfield 27, 3) := by decide +kernel
theorem d_P_putIn_9 : decode (mC M_P_putIn) 9 = .ok (.if_icmp .ge 25, 3) := by decide +kernel
theorem d_P_putIn_12 : decode (mC M_P_putIn) 12 = .ok (.aload_n 0, 1) := by decide +kernel
theorem d_P_putIn_13 : decode (mC M_P_putIn) 13 = .ok (.getfield 24, 3) := by decide +kernel
theorem d_P_putIn_16 : decode (mC M_P_putIn) 16 = .ok (.iload_n 3, 1) := by decide +kernel
theorem d_P_putIn_17 : decode (mC M_P_putIn) 17 = .ok (.iaload, 1) := by decide +kernel
theorem d_P_putIn_18 : decode (mC M_P_putIn) 18 = .ok (.iload_n 1, 1) := by decide +kernel
theorem d_P_putIn_19 : decode (mC M_P_putIn) 19 = .ok (.if_icmp .ne 9, 3) := by decide +kernel
theorem d_P_putIn_22 : decode (mC M_P_putIn) 22 = .ok (.iload_n 2, 1) := by decide +kernel
theorem d_P_putIn_23 : decode (mC M_P_putIn) 23 = .ok (.iconst 1, 1) := by decide +kernel
theorem d_P_putIn_24 : decode (mC M_P_putIn) 24 = .ok (.iload_n 3, 1) := by decide +kernel
theorem d_P_putIn_25 : decode (mC M_P_putIn) 25 = .ok (.ishl, 1) := by decide +kernel
theorem d_P_putIn_26 : decode (mC M_P_putIn) 26 = .ok (.ior, 1) := by decide +kernel
theorem d_P_putIn_27 : decode (mC M_P_putIn) 27 = .ok (.istore_n 2, 1) := by decide +kernel
theorem d_P_putIn_28 : decode (mC M_P_putIn) 28 = .ok (.iinc 3 1, 3) := by decide +kernel
theorem d_P_putIn_31 : decode (mC M_P_putIn) 31 = .ok (.goto (-27), 3) := by decide +kernel
theorem d_P_putIn_34 : decode (mC M_P_putIn) 34 = .ok (.iload_n 2, 1) := by decide +kernel
theorem d_P_putIn_35 : decode (mC M_P_putIn) 35 = .ok (.ireturn, 1) := by decide +kernel
def vc_P_putIn_34 (r : Option Value) (hf : hc_H) (J : Nat → hc_K) (lv : hc_L) (st : List Value) (h : hc_H) : Prop := (qi_iload 2 (qi_iret r hf)) lv st h
theorem sn_P_putIn_34 {Ph : Nat → State → Prop} {h0 hf : hc_H} {r : Option Value} : qk Ph M_P_putIn h0 hf r 34 (vc_P_putIn_34 r hf (cx Ph M_P_putIn h0 hf r)) := (qs_iload_n d_P_putIn_34 rfl (qs_iret d_P_putIn_35 rfl))
def vc_P_putIn_28 (r : Option Value) (hf : hc_H) (J : Nat → hc_K) (lv : hc_L) (st : List Value) (h : hc_H) : Prop := (qi_iinc 3 (nI 1) (J 4)) lv st h
theorem sn_P_putIn_28 {Ph : Nat → State → Prop} {h0 hf : hc_H} {r : Option Value} : qk Ph M_P_putIn h0 hf r 28 (vc_P_putIn_28 r hf (cx Ph M_P_putIn h0 hf r)) := (qs_iinc d_P_putIn_28 (by decide) (by decide) (qs_goto (tgt := 4) d_P_putIn_31 (by decide) (fun _ _ _ h9 => h9)))
def vc_P_putIn_4 (r : Option Value) (hf : hc_H) (J : Nat → hc_K) (lv : hc_L) (st : List Value) (h : hc_H) : Prop := (qi_iload 3 (qi_aload 0 (qi_get 2 0 (qi_icmp_ge (vc_P_putIn_34 r hf J) (qi_aload 0 (qi_get 2 6 (qi_iload 3 (qi_iald 0 (qi_iload 1 (qi_icmp_ne (vc_P_putIn_28 r hf J) (qi_iload 2 (qi_push (nI 1) (qi_iload 3 (qi_ishl (qi_ior (qi_istore 2 (vc_P_putIn_28 r hf J))))))))))))))))) lv st h
theorem sn_P_putIn_4 {Ph : Nat → State → Prop} {h0 hf : hc_H} {r : Option Value} : qk Ph M_P_putIn h0 hf r 4 (vc_P_putIn_4 r hf (cx Ph M_P_putIn h0 hf r)) := (qs_iload_n d_P_putIn_4 rfl (qs_aload_n d_P_putIn_5 rfl (qs_get d_P_putIn_6 ff_P_27 (qs_icmp_ge (tgt := 34) d_P_putIn_9 (by decide) sn_P_putIn_34 (qs_aload_n d_P_putIn_12 rfl (qs_get d_P_putIn_13 ff_P_24 (qs_iload_n d_P_putIn_16 rfl (qs_iaload d_P_putIn_17 (qs_iload_n d_P_putIn_18 rfl (qs_icmp_ne (tgt := 28) d_P_putIn_19 (by decide) sn_P_putIn_28 (qs_iload_n d_P_putIn_22 rfl (qs_iconst d_P_putIn_23 (by decide) (qs_iload_n d_P_putIn_24 rfl (qs_ishl d_P_putIn_25 (qs_ior d_P_putIn_26 (qs_istore_n d_P_putIn_27 rfl (by decide) sn_P_putIn_28))))))))))))))))
def vc_P_putIn_0 (r : Option Value) (hf : hc_H) (J : Nat → hc_K) (lv : hc_L) (st : List Value) (h : hc_H) : Prop := (qi_push (nI 0) (qi_istore 2 (qi_push (nI 0) (qi_istore 3 (J 4))))) lv st h
theorem sn_P_putIn_0 {Ph : Nat → State → Prop} {h0 hf : hc_H} {r : Option Value} : qk Ph M_P_putIn h0 hf r 0 (vc_P_putIn_0 r hf (cx Ph M_P_putIn h0 hf r)) := (qs_iconst d_P_putIn_0 (by decide) (qs_istore_n d_P_putIn_1 rfl (by decide) (qs_iconst d_P_putIn_2 (by decide) (qs_istore_n d_P_putIn_3 rfl (by decide) (fun _ _ _ h9 => h9)))))
theorem zz_P_putIn : hc_z M_P_putIn 1 := ⟨wk_542, wk_56, by decide +kernel⟩
/-! BalancedLine$Plan.allPut()I -/
abbrev M_P_allPut : hc_M := (⟨"BalancedLine$Plan", "allPut", "()I"⟩, prog_4_method_23_code, 1, (some .int), 1, 23)
theorem d_P_allPut_0 : decode (mC M_P_allPut) 0 = .ok (.aload_n 0, 1) := by decide +kernel
theorem d_P_allPut_1 : decode (mC M_P_allPut) 1 = .ok (.invokevirtual 67, 3) := by decide +kernel
theorem d_P_allPut_4 : decode (mC M_P_allPut) 4 = .ok (.aload_n 0, 1) := by decide +kernel
theorem d_P_allPut_5 : decode (mC M_P_allPut) 5 = .ok (.iconst 0, 1) := by decide +kernel
theorem d_P_allPut_6 : decode (mC M_P_allPut) 6 = .ok (.invokevirtual 80, 3) := by decide +kernel
theorem d_P_allPut_9 : decode (mC M_P_allPut) 9 = .ok (.iconst (-1), 1) := by decide +kernel
theorem d_P_allPut_10 : decode (mC M_P_allPut) 10 = .ok (.ixor, 1) := by decide +kernel
theorem d_P_allPut_11 : decode (mC M_P_allPut) 11 = .ok (.iand, 1) := by decide +kernel
theorem d_P_allPut_12 : decode (mC M_P_allPut) 12 = .ok (.ireturn, 1) := by decide +kernel
def vc_P_allPut_0 (r : Option Value) (hf : hc_H) (J : Nat → hc_K) (lv : hc_L) (st : List Value) (h : hc_H) : Prop := (qi_aload 0 (qi_invV hc_tt M_P_everyTask 0 2 (qi_aload 0 (qi_push (nI 0) (qi_invV hc_tt M_P_putIn 1 2 (qi_push (-1) (qi_ixor (qi_iand (qi_iret r hf))))))))) lv st h
theorem sn_P_allPut_0 {Ph : Nat → State → Prop} {h0 hf : hc_H} {r : Option Value} : qk Ph M_P_allPut h0 hf r 0 (vc_P_allPut_0 r hf (cx Ph M_P_allPut h0 hf r)) := (qs_aload_n d_P_allPut_0 rfl (qs_invV hc_Ph_tt (fun _ _ _ => trivial) d_P_allPut_1 zz_P_everyTask wk_606 ⟨wk_588, wk_589⟩ ⟨_, rfl, rfl⟩ ⟨by decide, by decide⟩ (qs_aload_n d_P_allPut_4 rfl (qs_iconst d_P_allPut_5 (by decide) (qs_invV hc_Ph_tt (fun _ _ _ => trivial) d_P_allPut_6 zz_P_putIn wk_607 ⟨wk_540, wk_541⟩ ⟨_, rfl, rfl⟩ ⟨by decide, by decide⟩ (qs_iconst d_P_allPut_9 (by decide) (qs_ixor d_P_allPut_10 (qs_iand d_P_allPut_11 (qs_iret d_P_allPut_12 rfl)))))))))
/-! BalancedLine$Plan.stationsInUse()I -/
abbrev M_P_stationsInUse : hc_M := (⟨"BalancedLine$Plan", "stationsInUse", "()I"⟩, prog_4_method_24_code, 3, (some .int), 1, 20)
theorem d_P_stationsInUse_0 : decode (mC M_P_stationsInUse) 0 = .ok (.iconst 0, 1) := by decide +kernel
theorem d_P_stationsInUse_1 : decode (mC M_P_stationsInUse) 1 = .ok (.istore_n 1, 1) := by decide +kernel
theorem d_P_stationsInUse_2 : decode (mC M_P_stationsInUse) 2 = .ok (.iconst 0, 1) := by decide +kernel
theorem d_P_stationsInUse_3 : decode (mC M_P_stationsInUse) 3 = .ok (.istore_n 2, 1) := by decide +kernel
theorem d_P_stationsInUse_4 : decode (mC M_P_stationsInUse) 4 = .ok (.iload_n 2, 1) := by decide +kernel
theorem d_P_stationsInUse_5 : decode (mC M_P_stationsInUse) 5 = .ok (.aload_n 0, 1) := by decide +kernel
theorem d_P_stationsInUse_6 : decode (mC M_P_stationsInUse) 6 = .ok (.getfield 27, 3) := by decide +kernel
theorem d_P_stationsInUse_9 : decode (mC M_P_stationsInUse) 9 = .ok (.if_icmp .ge 29, 3) := by decide +kernel
theorem d_P_stationsInUse_12 : decode (mC M_P_stationsInUse) 12 = .ok (.aload_n 0, 1) := by decide +kernel
theorem d_P_stationsInUse_13 : decode (mC M_P_stationsInUse) 13 = .ok (.getfield 24, 3) := by decide +kernel
theorem d_P_stationsInUse_16 : decode (mC M_P_stationsInUse) 16 = .ok (.iload_n 2, 1) := by decide +kernel
theorem d_P_stationsInUse_17 : decode (mC M_P_stationsInUse) 17 = .ok (.iaload, 1) := by decide +kernel
theorem d_P_stationsInUse_18 : decode (mC M_P_stationsInUse) 18 = .ok (.ifCond .eq 14, 3) := by decide +kernel
theorem d_P_stationsInUse_21 : decode (mC M_P_stationsInUse) 21 = .ok (.iload_n 1, 1) := by decide +kernel
theorem d_P_stationsInUse_22 : decode (mC M_P_stationsInUse) 22 = .ok (.iconst 1, 1) := by decide +kernel
theorem d_P_stationsInUse_23 : decode (mC M_P_stationsInUse) 23 = .ok (.aload_n 0, 1) := by decide +kernel
theorem d_P_stationsInUse_24 : decode (mC M_P_stationsInUse) 24 = .ok (.getfield 24, 3) := by decide +kernel
theorem d_P_stationsInUse_27 : decode (mC M_P_stationsInUse) 27 = .ok (.iload_n 2, 1) := by decide +kernel
theorem d_P_stationsInUse_28 : decode (mC M_P_stationsInUse) 28 = .ok (.iaload, 1) := by decide +kernel
theorem d_P_stationsInUse_29 : decode (mC M_P_stationsInUse) 29 = .ok (.ishl, 1) := by decide +kernel
theorem d_P_stationsInUse_30 : decode (mC M_P_stationsInUse) 30 = .ok (.ior, 1) := by decide +kernel
theorem d_P_stationsInUse_31 : decode (mC M_P_stationsInUse) 31 = .ok (.istore_n 1, 1) := by decide +kernel
theorem d_P_stationsInUse_32 : decode (mC M_P_stationsInUse) 32 = .ok (.iinc 2 1, 3) := by decide +kernel
theorem d_P_stationsInUse_35 : decode (mC M_P_stationsInUse) 35 = .ok (.goto (-31), 3) := by decide +kernel
theorem d_P_stationsInUse_38 : decode (mC M_P_stationsInUse) 38 = .ok (.iload_n 1, 1) := by decide +kernel
theorem d_P_stationsInUse_39 : decode (mC M_P_stationsInUse) 39 = .ok (.invokestatic 62, 3) := by decide +kernel
theorem d_P_stationsInUse_42 : decode (mC M_P_stationsInUse) 42 = .ok (.ireturn, 1) := by decide +kernel
def vc_P_stationsInUse_38 (r : Option Value) (hf : hc_H) (J : Nat → hc_K) (lv : hc_L) (st : List Value) (h : hc_H) : Prop := (qi_iload 1 (qi_invS hc_tt M_J_bitCount 1 (qi_iret r hf))) lv st h
theorem sn_P_stationsInUse_38 {Ph : Nat → State → Prop} {h0 hf : hc_H} {r : Option Value} : qk Ph M_P_stationsInUse h0 hf r 38 (vc_P_stationsInUse_38 r hf (cx Ph M_P_stationsInUse h0 hf r)) := (qs_iload_n d_P_stationsInUse_38 rfl (qs_invS hc_Ph_tt (fun _ _ _ => trivial) d_P_stationsInUse_39 zz_J_bitCount wk_502 wk_503 ⟨by decide, by decide⟩ (qs_iret d_P_stationsInUse_42 rfl)))
def vc_P_stationsInUse_32 (r : Option Value) (hf : hc_H) (J : Nat → hc_K) (lv : hc_L) (st : List Value) (h : hc_H) : Prop := (qi_iinc 2 (nI 1) (J 4)) lv st h
theorem sn_P_stationsInUse_32 {Ph : Nat → State → Prop} {h0 hf : hc_H} {r : Option Value} : qk Ph M_P_stationsInUse h0 hf r 32 (vc_P_stationsInUse_32 r hf (cx Ph M_P_stationsInUse h0 hf r)) := (qs_iinc d_P_stationsInUse_32 (by decide) (by decide) (qs_goto (tgt := 4) d_P_stationsInUse_35 (by decide) (fun _ _ _ h9 => h9)))
def vc_P_stationsInUse_4 (r : Option Value) (hf : hc_H) (J : Nat → hc_K) (lv : hc_L) (st : List Value) (h : hc_H) : Prop := (qi_iload 2 (qi_aload 0 (qi_get 2 0 (qi_icmp_ge (vc_P_stationsInUse_38 r hf J) (qi_aload 0 (qi_get 2 6 (qi_iload 2 (qi_iald 0 (qi_if_eq (vc_P_stationsInUse_32 r hf J) (qi_iload 1 (qi_push (nI 1) (qi_aload 0 (qi_get 2 6 (qi_iload 2 (qi_iald 0 (qi_ishl (qi_ior (qi_istore 1 (vc_P_stationsInUse_32 r hf J))))))))))))))))))) lv st h
theorem sn_P_stationsInUse_4 {Ph : Nat → State → Prop} {h0 hf : hc_H} {r : Option Value} : qk Ph M_P_stationsInUse h0 hf r 4 (vc_P_stationsInUse_4 r hf (cx Ph M_P_stationsInUse h0 hf r)) := (qs_iload_n d_P_stationsInUse_4 rfl (qs_aload_n d_P_stationsInUse_5 rfl (qs_get d_P_stationsInUse_6 ff_P_27 (qs_icmp_ge (tgt := 38) d_P_stationsInUse_9 (by decide) sn_P_stationsInUse_38 (qs_aload_n d_P_stationsInUse_12 rfl (qs_get d_P_stationsInUse_13 ff_P_24 (qs_iload_n d_P_stationsInUse_16 rfl (qs_iaload d_P_stationsInUse_17 (qs_if_eq (tgt := 32) d_P_stationsInUse_18 (by decide) sn_P_stationsInUse_32 (qs_iload_n d_P_stationsInUse_21 rfl (qs_iconst d_P_stationsInUse_22 (by decide) (qs_aload_n d_P_stationsInUse_23 rfl (qs_get d_P_stationsInUse_24 ff_P_24 (qs_iload_n d_P_stationsInUse_27 rfl (qs_iaload d_P_stationsInUse_28 (qs_ishl d_P_stationsInUse_29 (qs_ior d_P_stationsInUse_30 (qs_istore_n d_P_stationsInUse_31 rfl (by decide) sn_P_stationsInUse_32))))))))))))))))))
def vc_P_stationsInUse_0 (r : Option Value) (hf : hc_H) (J : Nat → hc_K) (lv : hc_L) (st : List Value) (h : hc_H) : Prop := (qi_push (nI 0) (qi_istore 1 (qi_push (nI 0) (qi_istore 2 (J 4))))) lv st h
theorem sn_P_stationsInUse_0 {Ph : Nat → State → Prop} {h0 hf : hc_H} {r : Option Value} : qk Ph M_P_stationsInUse h0 hf r 0 (vc_P_stationsInUse_0 r hf (cx Ph M_P_stationsInUse h0 hf r)) := (qs_iconst d_P_stationsInUse_0 (by decide) (qs_istore_n d_P_stationsInUse_1 rfl (by decide) (qs_iconst d_P_stationsInUse_2 (by decide) (qs_istore_n d_P_stationsInUse_3 rfl (by decide) (fun _ _ _ h9 => h9)))))
/-! BalancedLine$Plan.lastSpot()I -/
abbrev M_P_lastSpot : hc_M := (⟨"BalancedLine$Plan", "lastSpot", "()I"⟩, prog_4_method_25_code, 3, (some .int), 1, 21)
theorem d_P_lastSpot_0 : decode (mC M_P_lastSpot) 0 = .ok (.iconst 0, 1) := by decide +kernel
theorem d_P_lastSpot_1 : decode (mC M_P_lastSpot) 1 = .ok (.istore_n 1, 1) := by decide +kernel
theorem d_P_lastSpot_2 : decode (mC M_P_lastSpot) 2 = .ok (.iconst 0, 1) := by decide +kernel
theorem d_P_lastSpot_3 : decode (mC M_P_lastSpot) 3 = .ok (.istore_n 2, 1) := by decide +kernel
theorem d_P_lastSpot_4 : decode (mC M_P_lastSpot) 4 = .ok (.iload_n 2, 1) := by decide +kernel
theorem d_P_lastSpot_5 : decode (mC M_P_lastSpot) 5 = .ok (.aload_n 0, 1) := by decide +kernel
theorem d_P_lastSpot_6 : decode (mC M_P_lastSpot) 6 = .ok (.getfield 27, 3) := by decide +kernel
theorem d_P_lastSpot_9 : decode (mC M_P_lastSpot) 9 = .ok (.if_icmp .ge 20, 3) := by decide +kernel
theorem d_P_lastSpot_12 : decode (mC M_P_lastSpot) 12 = .ok (.iload_n 1, 1) := by decide +kernel
theorem d_P_lastSpot_13 : decode (mC M_P_lastSpot) 13 = .ok (.aload_n 0, 1) := by decide +kernel
theorem d_P_lastSpot_14 : decode (mC M_P_lastSpot) 14 = .ok (.getfield 24, 3) := by decide +kernel
theorem d_P_lastSpot_17 : decode (mC M_P_lastSpot) 17 = .ok (.iload_n 2, 1) := by decide +kernel
theorem d_P_lastSpot_18 : decode (mC M_P_lastSpot) 18 = .ok (.iaload, 1) := by decide +kernel
theorem d_P_lastSpot_19 : decode (mC M_P_lastSpot) 19 = .ok (.invokestatic 74, 3) := by decide +kernel
theorem d_P_lastSpot_22 : decode (mC M_P_lastSpot) 22 = .ok (.istore_n 1, 1) := by decide +kernel
theorem d_P_lastSpot_23 : decode (mC M_P_lastSpot) 23 = .ok (.iinc 2 1, 3) := by decide +kernel
theorem d_P_lastSpot_26 : decode (mC M_P_lastSpot) 26 = .ok (.goto (-22), 3) := by decide +kernel
theorem d_P_lastSpot_29 : decode (mC M_P_lastSpot) 29 = .ok (.iload_n 1, 1) := by decide +kernel
theorem d_P_lastSpot_30 : decode (mC M_P_lastSpot) 30 = .ok (.ireturn, 1) := by decide +kernel
def vc_P_lastSpot_29 (r : Option Value) (hf : hc_H) (J : Nat → hc_K) (lv : hc_L) (st : List Value) (h : hc_H) : Prop := (qi_iload 1 (qi_iret r hf)) lv st h
theorem sn_P_lastSpot_29 {Ph : Nat → State → Prop} {h0 hf : hc_H} {r : Option Value} : qk Ph M_P_lastSpot h0 hf r 29 (vc_P_lastSpot_29 r hf (cx Ph M_P_lastSpot h0 hf r)) := (qs_iload_n d_P_lastSpot_29 rfl (qs_iret d_P_lastSpot_30 rfl))
def vc_P_lastSpot_4 (r : Option Value) (hf : hc_H) (J : Nat → hc_K) (lv : hc_L) (st : List Value) (h : hc_H) : Prop := (qi_iload 2 (qi_aload 0 (qi_get 2 0 (qi_icmp_ge (vc_P_lastSpot_29 r hf J) (qi_iload 1 (qi_aload 0 (qi_get 2 6 (qi_iload 2 (qi_iald 0 (qi_max (qi_istore 1 (qi_iinc 2 (nI 1) (J 4))))))))))))) lv st h
theorem sn_P_lastSpot_4 {Ph : Nat → State → Prop} {h0 hf : hc_H} {r : Option Value} : qk Ph M_P_lastSpot h0 hf r 4 (vc_P_lastSpot_4 r hf (cx Ph M_P_lastSpot h0 hf r)) := (qs_iload_n d_P_lastSpot_4 rfl (qs_aload_n d_P_lastSpot_5 rfl (qs_get d_P_lastSpot_6 ff_P_27 (qs_icmp_ge (tgt := 29) d_P_lastSpot_9 (by decide) sn_P_lastSpot_29 (qs_iload_n d_P_lastSpot_12 rfl (qs_aload_n d_P_lastSpot_13 rfl (qs_get d_P_lastSpot_14 ff_P_24 (qs_iload_n d_P_lastSpot_17 rfl (qs_iaload d_P_lastSpot_18 (qs_max d_P_lastSpot_19 wk_613 (by decide) (by decide) (qs_istore_n d_P_lastSpot_22 rfl (by decide) (qs_iinc d_P_lastSpot_23 (by decide) (by decide) (qs_goto (tgt := 4) d_P_lastSpot_26 (by decide) (fun _ _ _ h9 => h9))))))))))))))
def vc_P_lastSpot_0 (r : Option Value) (hf : hc_H) (J : Nat → hc_K) (lv : hc_L) (st : List Value) (h : hc_H) : Prop := (qi_push (nI 0) (qi_istore 1 (qi_push (nI 0) (qi_istore 2 (J 4))))) lv st h
theorem sn_P_lastSpot_0 {Ph : Nat → State → Prop} {h0 hf : hc_H} {r : Option Value} : qk Ph M_P_lastSpot h0 hf r 0 (vc_P_lastSpot_0 r hf (cx Ph M_P_lastSpot h0 hf r)) := (qs_iconst d_P_lastSpot_0 (by decide) (qs_istore_n d_P_lastSpot_1 rfl (by decide) (qs_iconst d_P_lastSpot_2 (by decide) (qs_istore_n d_P_lastSpot_3 rfl (by decide) (fun _ _ _ h9 => h9)))))
theorem zz_P_zoneOf : hc_z M_P_zoneOf 2 := ⟨wk_281, wk_56, by decide +kernel⟩
/-! BalancedLine$Plan.clash(III)I -/
abbrev M_P_clash : hc_M := (⟨"BalancedLine$Plan", "clash", "(III)I"⟩, prog_4_method_27_code, 5, (some .int), 1, 22)
theorem d_P_clash_0 : decode (mC M_P_clash) 0 = .ok (.aload_n 0, 1) := by decide +kernel
theorem d_P_clash_1 : decode (mC M_P_clash) 1 = .ok (.iload_n 1, 1) := by decide +kernel
theorem d_P_clash_2 : decode (mC M_P_clash) 2 = .ok (.iload_n 3, 1) := by decide +kernel
theorem d_P_clash_3 : decode (mC M_P_clash) 3 = .ok (.invokevirtual 58, 3) := by decide +kernel
theorem d_P_clash_6 : decode (mC M_P_clash) 6 = .ok (.ifCond .eq 15, 3) := by decide +kernel
theorem d_P_clash_9 : decode (mC M_P_clash) 9 = .ok (.aload_n 0, 1) := by decide +kernel
theorem d_P_clash_10 : decode (mC M_P_clash) 10 = .ok (.getfield 24, 3) := by decide +kernel
theorem d_P_clash_13 : decode (mC M_P_clash) 13 = .ok (.iload_n 3, 1) := by decide +kernel
theorem d_P_clash_14 : decode (mC M_P_clash) 14 = .ok (.iaload, 1) := by decide +kernel
theorem d_P_clash_15 : decode (mC M_P_clash) 15 = .ok (.iload_n 2, 1) := by decide +kernel
theorem d_P_clash_16 : decode (mC M_P_clash) 16 = .ok (.if_icmp .le 5, 3) := by decide +kernel
theorem d_P_clash_19 : decode (mC M_P_clash) 19 = .ok (.iconst 1, 1) := by decide +kernel
theorem d_P_clash_20 : decode (mC M_P_clash) 20 = .ok (.ireturn, 1) := by decide +kernel
theorem d_P_clash_21 : decode (mC M_P_clash) 21 = .ok (.aload_n 0, 1) := by decide +kernel
theorem d_P_clash_22 : decode (mC M_P_clash) 22 = .ok (.iload_n 3, 1) := by decide +kernel
theorem d_P_clash_23 : decode (mC M_P_clash) 23 = .ok (.iload_n 1, 1) := by decide +kernel
theorem d_P_clash_24 : decode (mC M_P_clash) 24 = .ok (.invokevirtual 58, 3) := by decide +kernel
theorem d_P_clash_27 : decode (mC M_P_clash) 27 = .ok (.ifCond .eq 15, 3) := by decide +kernel
theorem d_P_clash_30 : decode (mC M_P_clash) 30 = .ok (.aload_n 0, 1) := by decide +kernel
theorem d_P_clash_31 : decode (mC M_P_clash) 31 = .ok (.getfield 24, 3) := by decide +kernel
theorem d_P_clash_34 : decode (mC M_P_clash) 34 = .ok (.iload_n 3, 1) := by decide +kernel
theorem d_P_clash_35 : decode (mC M_P_clash) 35 = .ok (.iaload, 1) := by decide +kernel
theorem d_P_clash_36 : decode (mC M_P_clash) 36 = .ok (.iload_n 2, 1) := by decide +kernel
theorem d_P_clash_37 : decode (mC M_P_clash) 37 = .ok (.if_icmp .ge 5, 3) := by decide +kernel
theorem d_P_clash_40 : decode (mC M_P_clash) 40 = .ok (.iconst 2, 1) := by decide +kernel
theorem d_P_clash_41 : decode (mC M_P_clash) 41 = .ok (.ireturn, 1) := by decide +kernel
theorem d_P_clash_42 : decode (mC M_P_clash) 42 = .ok (.aload_n 0, 1) := by decide +kernel
theorem d_P_clash_43 : decode (mC M_P_clash) 43 = .ok (.iload_n 1, 1) := by decide +kernel
theorem d_P_clash_44 : decode (mC M_P_clash) 44 = .ok (.iload_n 3, 1) := by decide +kernel
theorem d_P_clash_45 : decode (mC M_P_clash) 45 = .ok (.invokevirtual 90, 3) := by decide +kernel
theorem d_P_clash_48 : decode (mC M_P_clash) 48 = .ok (.istore 4, 2) := by decide +kernel
theorem d_P_clash_50 : decode (mC M_P_clash) 50 = .ok (.iload 4, 2) := by decide +kernel
theorem d_P_clash_52 : decode (mC M_P_clash) 52 = .ok (.iconst 1, 1) := by decide +kernel
theorem d_P_clash_53 : decode (mC M_P_clash) 53 = .ok (.if_icmp .ne 15, 3) := by decide +kernel
theorem d_P_clash_56 : decode (mC M_P_clash) 56 = .ok (.aload_n 0, 1) := by decide +kernel
theorem d_P_clash_57 : decode (mC M_P_clash) 57 = .ok (.getfield 24, 3) := by decide +kernel
theorem d_P_clash_60 : decode (mC M_P_clash) 60 = .ok (.iload_n 3, 1) := by decide +kernel
theorem d_P_clash_61 : decode (mC M_P_clash) 61 = .ok (.iaload, 1) := by decide +kernel
theorem d_P_clash_62 : decode (mC M_P_clash) 62 = .ok (.iload_n 2, 1) := by decide +kernel
theorem d_P_clash_63 : decode (mC M_P_clash) 63 = .ok (.if_icmp .ne 5, 3) := by decide +kernel
theorem d_P_clash_66 : decode (mC M_P_clash) 66 = .ok (.iconst 4, 1) := by decide +kernel
theorem d_P_clash_67 : decode (mC M_P_clash) 67 = .ok (.ireturn, 1) := by decide +kernel
theorem d_P_clash_68 : decode (mC M_P_clash) 68 = .ok (.iload 4, 2) := by decide +kernel
theorem d_P_clash_70 : decode (mC M_P_clash) 70 = .ok (.iconst 2, 1) := by decide +kernel
theorem d_P_clash_71 : decode (mC M_P_clash) 71 = .ok (.if_icmp .ne 17, 3) := by decide +kernel
theorem d_P_clash_74 : decode (mC M_P_clash) 74 = .ok (.aload_n 0, 1) := by decide +kernel
theorem d_P_clash_75 : decode (mC M_P_clash) 75 = .ok (.getfield 24, 3) := by decide +kernel
theorem d_P_clash_78 : decode (mC M_P_clash) 78 = .ok (.iload_n 3, 1) := by decide +kernel
theorem d_P_clash_79 : decode (mC M_P_clash) 79 = .ok (.iaload, 1) := by decide +kernel
theorem d_P_clash_80 : decode (mC M_P_clash) 80 = .ok (.iload_n 2, 1) := by decide +kernel
theorem d_P_clash_81 : decode (mC M_P_clash) 81 = .ok (.if_icmp .eq 7, 3) := by decide +kernel
theorem d_P_clash_84 : decode (mC M_P_clash) 84 = .ok (.iconst 5, 1) := by decide +kernel
theorem d_P_clash_85 : decode (mC M_P_clash) 85 = .ok (.goto 4, 3) := by decide +kernel
theorem d_P_clash_88 : decode (mC M_P_clash) 88 = .ok (.iconst 0, 1) := by decide +kernel
theorem d_P_clash_89 : decode (mC M_P_clash) 89 = .ok (.ireturn, 1) := by decide +kernel
def vc_P_clash_89 (r : Option Value) (hf : hc_H) (J : Nat → hc_K) (lv : hc_L) (st : List Value) (h : hc_H) : Prop := (qi_iret r hf) lv st h
theorem sn_P_clash_89 {Ph : Nat → State → Prop} {h0 hf : hc_H} {r : Option Value} : qk Ph M_P_clash h0 hf r 89 (vc_P_clash_89 r hf (cx Ph M_P_clash h0 hf r)) := (qs_iret d_P_clash_89 rfl)
def vc_P_clash_88 (r : Option Value) (hf : hc_H) (J : Nat → hc_K) (lv : hc_L) (st : List Value) (h : hc_H) : Prop := (qi_push (nI 0) (vc_P_clash_89 r hf J)) lv st h
theorem sn_P_clash_88 {Ph : Nat → State → Prop} {h0 hf : hc_H} {r : Option Value} : qk Ph M_P_clash h0 hf r 88 (vc_P_clash_88 r hf (cx Ph M_P_clash h0 hf r)) := (qs_iconst d_P_clash_88 (by decide) sn_P_clash_89)
def vc_P_clash_68 (r : Option Value) (hf : hc_H) (J : Nat → hc_K) (lv : hc_L) (st : List Value) (h : hc_H) : Prop := (qi_iload 4 (qi_push (nI 2) (qi_icmp_ne (vc_P_clash_88 r hf J) (qi_aload 0 (qi_get 2 6 (qi_iload 3 (qi_iald 0 (qi_iload 2 (qi_icmp_eq (vc_P_clash_88 r hf J) (qi_push (nI 5) (vc_P_clash_89 r hf J))))))))))) lv st h
theorem sn_P_clash_68 {Ph : Nat → State → Prop} {h0 hf : hc_H} {r : Option Value} : qk Ph M_P_clash h0 hf r 68 (vc_P_clash_68 r hf (cx Ph M_P_clash h0 hf r)) := (qs_iload d_P_clash_68 (qs_iconst d_P_clash_70 (by decide) (qs_icmp_ne (tgt := 88) d_P_clash_71 (by decide) sn_P_clash_88 (qs_aload_n d_P_clash_74 rfl (qs_get d_P_clash_75 ff_P_24 (qs_iload_n d_P_clash_78 rfl (qs_iaload d_P_clash_79 (qs_iload_n d_P_clash_80 rfl (qs_icmp_eq (tgt := 88) d_P_clash_81 (by decide) sn_P_clash_88 (qs_iconst d_P_clash_84 (by decide) (qs_goto (tgt := 89) d_P_clash_85 (by decide) sn_P_clash_89)))))))))))
def vc_P_clash_42 (r : Option Value) (hf : hc_H) (J : Nat → hc_K) (lv : hc_L) (st : List Value) (h : hc_H) : Prop := (qi_aload 0 (qi_iload 1 (qi_iload 3 (qi_invV hc_tt M_P_zoneOf 2 2 (qi_istore 4 (qi_iload 4 (qi_push (nI 1) (qi_icmp_ne (vc_P_clash_68 r hf J) (qi_aload 0 (qi_get 2 6 (qi_iload 3 (qi_iald 0 (qi_iload 2 (qi_icmp_ne (vc_P_clash_68 r hf J) (qi_push (nI 4) (qi_iret r hf)))))))))))))))) lv st h
theorem sn_P_clash_42 {Ph : Nat → State → Prop} {h0 hf : hc_H} {r : Option Value} : qk Ph M_P_clash h0 hf r 42 (vc_P_clash_42 r hf (cx Ph M_P_clash h0 hf r)) := (qs_aload_n d_P_clash_42 rfl (qs_iload_n d_P_clash_43 rfl (qs_iload_n d_P_clash_44 rfl (qs_invV hc_Ph_tt (fun _ _ _ => trivial) d_P_clash_45 zz_P_zoneOf wk_480 ⟨wk_279, wk_280⟩ ⟨_, rfl, rfl⟩ ⟨by decide, by decide⟩ (qs_istore d_P_clash_48 (by decide) (qs_iload d_P_clash_50 (qs_iconst d_P_clash_52 (by decide) (qs_icmp_ne (tgt := 68) d_P_clash_53 (by decide) sn_P_clash_68 (qs_aload_n d_P_clash_56 rfl (qs_get d_P_clash_57 ff_P_24 (qs_iload_n d_P_clash_60 rfl (qs_iaload d_P_clash_61 (qs_iload_n d_P_clash_62 rfl (qs_icmp_ne (tgt := 68) d_P_clash_63 (by decide) sn_P_clash_68 (qs_iconst d_P_clash_66 (by decide) (qs_iret d_P_clash_67 rfl))))))))))))))))
def vc_P_clash_21 (r : Option Value) (hf : hc_H) (J : Nat → hc_K) (lv : hc_L) (st : List Value) (h : hc_H) : Prop := (qi_aload 0 (qi_iload 3 (qi_iload 1 (qi_invV hc_tt M_P_isBehind 2 2 (qi_if_eq (vc_P_clash_42 r hf J) (qi_aload 0 (qi_get 2 6 (qi_iload 3 (qi_iald 0 (qi_iload 2 (qi_icmp_ge (vc_P_clash_42 r hf J) (qi_push (nI 2) (qi_iret r hf))))))))))))) lv st h
theorem sn_P_clash_21 {Ph : Nat → State → Prop} {h0 hf : hc_H} {r : Option Value} : qk Ph M_P_clash h0 hf r 21 (vc_P_clash_21 r hf (cx Ph M_P_clash h0 hf r)) := (qs_aload_n d_P_clash_21 rfl (qs_iload_n d_P_clash_22 rfl (qs_iload_n d_P_clash_23 rfl (qs_invV hc_Ph_tt (fun _ _ _ => trivial) d_P_clash_24 zz_P_isBehind wk_479 ⟨wk_263, wk_264⟩ ⟨_, rfl, rfl⟩ ⟨by decide, by decide⟩ (qs_if_eq (tgt := 42) d_P_clash_27 (by decide) sn_P_clash_42 (qs_aload_n d_P_clash_30 rfl (qs_get d_P_clash_31 ff_P_24 (qs_iload_n d_P_clash_34 rfl (qs_iaload d_P_clash_35 (qs_iload_n d_P_clash_36 rfl (qs_icmp_ge (tgt := 42) d_P_clash_37 (by decide) sn_P_clash_42 (qs_iconst d_P_clash_40 (by decide) (qs_iret d_P_clash_41 rfl)))))))))))))
def vc_P_clash_0 (r : Option Value) (hf : hc_H) (J : Nat → hc_K) (lv : hc_L) (st : List Value) (h : hc_H) : Prop := (qi_aload 0 (qi_iload 1 (qi_iload 3 (qi_invV hc_tt M_P_isBehind 2 2 (qi_if_eq (vc_P_clash_21 r hf J) (qi_aload 0 (qi_get 2 6 (qi_iload 3 (qi_iald 0 (qi_iload 2 (qi_icmp_le (vc_P_clash_21 r hf J) (qi_push (nI 1) (qi_iret r hf))))))))))))) lv st h
theorem sn_P_clash_0 {Ph : Nat → State → Prop} {h0 hf : hc_H} {r : Option Value} : qk Ph M_P_clash h0 hf r 0 (vc_P_clash_0 r hf (cx Ph M_P_clash h0 hf r)) := (qs_aload_n d_P_clash_0 rfl (qs_iload_n d_P_clash_1 rfl (qs_iload_n d_P_clash_2 rfl (qs_invV hc_Ph_tt (fun _ _ _ => trivial) d_P_clash_3 zz_P_isBehind wk_479 ⟨wk_263, wk_264⟩ ⟨_, rfl, rfl⟩ ⟨by decide, by decide⟩ (qs_if_eq (tgt := 21) d_P_clash_6 (by decide) sn_P_clash_21 (qs_aload_n d_P_clash_9 rfl (qs_get d_P_clash_10 ff_P_24 (qs_iload_n d_P_clash_13 rfl (qs_iaload d_P_clash_14 (qs_iload_n d_P_clash_15 rfl (qs_icmp_le (tgt := 21) d_P_clash_16 (by decide) sn_P_clash_21 (qs_iconst d_P_clash_19 (by decide) (qs_iret d_P_clash_20 rfl)))))))))))))
/-! BalancedLine$Plan.firstOf(II)I -/
abbrev M_P_firstOf : hc_M := (⟨"BalancedLine$Plan", "firstOf", "(II)I"⟩, prog_4_method_28_code, 2, (some .int), 1, 21)
theorem d_P_firstOf_0 : decode (mC M_P_firstOf) 0 = .ok (.iload_n 0, 1) := by decide +kernel
theorem d_P_firstOf_1 : decode (mC M_P_firstOf) 1 = .ok (.ifCond .eq 7, 3) := by decide +kernel
theorem d_P_firstOf_4 : decode (mC M_P_firstOf) 4 = .ok (.iload_n 1, 1) := by decide +kernel
theorem d_P_firstOf_5 : decode (mC M_P_firstOf) 5 = .ok (.ifCond .ne 7, 3) := by decide +kernel
theorem d_P_firstOf_8 : decode (mC M_P_firstOf) 8 = .ok (.iload_n 0, 1) := by decide +kernel
theorem d_P_firstOf_9 : decode (mC M_P_firstOf) 9 = .ok (.iload_n 1, 1) := by decide +kernel
theorem d_P_firstOf_10 : decode (mC M_P_firstOf) 10 = .ok (.iadd, 1) := by decide +kernel
theorem d_P_firstOf_11 : decode (mC M_P_firstOf) 11 = .ok (.ireturn, 1) := by decide +kernel
theorem d_P_firstOf_12 : decode (mC M_P_firstOf) 12 = .ok (.iload_n 0, 1) := by decide +kernel
theorem d_P_firstOf_13 : decode (mC M_P_firstOf) 13 = .ok (.iload_n 1, 1) := by decide +kernel
theorem d_P_firstOf_14 : decode (mC M_P_firstOf) 14 = .ok (.invokestatic 93, 3) := by decide +kernel
theorem d_P_firstOf_17 : decode (mC M_P_firstOf) 17 = .ok (.ireturn, 1) := by decide +kernel
def vc_P_firstOf_12 (r : Option Value) (hf : hc_H) (J : Nat → hc_K) (lv : hc_L) (st : List Value) (h : hc_H) : Prop := (qi_iload 0 (qi_iload 1 (qi_min (qi_iret r hf)))) lv st h
theorem sn_P_firstOf_12 {Ph : Nat → State → Prop} {h0 hf : hc_H} {r : Option Value} : qk Ph M_P_firstOf h0 hf r 12 (vc_P_firstOf_12 r hf (cx Ph M_P_firstOf h0 hf r)) := (qs_iload_n d_P_firstOf_12 rfl (qs_iload_n d_P_firstOf_13 rfl (qs_min d_P_firstOf_14 wk_484 (by decide) (by decide) (qs_iret d_P_firstOf_17 rfl))))
def vc_P_firstOf_8 (r : Option Value) (hf : hc_H) (J : Nat → hc_K) (lv : hc_L) (st : List Value) (h : hc_H) : Prop := (qi_iload 0 (qi_iload 1 (qi_iadd (qi_iret r hf)))) lv st h
theorem sn_P_firstOf_8 {Ph : Nat → State → Prop} {h0 hf : hc_H} {r : Option Value} : qk Ph M_P_firstOf h0 hf r 8 (vc_P_firstOf_8 r hf (cx Ph M_P_firstOf h0 hf r)) := (qs_iload_n d_P_firstOf_8 rfl (qs_iload_n d_P_firstOf_9 rfl (qs_iadd d_P_firstOf_10 (qs_iret d_P_firstOf_11 rfl))))
def vc_P_firstOf_0 (r : Option Value) (hf : hc_H) (J : Nat → hc_K) (lv : hc_L) (st : List Value) (h : hc_H) : Prop := (qi_iload 0 (qi_if_eq (vc_P_firstOf_8 r hf J) (qi_iload 1 (qi_if_ne (vc_P_firstOf_12 r hf J) (vc_P_firstOf_8 r hf J))))) lv st h
theorem sn_P_firstOf_0 {Ph : Nat → State → Prop} {h0 hf : hc_H} {r : Option Value} : qk Ph M_P_firstOf h0 hf r 0 (vc_P_firstOf_0 r hf (cx Ph M_P_firstOf h0 hf r)) := (qs_iload_n d_P_firstOf_0 rfl (qs_if_eq (tgt := 8) d_P_firstOf_1 (by decide) sn_P_firstOf_8 (qs_iload_n d_P_firstOf_4 rfl (qs_if_ne (tgt := 12) d_P_firstOf_5 (by decide) sn_P_firstOf_12 sn_P_firstOf_8))))
theorem zz_P_firstOf : hc_z M_P_firstOf 2 := ⟨wk_483, wk_56, by decide +kernel⟩
theorem zz_P_clash : hc_z M_P_clash 3 := ⟨wk_478, wk_56, by decide +kernel⟩
/-! BalancedLine$Plan.whyNot(II)I -/
abbrev M_P_whyNot : hc_M := (⟨"BalancedLine$Plan", "whyNot", "(II)I"⟩, prog_4_method_26_code, 6, (some .int), 2, 46)
theorem d_P_whyNot_0 : decode (mC M_P_whyNot) 0 = .ok (.iconst 0, 1) := by decide +kernel
theorem d_P_whyNot_1 : decode (mC M_P_whyNot) 1 = .ok (.istore_n 3, 1) := by decide +kernel
theorem d_P_whyNot_2 : decode (mC M_P_whyNot) 2 = .ok (.aload_n 0, 1) := by decide +kernel
theorem d_P_whyNot_3 : decode (mC M_P_whyNot) 3 = .ok (.getfield 9, 3) := by decide +kernel
theorem d_P_whyNot_6 : decode (mC M_P_whyNot) 6 = .ok (.iload_n 1, 1) := by decide +kernel
theorem d_P_whyNot_7 : decode (mC M_P_whyNot) 7 = .ok (.iaload, 1) := by decide +kernel
theorem d_P_whyNot_8 : decode (mC M_P_whyNot) 8 = .ok (.istore 4, 2) := by decide +kernel
theorem d_P_whyNot_10 : decode (mC M_P_whyNot) 10 = .ok (.iconst 0, 1) := by decide +kernel
theorem d_P_whyNot_11 : decode (mC M_P_whyNot) 11 = .ok (.istore 5, 2) := by decide +kernel
theorem d_P_whyNot_13 : decode (mC M_P_whyNot) 13 = .ok (.iload 5, 2) := by decide +kernel
theorem d_P_whyNot_15 : decode (mC M_P_whyNot) 15 = .ok (.aload_n 0, 1) := by decide +kernel
theorem d_P_whyNot_16 : decode (mC M_P_whyNot) 16 = .ok (.getfield 27, 3) := by decide +kernel
theorem d_P_whyNot_19 : decode (mC M_P_whyNot) 19 = .ok (.if_icmp .ge 65, 3) := by decide +kernel
theorem d_P_whyNot_22 : decode (mC M_P_whyNot) 22 = .ok (.iload 5, 2) := by decide +kernel
theorem d_P_whyNot_24 : decode (mC M_P_whyNot) 24 = .ok (.iload_n 1, 1) := by decide +kernel
theorem d_P_whyNot_25 : decode (mC M_P_whyNot) 25 = .ok (.if_icmp .eq 53, 3) := by decide +kernel
theorem d_P_whyNot_28 : decode (mC M_P_whyNot) 28 = .ok (.aload_n 0, 1) := by decide +kernel
theorem d_P_whyNot_29 : decode (mC M_P_whyNot) 29 = .ok (.getfield 24, 3) := by decide +kernel
theorem d_P_whyNot_32 : decode (mC M_P_whyNot) 32 = .ok (.iload 5, 2) := by decide +kernel
theorem d_P_whyNot_34 : decode (mC M_P_whyNot) 34 = .ok (.iaload, 1) := by decide +kernel
theorem d_P_whyNot_35 : decode (mC M_P_whyNot) 35 = .ok (.ifCond .eq 43, 3) := by decide +kernel
theorem d_P_whyNot_38 : decode (mC M_P_whyNot) 38 = .ok (.iload_n 3, 1) := by decide +kernel
theorem d_P_whyNot_39 : decode (mC M_P_whyNot) 39 = .ok (.aload_n 0, 1) := by decide +kernel
theorem d_P_whyNot_40 : decode (mC M_P_whyNot) 40 = .ok (.iload_n 1, 1) := by decide +kernel
theorem d_P_whyNot_41 : decode (mC M_P_whyNot) 41 = .ok (.iload_n 2, 1) := by decide +kernel
theorem d_P_whyNot_42 : decode (mC M_P_whyNot) 42 = .ok (.iload 5, 2) := by decide +kernel
theorem d_P_whyNot_44 : decode (mC M_P_whyNot) 44 = .ok (.invokevirtual 83, 3) := by decide +kernel
theorem d_P_whyNot_47 : decode (mC M_P_whyNot) 47 = .ok (.invokestatic 87, 3) := by decide +kernel
theorem d_P_whyNot_50 : decode (mC M_P_whyNot) 50 = .ok (.istore_n 3, 1) := by decide +kernel
theorem d_P_whyNot_51 : decode (mC M_P_whyNot) 51 = .ok (.iload 4, 2) := by decide +kernel
theorem d_P_whyNot_53 : decode (mC M_P_whyNot) 53 = .ok (.aload_n 0, 1) := by decide +kernel
theorem d_P_whyNot_54 : decode (mC M_P_whyNot) 54 = .ok (.getfield 24, 3) := by decide +kernel
theorem d_P_whyNot_57 : decode (mC M_P_whyNot) 57 = .ok (.iload 5, 2) := by decide +kernel
theorem d_P_whyNot_59 : decode (mC M_P_whyNot) 59 = .ok (.iaload, 1) := by decide +kernel
theorem d_P_whyNot_60 : decode (mC M_P_whyNot) 60 = .ok (.iload_n 2, 1) := by decide +kernel
theorem d_P_whyNot_61 : decode (mC M_P_whyNot) 61 = .ok (.if_icmp .ne 13, 3) := by decide +kernel
theorem d_P_whyNot_64 : decode (mC M_P_whyNot) 64 = .ok (.aload_n 0, 1) := by decide +kernel
theorem d_P_whyNot_65 : decode (mC M_P_whyNot) 65 = .ok (.getfield 9, 3) := by decide +kernel
theorem d_P_whyNot_68 : decode (mC M_P_whyNot) 68 = .ok (.iload 5, 2) := by decide +kernel
theorem d_P_whyNot_70 : decode (mC M_P_whyNot) 70 = .ok (.iaload, 1) := by decide +kernel
theorem d_P_whyNot_71 : decode (mC M_P_whyNot) 71 = .ok (.goto 4, 3) := by decide +kernel
theorem d_P_whyNot_74 : decode (mC M_P_whyNot) 74 = .ok (.iconst 0, 1) := by decide +kernel
theorem d_P_whyNot_75 : decode (mC M_P_whyNot) 75 = .ok (.iadd, 1) := by decide +kernel
theorem d_P_whyNot_76 : decode (mC M_P_whyNot) 76 = .ok (.istore 4, 2) := by decide +kernel
theorem d_P_whyNot_78 : decode (mC M_P_whyNot) 78 = .ok (.iinc 5 1, 3) := by decide +kernel
theorem d_P_whyNot_81 : decode (mC M_P_whyNot) 81 = .ok (.goto (-68), 3) := by decide +kernel
theorem d_P_whyNot_84 : decode (mC M_P_whyNot) 84 = .ok (.iload 4, 2) := by decide +kernel
theorem d_P_whyNot_86 : decode (mC M_P_whyNot) 86 = .ok (.aload_n 0, 1) := by decide +kernel
theorem d_P_whyNot_87 : decode (mC M_P_whyNot) 87 = .ok (.getfield 31, 3) := by decide +kernel
theorem d_P_whyNot_90 : decode (mC M_P_whyNot) 90 = .ok (.if_icmp .le 11, 3) := by decide +kernel
theorem d_P_whyNot_93 : decode (mC M_P_whyNot) 93 = .ok (.iload_n 3, 1) := by decide +kernel
theorem d_P_whyNot_94 : decode (mC M_P_whyNot) 94 = .ok (.iconst 3, 1) := by decide +kernel
theorem d_P_whyNot_95 : decode (mC M_P_whyNot) 95 = .ok (.invokestatic 87, 3) := by decide +kernel
theorem d_P_whyNot_98 : decode (mC M_P_whyNot) 98 = .ok (.goto 4, 3) := by decide +kernel
theorem d_P_whyNot_101 : decode (mC M_P_whyNot) 101 = .ok (.iload_n 3, 1) := by decide +kernel
theorem d_P_whyNot_102 : decode (mC M_P_whyNot) 102 = .ok (.ireturn, 1) := by decide +kernel
def vc_P_whyNot_102 (r : Option Value) (hf : hc_H) (J : Nat → hc_K) (lv : hc_L) (st : List Value) (h : hc_H) : Prop := (qi_iret r hf) lv st h
theorem sn_P_whyNot_102 {Ph : Nat → State → Prop} {h0 hf : hc_H} {r : Option Value} : qk Ph M_P_whyNot h0 hf r 102 (vc_P_whyNot_102 r hf (cx Ph M_P_whyNot h0 hf r)) := (qs_iret d_P_whyNot_102 rfl)
def vc_P_whyNot_101 (r : Option Value) (hf : hc_H) (J : Nat → hc_K) (lv : hc_L) (st : List Value) (h : hc_H) : Prop := (qi_iload 3 (vc_P_whyNot_102 r hf J)) lv st h
theorem sn_P_whyNot_101 {Ph : Nat → State → Prop} {h0 hf : hc_H} {r : Option Value} : qk Ph M_P_whyNot h0 hf r 101 (vc_P_whyNot_101 r hf (cx Ph M_P_whyNot h0 hf r)) := (qs_iload_n d_P_whyNot_101 rfl sn_P_whyNot_102)
def vc_P_whyNot_84 (r : Option Value) (hf : hc_H) (J : Nat → hc_K) (lv : hc_L) (st : List Value) (h : hc_H) : Prop := (qi_iload 4 (qi_aload 0 (qi_get 2 1 (qi_icmp_le (vc_P_whyNot_101 r hf J) (qi_iload 3 (qi_push (nI 3) (qi_invS hc_tt M_P_firstOf 2 (vc_P_whyNot_102 r hf J)))))))) lv st h
theorem sn_P_whyNot_84 {Ph : Nat → State → Prop} {h0 hf : hc_H} {r : Option Value} : qk Ph M_P_whyNot h0 hf r 84 (vc_P_whyNot_84 r hf (cx Ph M_P_whyNot h0 hf r)) := (qs_iload d_P_whyNot_84 (qs_aload_n d_P_whyNot_86 rfl (qs_get d_P_whyNot_87 ff_P_31 (qs_icmp_le (tgt := 101) d_P_whyNot_90 (by decide) sn_P_whyNot_101 (qs_iload_n d_P_whyNot_93 rfl (qs_iconst d_P_whyNot_94 (by decide) (qs_invS hc_Ph_tt (fun _ _ _ => trivial) d_P_whyNot_95 zz_P_firstOf wk_481 wk_482 ⟨by decide, by decide⟩ (qs_goto (tgt := 102) d_P_whyNot_98 (by decide) sn_P_whyNot_102))))))))
def vc_P_whyNot_78 (r : Option Value) (hf : hc_H) (J : Nat → hc_K) (lv : hc_L) (st : List Value) (h : hc_H) : Prop := (qi_iinc 5 (nI 1) (J 13)) lv st h
theorem sn_P_whyNot_78 {Ph : Nat → State → Prop} {h0 hf : hc_H} {r : Option Value} : qk Ph M_P_whyNot h0 hf r 78 (vc_P_whyNot_78 r hf (cx Ph M_P_whyNot h0 hf r)) := (qs_iinc d_P_whyNot_78 (by decide) (by decide) (qs_goto (tgt := 13) d_P_whyNot_81 (by decide) (fun _ _ _ h9 => h9)))
def vc_P_whyNot_75 (r : Option Value) (hf : hc_H) (J : Nat → hc_K) (lv : hc_L) (st : List Value) (h : hc_H) : Prop := (qi_iadd (qi_istore 4 (vc_P_whyNot_78 r hf J))) lv st h
theorem sn_P_whyNot_75 {Ph : Nat → State → Prop} {h0 hf : hc_H} {r : Option Value} : qk Ph M_P_whyNot h0 hf r 75 (vc_P_whyNot_75 r hf (cx Ph M_P_whyNot h0 hf r)) := (qs_iadd d_P_whyNot_75 (qs_istore d_P_whyNot_76 (by decide) sn_P_whyNot_78))
def vc_P_whyNot_74 (r : Option Value) (hf : hc_H) (J : Nat → hc_K) (lv : hc_L) (st : List Value) (h : hc_H) : Prop := (qi_push (nI 0) (vc_P_whyNot_75 r hf J)) lv st h
theorem sn_P_whyNot_74 {Ph : Nat → State → Prop} {h0 hf : hc_H} {r : Option Value} : qk Ph M_P_whyNot h0 hf r 74 (vc_P_whyNot_74 r hf (cx Ph M_P_whyNot h0 hf r)) := (qs_iconst d_P_whyNot_74 (by decide) sn_P_whyNot_75)
def vc_P_whyNot_13 (r : Option Value) (hf : hc_H) (J : Nat → hc_K) (lv : hc_L) (st : List Value) (h : hc_H) : Prop := (qi_iload 5 (qi_aload 0 (qi_get 2 0 (qi_icmp_ge (vc_P_whyNot_84 r hf J) (qi_iload 5 (qi_iload 1 (qi_icmp_eq (vc_P_whyNot_78 r hf J) (qi_aload 0 (qi_get 2 6 (qi_iload 5 (qi_iald 0 (qi_if_eq (vc_P_whyNot_78 r hf J) (qi_iload 3 (qi_aload 0 (qi_iload 1 (qi_iload 2 (qi_iload 5 (qi_invV hc_tt M_P_clash 3 2 (qi_invS hc_tt M_P_firstOf 2 (qi_istore 3 (qi_iload 4 (qi_aload 0 (qi_get 2 6 (qi_iload 5 (qi_iald 0 (qi_iload 2 (qi_icmp_ne (vc_P_whyNot_74 r hf J) (qi_aload 0 (qi_get 2 2 (qi_iload 5 (qi_iald 0 (vc_P_whyNot_75 r hf J)))))))))))))))))))))))))))))))) lv st h
theorem sn_P_whyNot_13 {Ph : Nat → State → Prop} {h0 hf : hc_H} {r : Option Value} : qk Ph M_P_whyNot h0 hf r 13 (vc_P_whyNot_13 r hf (cx Ph M_P_whyNot h0 hf r)) := (qs_iload d_P_whyNot_13 (qs_aload_n d_P_whyNot_15 rfl (qs_get d_P_whyNot_16 ff_P_27 (qs_icmp_ge (tgt := 84) d_P_whyNot_19 (by decide) sn_P_whyNot_84 (qs_iload d_P_whyNot_22 (qs_iload_n d_P_whyNot_24 rfl (qs_icmp_eq (tgt := 78) d_P_whyNot_25 (by decide) sn_P_whyNot_78 (qs_aload_n d_P_whyNot_28 rfl (qs_get d_P_whyNot_29 ff_P_24 (qs_iload d_P_whyNot_32 (qs_iaload d_P_whyNot_34 (qs_if_eq (tgt := 78) d_P_whyNot_35 (by decide) sn_P_whyNot_78 (qs_iload_n d_P_whyNot_38 rfl (qs_aload_n d_P_whyNot_39 rfl (qs_iload_n d_P_whyNot_40 rfl (qs_iload_n d_P_whyNot_41 rfl (qs_iload d_P_whyNot_42 (qs_invV hc_Ph_tt (fun _ _ _ => trivial) d_P_whyNot_44 zz_P_clash wk_475 ⟨wk_477, wk_9⟩ ⟨_, rfl, rfl⟩ ⟨by decide, by decide⟩ (qs_invS hc_Ph_tt (fun _ _ _ => trivial) d_P_whyNot_47 zz_P_firstOf wk_481 wk_482 ⟨by decide, by decide⟩ (qs_istore_n d_P_whyNot_50 rfl (by decide) (qs_iload d_P_whyNot_51 (qs_aload_n d_P_whyNot_53 rfl (qs_get d_P_whyNot_54 ff_P_24 (qs_iload d_P_whyNot_57 (qs_iaload d_P_whyNot_59 (qs_iload_n d_P_whyNot_60 rfl (qs_icmp_ne (tgt := 74) d_P_whyNot_61 (by decide) sn_P_whyNot_74 (qs_aload_n d_P_whyNot_64 rfl (qs_get d_P_whyNot_65 ff_P_9 (qs_iload d_P_whyNot_68 (qs_iaload d_P_whyNot_70 (qs_goto (tgt := 75) d_P_whyNot_71 (by decide) sn_P_whyNot_75))))))))))))))))))))))))))))))))
def vc_P_whyNot_0 (r : Option Value) (hf : hc_H) (J : Nat → hc_K) (lv : hc_L) (st : List Value) (h : hc_H) : Prop := (qi_push (nI 0) (qi_istore 3 (qi_aload 0 (qi_get 2 2 (qi_iload 1 (qi_iald 0 (qi_istore 4 (qi_push (nI 0) (qi_istore 5 (J 13)))))))))) lv st h
theorem sn_P_whyNot_0 {Ph : Nat → State → Prop} {h0 hf : hc_H} {r : Option Value} : qk Ph M_P_whyNot h0 hf r 0 (vc_P_whyNot_0 r hf (cx Ph M_P_whyNot h0 hf r)) := (qs_iconst d_P_whyNot_0 (by decide) (qs_istore_n d_P_whyNot_1 rfl (by decide) (qs_aload_n d_P_whyNot_2 rfl (qs_get d_P_whyNot_3 ff_P_9 (qs_iload_n d_P_whyNot_6 rfl (qs_iaload d_P_whyNot_7 (qs_istore d_P_whyNot_8 (by decide) (qs_iconst d_P_whyNot_10 (by decide) (qs_istore d_P_whyNot_11 (by decide) (fun _ _ _ h9 => h9))))))))))
theorem zz_P_whyNot : hc_z M_P_whyNot 2 := ⟨wk_474, wk_56, by decide +kernel⟩
/-! BalancedLine$Plan.takeOffMisfits()V -/
abbrev M_P_takeOffMisfits : hc_M := (⟨"BalancedLine$Plan", "takeOffMisfits", "()V"⟩, prog_4_method_29_code, 2, none, 3, 71)
theorem d_P_takeOffMisfits_0 : decode (mC M_P_takeOffMisfits) 0 = .ok (.iconst 0, 1) := by decide +kernel
theorem d_P_takeOffMisfits_1 : decode (mC M_P_takeOffMisfits) 1 = .ok (.istore_n 1, 1) := by decide +kernel
theorem d_P_takeOffMisfits_2 : decode (mC M_P_takeOffMisfits) 2 = .ok (.iload_n 1, 1) := by decide +kernel
theorem d_P_takeOffMisfits_3 : decode (mC M_P_takeOffMisfits) 3 = .ok (.aload_n 0, 1) := by decide +kernel
theorem d_P_takeOffMisfits_4 : decode (mC M_P_takeOffMisfits) 4 = .ok (.getfield 27, 3) := by decide +kernel
theorem d_P_takeOffMisfits_7 : decode (mC M_P_takeOffMisfits) 7 = .ok (.if_icmp .ge 39, 3) := by decide +kernel
theorem d_P_takeOffMisfits_10 : decode (mC M_P_takeOffMisfits) 10 = .ok (.aload_n 0, 1) := by decide +kernel
theorem d_P_takeOffMisfits_11 : decode (mC M_P_takeOffMisfits) 11 = .ok (.getfield 24, 3) := by decide +kernel
theorem d_P_takeOffMisfits_14 : decode (mC M_P_takeOffMisfits) 14 = .ok (.iload_n 1, 1) := by decide +kernel
theorem d_P_takeOffMisfits_15 : decode (mC M_P_takeOffMisfits) 15 = .ok (.iaload, 1) := by decide +kernel
theorem d_P_takeOffMisfits_16 : decode (mC M_P_takeOffMisfits) 16 = .ok (.ifCond .eq 24, 3) := by decide +kernel
theorem d_P_takeOffMisfits_19 : decode (mC M_P_takeOffMisfits) 19 = .ok (.aload_n 0, 1) := by decide +kernel
theorem d_P_takeOffMisfits_20 : decode (mC M_P_takeOffMisfits) 20 = .ok (.iload_n 1, 1) := by decide +kernel
theorem d_P_takeOffMisfits_21 : decode (mC M_P_takeOffMisfits) 21 = .ok (.aload_n 0, 1) := by decide +kernel
theorem d_P_takeOffMisfits_22 : decode (mC M_P_takeOffMisfits) 22 = .ok (.getfield 24, 3) := by decide +kernel
theorem d_P_takeOffMisfits_25 : decode (mC M_P_takeOffMisfits) 25 = .ok (.iload_n 1, 1) := by decide +kernel
theorem d_P_takeOffMisfits_26 : decode (mC M_P_takeOffMisfits) 26 = .ok (.iaload, 1) := by decide +kernel
theorem d_P_takeOffMisfits_27 : decode (mC M_P_takeOffMisfits) 27 = .ok (.invokevirtual 96, 3) := by decide +kernel
theorem d_P_takeOffMisfits_30 : decode (mC M_P_takeOffMisfits) 30 = .ok (.ifCond .eq 10, 3) := by decide +kernel
theorem d_P_takeOffMisfits_33 : decode (mC M_P_takeOffMisfits) 33 = .ok (.aload_n 0, 1) := by decide +kernel
theorem d_P_takeOffMisfits_34 : decode (mC M_P_takeOffMisfits) 34 = .ok (.getfield 24, 3) := by decide +kernel
theorem d_P_takeOffMisfits_37 : decode (mC M_P_takeOffMisfits) 37 = .ok (.iload_n 1, 1) := by decide +kernel
theorem d_P_takeOffMisfits_38 : decode (mC M_P_takeOffMisfits) 38 = .ok (.iconst 0, 1) := by decide +kernel
theorem d_P_takeOffMisfits_39 : decode (mC M_P_takeOffMisfits) 39 = .ok (.iastore, 1) := by decide +kernel
theorem d_P_takeOffMisfits_40 : decode (mC M_P_takeOffMisfits) 40 = .ok (.iinc 1 1, 3) := by decide +kernel
theorem d_P_takeOffMisfits_43 : decode (mC M_P_takeOffMisfits) 43 = .ok (.goto (-41), 3) := by decide +kernel
theorem d_P_takeOffMisfits_46 : decode (mC M_P_takeOffMisfits) 46 = .ok (.return_, 1) := by decide +kernel
def vc_P_takeOffMisfits_46 (r : Option Value) (hf : hc_H) (J : Nat → hc_K) (lv : hc_L) (st : List Value) (h : hc_H) : Prop := (qi_vret r hf) lv st h
theorem sn_P_takeOffMisfits_46 {Ph : Nat → State → Prop} {h0 hf : hc_H} {r : Option Value} : qk Ph M_P_takeOffMisfits h0 hf r 46 (vc_P_takeOffMisfits_46 r hf (cx Ph M_P_takeOffMisfits h0 hf r)) := (qs_vret d_P_takeOffMisfits_46 rfl)
def vc_P_takeOffMisfits_40 (r : Option Value) (hf : hc_H) (J : Nat → hc_K) (lv : hc_L) (st : List Value) (h : hc_H) : Prop := (qi_iinc 1 (nI 1) (J 2)) lv st h
theorem sn_P_takeOffMisfits_40 {Ph : Nat → State → Prop} {h0 hf : hc_H} {r : Option Value} : qk Ph M_P_takeOffMisfits h0 hf r 40 (vc_P_takeOffMisfits_40 r hf (cx Ph M_P_takeOffMisfits h0 hf r)) := (qs_iinc d_P_takeOffMisfits_40 (by decide) (by decide) (qs_goto (tgt := 2) d_P_takeOffMisfits_43 (by decide) (fun _ _ _ h9 => h9)))
def vc_P_takeOffMisfits_2 (r : Option Value) (hf : hc_H) (J : Nat → hc_K) (lv : hc_L) (st : List Value) (h : hc_H) : Prop := (qi_iload 1 (qi_aload 0 (qi_get 2 0 (qi_icmp_ge (vc_P_takeOffMisfits_46 r hf J) (qi_aload 0 (qi_get 2 6 (qi_iload 1 (qi_iald 0 (qi_if_eq (vc_P_takeOffMisfits_40 r hf J) (qi_aload 0 (qi_iload 1 (qi_aload 0 (qi_get 2 6 (qi_iload 1 (qi_iald 0 (qi_invV hc_tt M_P_whyNot 2 2 (qi_if_eq (vc_P_takeOffMisfits_40 r hf J) (qi_aload 0 (qi_get 2 6 (qi_iload 1 (qi_push (nI 0) (qi_iast (vc_P_takeOffMisfits_40 r hf J))))))))))))))))))))))) lv st h
theorem sn_P_takeOffMisfits_2 {Ph : Nat → State → Prop} {h0 hf : hc_H} {r : Option Value} : qk Ph M_P_takeOffMisfits h0 hf r 2 (vc_P_takeOffMisfits_2 r hf (cx Ph M_P_takeOffMisfits h0 hf r)) := (qs_iload_n d_P_takeOffMisfits_2 rfl (qs_aload_n d_P_takeOffMisfits_3 rfl (qs_get d_P_takeOffMisfits_4 ff_P_27 (qs_icmp_ge (tgt := 46) d_P_takeOffMisfits_7 (by decide) sn_P_takeOffMisfits_46 (qs_aload_n d_P_takeOffMisfits_10 rfl (qs_get d_P_takeOffMisfits_11 ff_P_24 (qs_iload_n d_P_takeOffMisfits_14 rfl (qs_iaload d_P_takeOffMisfits_15 (qs_if_eq (tgt := 40) d_P_takeOffMisfits_16 (by decide) sn_P_takeOffMisfits_40 (qs_aload_n d_P_takeOffMisfits_19 rfl (qs_iload_n d_P_takeOffMisfits_20 rfl (qs_aload_n d_P_takeOffMisfits_21 rfl (qs_get d_P_takeOffMisfits_22 ff_P_24 (qs_iload_n d_P_takeOffMisfits_25 rfl (qs_iaload d_P_takeOffMisfits_26 (qs_invV hc_Ph_tt (fun _ _ _ => trivial) d_P_takeOffMisfits_27 zz_P_whyNot wk_471 ⟨wk_472, wk_473⟩ ⟨_, rfl, rfl⟩ ⟨by decide, by decide⟩ (qs_if_eq (tgt := 40) d_P_takeOffMisfits_30 (by decide) sn_P_takeOffMisfits_40 (qs_aload_n d_P_takeOffMisfits_33 rfl (qs_get d_P_takeOffMisfits_34 ff_P_24 (qs_iload_n d_P_takeOffMisfits_37 rfl (qs_iconst d_P_takeOffMisfits_38 (by decide) (qs_iastore d_P_takeOffMisfits_39 sn_P_takeOffMisfits_40))))))))))))))))))))))
def vc_P_takeOffMisfits_0 (r : Option Value) (hf : hc_H) (J : Nat → hc_K) (lv : hc_L) (st : List Value) (h : hc_H) : Prop := (qi_push (nI 0) (qi_istore 1 (J 2))) lv st h
theorem sn_P_takeOffMisfits_0 {Ph : Nat → State → Prop} {h0 hf : hc_H} {r : Option Value} : qk Ph M_P_takeOffMisfits h0 hf r 0 (vc_P_takeOffMisfits_0 r hf (cx Ph M_P_takeOffMisfits h0 hf r)) := (qs_iconst d_P_takeOffMisfits_0 (by decide) (qs_istore_n d_P_takeOffMisfits_1 rfl (by decide) (fun _ _ _ h9 => h9)))
/-! BalancedLine$Plan.roundedUp(II)I -/
abbrev M_P_roundedUp : hc_M := (⟨"BalancedLine$Plan", "roundedUp", "(II)I"⟩, prog_4_method_34_code, 2, (some .int), 0, 0)
theorem d_P_roundedUp_0 : decode (mC M_P_roundedUp) 0 = .ok (.iload_n 1, 1) := by decide +kernel
theorem d_P_roundedUp_1 : decode (mC M_P_roundedUp) 1 = .ok (.ifCond .le 13, 3) := by decide +kernel
theorem d_P_roundedUp_4 : decode (mC M_P_roundedUp) 4 = .ok (.iload_n 0, 1) := by decide +kernel
theorem d_P_roundedUp_5 : decode (mC M_P_roundedUp) 5 = .ok (.iload_n 1, 1) := by decide +kernel
theorem d_P_roundedUp_6 : decode (mC M_P_roundedUp) 6 = .ok (.iadd, 1) := by decide +kernel
theorem d_P_roundedUp_7 : decode (mC M_P_roundedUp) 7 = .ok (.iconst 1, 1) := by decide +kernel
theorem d_P_roundedUp_8 : decode (mC M_P_roundedUp) 8 = .ok (.isub, 1) := by decide +kernel
theorem d_P_roundedUp_9 : decode (mC M_P_roundedUp) 9 = .ok (.iload_n 1, 1) := by decide +kernel
theorem d_P_roundedUp_10 : decode (mC M_P_roundedUp) 10 = .ok (.idiv, 1) := by decide +kernel
theorem d_P_roundedUp_11 : decode (mC M_P_roundedUp) 11 = .ok (.goto 4, 3) := by decide +kernel
theorem d_P_roundedUp_14 : decode (mC M_P_roundedUp) 14 = .ok (.iconst 0, 1) := by decide +kernel
theorem d_P_roundedUp_15 : decode (mC M_P_roundedUp) 15 = .ok (.ireturn, 1) := by decide +kernel
def vc_P_roundedUp_15 (r : Option Value) (hf : hc_H) (J : Nat → hc_K) (lv : hc_L) (st : List Value) (h : hc_H) : Prop := (qi_iret r hf) lv st h
theorem sn_P_roundedUp_15 {Ph : Nat → State → Prop} {h0 hf : hc_H} {r : Option Value} : qk Ph M_P_roundedUp h0 hf r 15 (vc_P_roundedUp_15 r hf (cx Ph M_P_roundedUp h0 hf r)) := (qs_iret d_P_roundedUp_15 rfl)
def vc_P_roundedUp_14 (r : Option Value) (hf : hc_H) (J : Nat → hc_K) (lv : hc_L) (st : List Value) (h : hc_H) : Prop := (qi_push (nI 0) (vc_P_roundedUp_15 r hf J)) lv st h
theorem sn_P_roundedUp_14 {Ph : Nat → State → Prop} {h0 hf : hc_H} {r : Option Value} : qk Ph M_P_roundedUp h0 hf r 14 (vc_P_roundedUp_14 r hf (cx Ph M_P_roundedUp h0 hf r)) := (qs_iconst d_P_roundedUp_14 (by decide) sn_P_roundedUp_15)
def vc_P_roundedUp_0 (r : Option Value) (hf : hc_H) (J : Nat → hc_K) (lv : hc_L) (st : List Value) (h : hc_H) : Prop := (qi_iload 1 (qi_if_le (vc_P_roundedUp_14 r hf J) (qi_iload 0 (qi_iload 1 (qi_iadd (qi_push (nI 1) (qi_isub (qi_iload 1 (qi_idiv (vc_P_roundedUp_15 r hf J)))))))))) lv st h
theorem sn_P_roundedUp_0 {Ph : Nat → State → Prop} {h0 hf : hc_H} {r : Option Value} : qk Ph M_P_roundedUp h0 hf r 0 (vc_P_roundedUp_0 r hf (cx Ph M_P_roundedUp h0 hf r)) := (qs_iload_n d_P_roundedUp_0 rfl (qs_if_le (tgt := 14) d_P_roundedUp_1 (by decide) sn_P_roundedUp_14 (qs_iload_n d_P_roundedUp_4 rfl (qs_iload_n d_P_roundedUp_5 rfl (qs_iadd d_P_roundedUp_6 (qs_iconst d_P_roundedUp_7 (by decide) (qs_isub d_P_roundedUp_8 (qs_iload_n d_P_roundedUp_9 rfl (qs_idiv d_P_roundedUp_10 (qs_goto (tgt := 15) d_P_roundedUp_11 (by decide) sn_P_roundedUp_15))))))))))
theorem zz_P_total : hc_z M_P_total 0 := ⟨wk_625, wk_56, by decide +kernel⟩
theorem zz_P_roundedUp : hc_z M_P_roundedUp 2 := ⟨wk_629, wk_56, by decide +kernel⟩
/-! BalancedLine$Plan.floorOfAllTimes()I -/
abbrev M_P_floorOfAllTimes : hc_M := (⟨"BalancedLine$Plan", "floorOfAllTimes", "()I"⟩, prog_4_method_30_code, 1, (some .int), 2, 43)
theorem d_P_floorOfAllTimes_0 : decode (mC M_P_floorOfAllTimes) 0 = .ok (.aload_n 0, 1) := by decide +kernel
theorem d_P_floorOfAllTimes_1 : decode (mC M_P_floorOfAllTimes) 1 = .ok (.invokevirtual 99, 3) := by decide +kernel
theorem d_P_floorOfAllTimes_4 : decode (mC M_P_floorOfAllTimes) 4 = .ok (.aload_n 0, 1) := by decide +kernel
theorem d_P_floorOfAllTimes_5 : decode (mC M_P_floorOfAllTimes) 5 = .ok (.getfield 31, 3) := by decide +kernel
theorem d_P_floorOfAllTimes_8 : decode (mC M_P_floorOfAllTimes) 8 = .ok (.invokestatic 102, 3) := by decide +kernel
theorem d_P_floorOfAllTimes_11 : decode (mC M_P_floorOfAllTimes) 11 = .ok (.ireturn, 1) := by decide +kernel
def vc_P_floorOfAllTimes_0 (r : Option Value) (hf : hc_H) (J : Nat → hc_K) (lv : hc_L) (st : List Value) (h : hc_H) : Prop := (qi_aload 0 (qi_invV hc_tt M_P_total 0 2 (qi_aload 0 (qi_get 2 1 (qi_invS hc_tt M_P_roundedUp 2 (qi_iret r hf)))))) lv st h
theorem sn_P_floorOfAllTimes_0 {Ph : Nat → State → Prop} {h0 hf : hc_H} {r : Option Value} : qk Ph M_P_floorOfAllTimes h0 hf r 0 (vc_P_floorOfAllTimes_0 r hf (cx Ph M_P_floorOfAllTimes h0 hf r)) := (qs_aload_n d_P_floorOfAllTimes_0 rfl (qs_invV hc_Ph_tt (fun _ _ _ => trivial) d_P_floorOfAllTimes_1 zz_P_total wk_622 ⟨wk_623, wk_624⟩ ⟨_, rfl, rfl⟩ ⟨by decide, by decide⟩ (qs_aload_n d_P_floorOfAllTimes_4 rfl (qs_get d_P_floorOfAllTimes_5 ff_P_31 (qs_invS hc_Ph_tt (fun _ _ _ => trivial) d_P_floorOfAllTimes_8 zz_P_roundedUp wk_627 wk_628 ⟨by decide, by decide⟩ (qs_iret d_P_floorOfAllTimes_11 rfl))))))
/-! BalancedLine$Plan.floorOfHalves()I -/
abbrev M_P_floorOfHalves : hc_M := (⟨"BalancedLine$Plan", "floorOfHalves", "()I"⟩, prog_4_method_31_code, 4, (some .int), 1, 21)
theorem d_P_floorOfHalves_0 : decode (mC M_P_floorOfHalves) 0 = .ok (.iconst 0, 1) := by decide +kernel
theorem d_P_floorOfHalves_1 : decode (mC M_P_floorOfHalves) 1 = .ok (.istore_n 1, 1) := by decide +kernel
theorem d_P_floorOfHalves_2 : decode (mC M_P_floorOfHalves) 2 = .ok (.iconst 0, 1) := by decide +kernel
theorem d_P_floorOfHalves_3 : decode (mC M_P_floorOfHalves) 3 = .ok (.istore_n 2, 1) := by decide +kernel
theorem d_P_floorOfHalves_4 : decode (mC M_P_floorOfHalves) 4 = .ok (.iconst 0, 1) := by decide +kernel
theorem d_P_floorOfHalves_5 : decode (mC M_P_floorOfHalves) 5 = .ok (.istore_n 3, 1) := by decide +kernel
theorem d_P_floorOfHalves_6 : decode (mC M_P_floorOfHalves) 6 = .ok (.iload_n 3, 1) := by decide +kernel
theorem d_P_floorOfHalves_7 : decode (mC M_P_floorOfHalves) 7 = .ok (.aload_n 0, 1) := by decide +kernel
theorem d_P_floorOfHalves_8 : decode (mC M_P_floorOfHalves) 8 = .ok (.getfield 27, 3) := by decide +kernel
theorem d_P_floorOfHalves_11 : decode (mC M_P_floorOfHalves) 11 = .ok (.if_icmp .ge 55, 3) := by decide +kernel
theorem d_P_floorOfHalves_14 : decode (mC M_P_floorOfHalves) 14 = .ok (.iload_n 1, 1) := by decide +kernel
theorem d_P_floorOfHalves_15 : decode (mC M_P_floorOfHalves) 15 = .ok (.iconst 2, 1) := by decide +kernel
theorem d_P_floorOfHalves_16 : decode (mC M_P_floorOfHalves) 16 = .ok (.aload_n 0, 1) := by decide +kernel
theorem d_P_floorOfHalves_17 : decode (mC M_P_floorOfHalves) 17 = .ok (.getfield 9, 3) := by decide +kernel
theorem d_P_floorOfHalves_20 : decode (mC M_P_floorOfHalves) 20 = .ok (.iload_n 3, 1) := by decide +kernel
theorem d_P_floorOfHalves_21 : decode (mC M_P_floorOfHalves) 21 = .ok (.iaload, 1) := by decide +kernel
theorem d_P_floorOfHalves_22 : decode (mC M_P_floorOfHalves) 22 = .ok (.imul, 1) := by decide +kernel
theorem d_P_floorOfHalves_23 : decode (mC M_P_floorOfHalves) 23 = .ok (.aload_n 0, 1) := by decide +kernel
theorem d_P_floorOfHalves_24 : decode (mC M_P_floorOfHalves) 24 = .ok (.getfield 31, 3) := by decide +kernel
theorem d_P_floorOfHalves_27 : decode (mC M_P_floorOfHalves) 27 = .ok (.if_icmp .le 7, 3) := by decide +kernel
theorem d_P_floorOfHalves_30 : decode (mC M_P_floorOfHalves) 30 = .ok (.iconst 1, 1) := by decide +kernel
theorem d_P_floorOfHalves_31 : decode (mC M_P_floorOfHalves) 31 = .ok (.goto 4, 3) := by decide +kernel
theorem d_P_floorOfHalves_34 : decode (mC M_P_floorOfHalves) 34 = .ok (.iconst 0, 1) := by decide +kernel
theorem d_P_floorOfHalves_35 : decode (mC M_P_floorOfHalves) 35 = .ok (.iadd, 1) := by decide +kernel
theorem d_P_floorOfHalves_36 : decode (mC M_P_floorOfHalves) 36 = .ok (.istore_n 1, 1) := by decide +kernel
theorem d_P_floorOfHalves_37 : decode (mC M_P_floorOfHalves) 37 = .ok (.iload_n 2, 1) := by decide +kernel
theorem d_P_floorOfHalves_38 : decode (mC M_P_floorOfHalves) 38 = .ok (.iconst 2, 1) := by decide +kernel
theorem d_P_floorOfHalves_39 : decode (mC M_P_floorOfHalves) 39 = .ok (.aload_n 0, 1) := by decide +kernel
theorem d_P_floorOfHalves_40 : decode (mC M_P_floorOfHalves) 40 = .ok (.getfield 9, 3) := by decide +kernel
theorem d_P_floorOfHalves_43 : decode (mC M_P_floorOfHalves) 43 = .ok (.iload_n 3, 1) := by decide +kernel
theorem d_P_floorOfHalves_44 : decode (mC M_P_floorOfHalves) 44 = .ok (.iaload, 1) := by decide +kernel
theorem d_P_floorOfHalves_45 : decode (mC M_P_floorOfHalves) 45 = .ok (.imul, 1) := by decide +kernel
theorem d_P_floorOfHalves_46 : decode (mC M_P_floorOfHalves) 46 = .ok (.aload_n 0, 1) := by decide +kernel
theorem d_P_floorOfHalves_47 : decode (mC M_P_floorOfHalves) 47 = .ok (.getfield 31, 3) := by decide +kernel
theorem d_P_floorOfHalves_50 : decode (mC M_P_floorOfHalves) 50 = .ok (.if_icmp .ne 7, 3) := by decide +kernel
theorem d_P_floorOfHalves_53 : decode (mC M_P_floorOfHalves) 53 = .ok (.iconst 1, 1) := by decide +kernel
theorem d_P_floorOfHalves_54 : decode (mC M_P_floorOfHalves) 54 = .ok (.goto 4, 3) := by decide +kernel
theorem d_P_floorOfHalves_57 : decode (mC M_P_floorOfHalves) 57 = .ok (.iconst 0, 1) := by decide +kernel
theorem d_P_floorOfHalves_58 : decode (mC M_P_floorOfHalves) 58 = .ok (.iadd, 1) := by decide +kernel
theorem d_P_floorOfHalves_59 : decode (mC M_P_floorOfHalves) 59 = .ok (.istore_n 2, 1) := by decide +kernel
theorem d_P_floorOfHalves_60 : decode (mC M_P_floorOfHalves) 60 = .ok (.iinc 3 1, 3) := by decide +kernel
theorem d_P_floorOfHalves_63 : decode (mC M_P_floorOfHalves) 63 = .ok (.goto (-57), 3) := by decide +kernel
theorem d_P_floorOfHalves_66 : decode (mC M_P_floorOfHalves) 66 = .ok (.iload_n 1, 1) := by decide +kernel
theorem d_P_floorOfHalves_67 : decode (mC M_P_floorOfHalves) 67 = .ok (.iload_n 2, 1) := by decide +kernel
theorem d_P_floorOfHalves_68 : decode (mC M_P_floorOfHalves) 68 = .ok (.iconst 2, 1) := by decide +kernel
theorem d_P_floorOfHalves_69 : decode (mC M_P_floorOfHalves) 69 = .ok (.invokestatic 102, 3) := by decide +kernel
theorem d_P_floorOfHalves_72 : decode (mC M_P_floorOfHalves) 72 = .ok (.iadd, 1) := by decide +kernel
theorem d_P_floorOfHalves_73 : decode (mC M_P_floorOfHalves) 73 = .ok (.ireturn, 1) := by decide +kernel
def vc_P_floorOfHalves_66 (r : Option Value) (hf : hc_H) (J : Nat → hc_K) (lv : hc_L) (st : List Value) (h : hc_H) : Prop := (qi_iload 1 (qi_iload 2 (qi_push (nI 2) (qi_invS hc_tt M_P_roundedUp 2 (qi_iadd (qi_iret r hf)))))) lv st h
theorem sn_P_floorOfHalves_66 {Ph : Nat → State → Prop} {h0 hf : hc_H} {r : Option Value} : qk Ph M_P_floorOfHalves h0 hf r 66 (vc_P_floorOfHalves_66 r hf (cx Ph M_P_floorOfHalves h0 hf r)) := (qs_iload_n d_P_floorOfHalves_66 rfl (qs_iload_n d_P_floorOfHalves_67 rfl (qs_iconst d_P_floorOfHalves_68 (by decide) (qs_invS hc_Ph_tt (fun _ _ _ => trivial) d_P_floorOfHalves_69 zz_P_roundedUp wk_627 wk_628 ⟨by decide, by decide⟩ (qs_iadd d_P_floorOfHalves_72 (qs_iret d_P_floorOfHalves_73 rfl))))))
def vc_P_floorOfHalves_58 (r : Option Value) (hf : hc_H) (J : Nat → hc_K) (lv : hc_L) (st : List Value) (h : hc_H) : Prop := (qi_iadd (qi_istore 2 (qi_iinc 3 (nI 1) (J 6)))) lv st h
theorem sn_P_floorOfHalves_58 {Ph : Nat → State → Prop} {h0 hf : hc_H} {r : Option Value} : qk Ph M_P_floorOfHalves h0 hf r 58 (vc_P_floorOfHalves_58 r hf (cx Ph M_P_floorOfHalves h0 hf r)) := (qs_iadd d_P_floorOfHalves_58 (qs_istore_n d_P_floorOfHalves_59 rfl (by decide) (qs_iinc d_P_floorOfHalves_60 (by decide) (by decide) (qs_goto (tgt := 6) d_P_floorOfHalves_63 (by decide) (fun _ _ _ h9 => h9)))))
def vc_P_floorOfHalves_57 (r : Option Value) (hf : hc_H) (J : Nat → hc_K) (lv : hc_L) (st : List Value) (h : hc_H) : Prop := (qi_push (nI 0) (vc_P_floorOfHalves_58 r hf J)) lv st h
theorem sn_P_floorOfHalves_57 {Ph : Nat → State → Prop} {h0 hf : hc_H} {r : Option Value} : qk Ph M_P_floorOfHalves h0 hf r 57 (vc_P_floorOfHalves_57 r hf (cx Ph M_P_floorOfHalves h0 hf r)) := (qs_iconst d_P_floorOfHalves_57 (by decide) sn_P_floorOfHalves_58)
def vc_P_floorOfHalves_35 (r : Option Value) (hf : hc_H) (J : Nat → hc_K) (lv : hc_L) (st : List Value) (h : hc_H) : Prop := (qi_iadd (qi_istore 1 (qi_iload 2 (qi_push (nI 2) (qi_aload 0 (qi_get 2 2 (qi_iload 3 (qi_iald 0 (qi_imul (qi_aload 0 (qi_get 2 1 (qi_icmp_ne (vc_P_floorOfHalves_57 r hf J) (qi_push (nI 1) (vc_P_floorOfHalves_58 r hf J)))))))))))))) lv st h
theorem sn_P_floorOfHalves_35 {Ph : Nat → State → Prop} {h0 hf : hc_H} {r : Option Value} : qk Ph M_P_floorOfHalves h0 hf r 35 (vc_P_floorOfHalves_35 r hf (cx Ph M_P_floorOfHalves h0 hf r)) := (qs_iadd d_P_floorOfHalves_35 (qs_istore_n d_P_floorOfHalves_36 rfl (by decide) (qs_iload_n d_P_floorOfHalves_37 rfl (qs_iconst d_P_floorOfHalves_38 (by decide) (qs_aload_n d_P_floorOfHalves_39 rfl (qs_get d_P_floorOfHalves_40 ff_P_9 (qs_iload_n d_P_floorOfHalves_43 rfl (qs_iaload d_P_floorOfHalves_44 (qs_imul d_P_floorOfHalves_45 (qs_aload_n d_P_floorOfHalves_46 rfl (qs_get d_P_floorOfHalves_47 ff_P_31 (qs_icmp_ne (tgt := 57) d_P_floorOfHalves_50 (by decide) sn_P_floorOfHalves_57 (qs_iconst d_P_floorOfHalves_53 (by decide) (qs_goto (tgt := 58) d_P_floorOfHalves_54 (by decide) sn_P_floorOfHalves_58))))))))))))))
def vc_P_floorOfHalves_34 (r : Option Value) (hf : hc_H) (J : Nat → hc_K) (lv : hc_L) (st : List Value) (h : hc_H) : Prop := (qi_push (nI 0) (vc_P_floorOfHalves_35 r hf J)) lv st h
theorem sn_P_floorOfHalves_34 {Ph : Nat → State → Prop} {h0 hf : hc_H} {r : Option Value} : qk Ph M_P_floorOfHalves h0 hf r 34 (vc_P_floorOfHalves_34 r hf (cx Ph M_P_floorOfHalves h0 hf r)) := (qs_iconst d_P_floorOfHalves_34 (by decide) sn_P_floorOfHalves_35)
def vc_P_floorOfHalves_6 (r : Option Value) (hf : hc_H) (J : Nat → hc_K) (lv : hc_L) (st : List Value) (h : hc_H) : Prop := (qi_iload 3 (qi_aload 0 (qi_get 2 0 (qi_icmp_ge (vc_P_floorOfHalves_66 r hf J) (qi_iload 1 (qi_push (nI 2) (qi_aload 0 (qi_get 2 2 (qi_iload 3 (qi_iald 0 (qi_imul (qi_aload 0 (qi_get 2 1 (qi_icmp_le (vc_P_floorOfHalves_34 r hf J) (qi_push (nI 1) (vc_P_floorOfHalves_35 r hf J)))))))))))))))) lv st h
theorem sn_P_floorOfHalves_6 {Ph : Nat → State → Prop} {h0 hf : hc_H} {r : Option Value} : qk Ph M_P_floorOfHalves h0 hf r 6 (vc_P_floorOfHalves_6 r hf (cx Ph M_P_floorOfHalves h0 hf r)) := (qs_iload_n d_P_floorOfHalves_6 rfl (qs_aload_n d_P_floorOfHalves_7 rfl (qs_get d_P_floorOfHalves_8 ff_P_27 (qs_icmp_ge (tgt := 66) d_P_floorOfHalves_11 (by decide) sn_P_floorOfHalves_66 (qs_iload_n d_P_floorOfHalves_14 rfl (qs_iconst d_P_floorOfHalves_15 (by decide) (qs_aload_n d_P_floorOfHalves_16 rfl (qs_get d_P_floorOfHalves_17 ff_P_9 (qs_iload_n d_P_floorOfHalves_20 rfl (qs_iaload d_P_floorOfHalves_21 (qs_imul d_P_floorOfHalves_22 (qs_aload_n d_P_floorOfHalves_23 rfl (qs_get d_P_floorOfHalves_24 ff_P_31 (qs_icmp_le (tgt := 34) d_P_floorOfHalves_27 (by decide) sn_P_floorOfHalves_34 (qs_iconst d_P_floorOfHalves_30 (by decide) (qs_goto (tgt := 35) d_P_floorOfHalves_31 (by decide) sn_P_floorOfHalves_35))))))))))))))))
def vc_P_floorOfHalves_0 (r : Option Value) (hf : hc_H) (J : Nat → hc_K) (lv : hc_L) (st : List Value) (h : hc_H) : Prop := (qi_push (nI 0) (qi_istore 1 (qi_push (nI 0) (qi_istore 2 (qi_push (nI 0) (qi_istore 3 (J 6))))))) lv st h
theorem sn_P_floorOfHalves_0 {Ph : Nat → State → Prop} {h0 hf : hc_H} {r : Option Value} : qk Ph M_P_floorOfHalves h0 hf r 0 (vc_P_floorOfHalves_0 r hf (cx Ph M_P_floorOfHalves h0 hf r)) := (qs_iconst d_P_floorOfHalves_0 (by decide) (qs_istore_n d_P_floorOfHalves_1 rfl (by decide) (qs_iconst d_P_floorOfHalves_2 (by decide) (qs_istore_n d_P_floorOfHalves_3 rfl (by decide) (qs_iconst d_P_floorOfHalves_4 (by decide) (qs_istore_n d_P_floorOfHalves_5 rfl (by decide) (fun _ _ _ h9 => h9)))))))
theorem zz_P_allAhead : hc_z M_P_allAhead 1 := ⟨wk_641, wk_56, by decide +kernel⟩
/-! BalancedLine$Plan.floorOfChains()I -/
abbrev M_P_floorOfChains : hc_M := (⟨"BalancedLine$Plan", "floorOfChains", "()I"⟩, prog_4_method_32_code, 3, (some .int), 1, 24)
theorem d_P_floorOfChains_0 : decode (mC M_P_floorOfChains) 0 = .ok (.iconst 0, 1) := by decide +kernel
theorem d_P_floorOfChains_1 : decode (mC M_P_floorOfChains) 1 = .ok (.istore_n 1, 1) := by decide +kernel
theorem d_P_floorOfChains_2 : decode (mC M_P_floorOfChains) 2 = .ok (.iconst 0, 1) := by decide +kernel
theorem d_P_floorOfChains_3 : decode (mC M_P_floorOfChains) 3 = .ok (.istore_n 2, 1) := by decide +kernel
theorem d_P_floorOfChains_4 : decode (mC M_P_floorOfChains) 4 = .ok (.iload_n 2, 1) := by decide +kernel
theorem d_P_floorOfChains_5 : decode (mC M_P_floorOfChains) 5 = .ok (.aload_n 0, 1) := by decide +kernel
theorem d_P_floorOfChains_6 : decode (mC M_P_floorOfChains) 6 = .ok (.getfield 27, 3) := by decide +kernel
theorem d_P_floorOfChains_9 : decode (mC M_P_floorOfChains) 9 = .ok (.if_icmp .ge 27, 3) := by decide +kernel
theorem d_P_floorOfChains_12 : decode (mC M_P_floorOfChains) 12 = .ok (.iload_n 1, 1) := by decide +kernel
theorem d_P_floorOfChains_13 : decode (mC M_P_floorOfChains) 13 = .ok (.aload_n 0, 1) := by decide +kernel
theorem d_P_floorOfChains_14 : decode (mC M_P_floorOfChains) 14 = .ok (.aload_n 0, 1) := by decide +kernel
theorem d_P_floorOfChains_15 : decode (mC M_P_floorOfChains) 15 = .ok (.iload_n 2, 1) := by decide +kernel
theorem d_P_floorOfChains_16 : decode (mC M_P_floorOfChains) 16 = .ok (.invokevirtual 105, 3) := by decide +kernel
theorem d_P_floorOfChains_19 : decode (mC M_P_floorOfChains) 19 = .ok (.iconst 1, 1) := by decide +kernel
theorem d_P_floorOfChains_20 : decode (mC M_P_floorOfChains) 20 = .ok (.iload_n 2, 1) := by decide +kernel
theorem d_P_floorOfChains_21 : decode (mC M_P_floorOfChains) 21 = .ok (.ishl, 1) := by decide +kernel
theorem d_P_floorOfChains_22 : decode (mC M_P_floorOfChains) 22 = .ok (.ior, 1) := by decide +kernel
theorem d_P_floorOfChains_23 : decode (mC M_P_floorOfChains) 23 = .ok (.invokevirtual 71, 3) := by decide +kernel
theorem d_P_floorOfChains_26 : decode (mC M_P_floorOfChains) 26 = .ok (.invokestatic 74, 3) := by decide +kernel
theorem d_P_floorOfChains_29 : decode (mC M_P_floorOfChains) 29 = .ok (.istore_n 1, 1) := by decide +kernel
theorem d_P_floorOfChains_30 : decode (mC M_P_floorOfChains) 30 = .ok (.iinc 2 1, 3) := by decide +kernel
theorem d_P_floorOfChains_33 : decode (mC M_P_floorOfChains) 33 = .ok (.goto (-29), 3) := by decide +kernel
theorem d_P_floorOfChains_36 : decode (mC M_P_floorOfChains) 36 = .ok (.iload_n 1, 1) := by decide +kernel
theorem d_P_floorOfChains_37 : decode (mC M_P_floorOfChains) 37 = .ok (.aload_n 0, 1) := by decide +kernel
theorem d_P_floorOfChains_38 : decode (mC M_P_floorOfChains) 38 = .ok (.getfield 31, 3) := by decide +kernel
theorem d_P_floorOfChains_41 : decode (mC M_P_floorOfChains) 41 = .ok (.invokestatic 102, 3) := by decide +kernel
theorem d_P_floorOfChains_44 : decode (mC M_P_floorOfChains) 44 = .ok (.ireturn, 1) := by decide +kernel
def vc_P_floorOfChains_36 (r : Option Value) (hf : hc_H) (J : Nat → hc_K) (lv : hc_L) (st : List Value) (h : hc_H) : Prop := (qi_iload 1 (qi_aload 0 (qi_get 2 1 (qi_invS hc_tt M_P_roundedUp 2 (qi_iret r hf))))) lv st h
theorem sn_P_floorOfChains_36 {Ph : Nat → State → Prop} {h0 hf : hc_H} {r : Option Value} : qk Ph M_P_floorOfChains h0 hf r 36 (vc_P_floorOfChains_36 r hf (cx Ph M_P_floorOfChains h0 hf r)) := (qs_iload_n d_P_floorOfChains_36 rfl (qs_aload_n d_P_floorOfChains_37 rfl (qs_get d_P_floorOfChains_38 ff_P_31 (qs_invS hc_Ph_tt (fun _ _ _ => trivial) d_P_floorOfChains_41 zz_P_roundedUp wk_627 wk_628 ⟨by decide, by decide⟩ (qs_iret d_P_floorOfChains_44 rfl)))))
def vc_P_floorOfChains_4 (r : Option Value) (hf : hc_H) (J : Nat → hc_K) (lv : hc_L) (st : List Value) (h : hc_H) : Prop := (qi_iload 2 (qi_aload 0 (qi_get 2 0 (qi_icmp_ge (vc_P_floorOfChains_36 r hf J) (qi_iload 1 (qi_aload 0 (qi_aload 0 (qi_iload 2 (qi_invV hc_tt M_P_allAhead 1 2 (qi_push (nI 1) (qi_iload 2 (qi_ishl (qi_ior (qi_invV hc_tt M_P_timeOf 1 2 (qi_max (qi_istore 1 (qi_iinc 2 (nI 1) (J 4)))))))))))))))))) lv st h
theorem sn_P_floorOfChains_4 {Ph : Nat → State → Prop} {h0 hf : hc_H} {r : Option Value} : qk Ph M_P_floorOfChains h0 hf r 4 (vc_P_floorOfChains_4 r hf (cx Ph M_P_floorOfChains h0 hf r)) := (qs_iload_n d_P_floorOfChains_4 rfl (qs_aload_n d_P_floorOfChains_5 rfl (qs_get d_P_floorOfChains_6 ff_P_27 (qs_icmp_ge (tgt := 36) d_P_floorOfChains_9 (by decide) sn_P_floorOfChains_36 (qs_iload_n d_P_floorOfChains_12 rfl (qs_aload_n d_P_floorOfChains_13 rfl (qs_aload_n d_P_floorOfChains_14 rfl (qs_iload_n d_P_floorOfChains_15 rfl (qs_invV hc_Ph_tt (fun _ _ _ => trivial) d_P_floorOfChains_16 zz_P_allAhead wk_638 ⟨wk_639, wk_640⟩ ⟨_, rfl, rfl⟩ ⟨by decide, by decide⟩ (qs_iconst d_P_floorOfChains_19 (by decide) (qs_iload_n d_P_floorOfChains_20 rfl (qs_ishl d_P_floorOfChains_21 (qs_ior d_P_floorOfChains_22 (qs_invV hc_Ph_tt (fun _ _ _ => trivial) d_P_floorOfChains_23 zz_P_timeOf wk_626 ⟨wk_544, wk_545⟩ ⟨_, rfl, rfl⟩ ⟨by decide, by decide⟩ (qs_max d_P_floorOfChains_26 wk_613 (by decide) (by decide) (qs_istore_n d_P_floorOfChains_29 rfl (by decide) (qs_iinc d_P_floorOfChains_30 (by decide) (by decide) (qs_goto (tgt := 4) d_P_floorOfChains_33 (by decide) (fun _ _ _ h9 => h9)))))))))))))))))))
def vc_P_floorOfChains_0 (r : Option Value) (hf : hc_H) (J : Nat → hc_K) (lv : hc_L) (st : List Value) (h : hc_H) : Prop := (qi_push (nI 0) (qi_istore 1 (qi_push (nI 0) (qi_istore 2 (J 4))))) lv st h
theorem sn_P_floorOfChains_0 {Ph : Nat → State → Prop} {h0 hf : hc_H} {r : Option Value} : qk Ph M_P_floorOfChains h0 hf r 0 (vc_P_floorOfChains_0 r hf (cx Ph M_P_floorOfChains h0 hf r)) := (qs_iconst d_P_floorOfChains_0 (by decide) (qs_istore_n d_P_floorOfChains_1 rfl (by decide) (qs_iconst d_P_floorOfChains_2 (by decide) (qs_istore_n d_P_floorOfChains_3 rfl (by decide) (fun _ _ _ h9 => h9)))))
theorem zz_P_floorOfAllTimes : hc_z M_P_floorOfAllTimes 0 := ⟨wk_621, wk_56, by decide +kernel⟩
theorem zz_P_floorOfHalves : hc_z M_P_floorOfHalves 0 := ⟨wk_633, wk_56, by decide +kernel⟩
theorem zz_P_floorOfChains : hc_z M_P_floorOfChains 0 := ⟨wk_637, wk_56, by decide +kernel⟩
/-! BalancedLine$Plan.highestFloor()I -/
abbrev M_P_highestFloor : hc_M := (⟨"BalancedLine$Plan", "highestFloor", "()I"⟩, prog_4_method_33_code, 1, (some .int), 3, 63)
theorem d_P_highestFloor_0 : decode (mC M_P_highestFloor) 0 = .ok (.aload_n 0, 1) := by decide +kernel
theorem d_P_highestFloor_1 : decode (mC M_P_highestFloor) 1 = .ok (.invokevirtual 108, 3) := by decide +kernel
theorem d_P_highestFloor_4 : decode (mC M_P_highestFloor) 4 = .ok (.aload_n 0, 1) := by decide +kernel
theorem d_P_highestFloor_5 : decode (mC M_P_highestFloor) 5 = .ok (.invokevirtual 111, 3) := by decide +kernel
theorem d_P_highestFloor_8 : decode (mC M_P_highestFloor) 8 = .ok (.aload_n 0, 1) := by decide +kernel
theorem d_P_highestFloor_9 : decode (mC M_P_highestFloor) 9 = .ok (.invokevirtual 114, 3) := by decide +kernel
theorem d_P_highestFloor_12 : decode (mC M_P_highestFloor) 12 = .ok (.invokestatic 74, 3) := by decide +kernel
theorem d_P_highestFloor_15 : decode (mC M_P_highestFloor) 15 = .ok (.invokestatic 74, 3) := by decide +kernel
theorem d_P_highestFloor_18 : decode (mC M_P_highestFloor) 18 = .ok (.ireturn, 1) := by decide +kernel
def vc_P_highestFloor_0 (r : Option Value) (hf : hc_H) (J : Nat → hc_K) (lv : hc_L) (st : List Value) (h : hc_H) : Prop := (qi_aload 0 (qi_invV hc_tt M_P_floorOfAllTimes 0 2 (qi_aload 0 (qi_invV hc_tt M_P_floorOfHalves 0 2 (qi_aload 0 (qi_invV hc_tt M_P_floorOfChains 0 2 (qi_max (qi_max (qi_iret r hf))))))))) lv st h
theorem sn_P_highestFloor_0 {Ph : Nat → State → Prop} {h0 hf : hc_H} {r : Option Value} : qk Ph M_P_highestFloor h0 hf r 0 (vc_P_highestFloor_0 r hf (cx Ph M_P_highestFloor h0 hf r)) := (qs_aload_n d_P_highestFloor_0 rfl (qs_invV hc_Ph_tt (fun _ _ _ => trivial) d_P_highestFloor_1 zz_P_floorOfAllTimes wk_618 ⟨wk_619, wk_620⟩ ⟨_, rfl, rfl⟩ ⟨by decide, by decide⟩ (qs_aload_n d_P_highestFloor_4 rfl (qs_invV hc_Ph_tt (fun _ _ _ => trivial) d_P_highestFloor_5 zz_P_floorOfHalves wk_630 ⟨wk_631, wk_632⟩ ⟨_, rfl, rfl⟩ ⟨by decide, by decide⟩ (qs_aload_n d_P_highestFloor_8 rfl (qs_invV hc_Ph_tt (fun _ _ _ => trivial) d_P_highestFloor_9 zz_P_floorOfChains wk_634 ⟨wk_635, wk_636⟩ ⟨_, rfl, rfl⟩ ⟨by decide, by decide⟩ (qs_max d_P_highestFloor_12 wk_613 (by decide) (by decide) (qs_max d_P_highestFloor_15 wk_613 (by decide) (by decide) (qs_iret d_P_highestFloor_18 rfl)))))))))
