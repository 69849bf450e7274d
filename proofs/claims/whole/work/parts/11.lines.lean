/-! BalancedLine$Lines.<init>(I)V -/
abbrev M_L_init : hc_M := (⟨"BalancedLine$Lines", "<init>", "(I)V"⟩, prog_2_method_1_code, 3, none, 1, 21)
theorem d_L_init_0 : decode (mC M_L_init) 0 = .ok (.aload_n 0, 1) := by decide +kernel
theorem d_L_init_1 : decode (mC M_L_init) 1 = .ok (.invokespecial 3, 3) := by decide +kernel
theorem d_L_init_4 : decode (mC M_L_init) 4 = .ok (.aload_n 0, 1) := by decide +kernel
theorem d_L_init_5 : decode (mC M_L_init) 5 = .ok (.bipush 13, 2) := by decide +kernel
theorem d_L_init_7 : decode (mC M_L_init) 7 = .ok (.newarray .int, 2) := by decide +kernel
theorem d_L_init_9 : decode (mC M_L_init) 9 = .ok (.putfield 9, 3) := by decide +kernel
theorem d_L_init_12 : decode (mC M_L_init) 12 = .ok (.aload_n 0, 1) := by decide +kernel
theorem d_L_init_13 : decode (mC M_L_init) 13 = .ok (.bipush 14, 2) := by decide +kernel
theorem d_L_init_15 : decode (mC M_L_init) 15 = .ok (.newarray .int, 2) := by decide +kernel
theorem d_L_init_17 : decode (mC M_L_init) 17 = .ok (.putfield 15, 3) := by decide +kernel
theorem d_L_init_20 : decode (mC M_L_init) 20 = .ok (.iconst 1, 1) := by decide +kernel
theorem d_L_init_21 : decode (mC M_L_init) 21 = .ok (.iconst 0, 1) := by decide +kernel
theorem d_L_init_22 : decode (mC M_L_init) 22 = .ok (.iload_n 1, 1) := by decide +kernel
theorem d_L_init_23 : decode (mC M_L_init) 23 = .ok (.bipush 12, 2) := by decide +kernel
theorem d_L_init_25 : decode (mC M_L_init) 25 = .ok (.invokestatic 18, 3) := by decide +kernel
theorem d_L_init_28 : decode (mC M_L_init) 28 = .ok (.invokestatic 24, 3) := by decide +kernel
theorem d_L_init_31 : decode (mC M_L_init) 31 = .ok (.ishl, 1) := by decide +kernel
theorem d_L_init_32 : decode (mC M_L_init) 32 = .ok (.istore_n 2, 1) := by decide +kernel
theorem d_L_init_33 : decode (mC M_L_init) 33 = .ok (.aload_n 0, 1) := by decide +kernel
theorem d_L_init_34 : decode (mC M_L_init) 34 = .ok (.iload_n 2, 1) := by decide +kernel
theorem d_L_init_35 : decode (mC M_L_init) 35 = .ok (.newarray .int, 2) := by decide +kernel
theorem d_L_init_37 : decode (mC M_L_init) 37 = .ok (.putfield 27, 3) := by decide +kernel
theorem d_L_init_40 : decode (mC M_L_init) 40 = .ok (.aload_n 0, 1) := by decide +kernel
theorem d_L_init_41 : decode (mC M_L_init) 41 = .ok (.iload_n 2, 1) := by decide +kernel
theorem d_L_init_42 : decode (mC M_L_init) 42 = .ok (.newarray .int, 2) := by decide +kernel
theorem d_L_init_44 : decode (mC M_L_init) 44 = .ok (.putfield 30, 3) := by decide +kernel
theorem d_L_init_47 : decode (mC M_L_init) 47 = .ok (.aload_n 0, 1) := by decide +kernel
theorem d_L_init_48 : decode (mC M_L_init) 48 = .ok (.iload_n 2, 1) := by decide +kernel
theorem d_L_init_49 : decode (mC M_L_init) 49 = .ok (.newarray .int, 2) := by decide +kernel
theorem d_L_init_51 : decode (mC M_L_init) 51 = .ok (.putfield 33, 3) := by decide +kernel
theorem d_L_init_54 : decode (mC M_L_init) 54 = .ok (.aload_n 0, 1) := by decide +kernel
theorem d_L_init_55 : decode (mC M_L_init) 55 = .ok (.iload_n 2, 1) := by decide +kernel
theorem d_L_init_56 : decode (mC M_L_init) 56 = .ok (.newarray .int, 2) := by decide +kernel
theorem d_L_init_58 : decode (mC M_L_init) 58 = .ok (.putfield 36, 3) := by decide +kernel
theorem d_L_init_61 : decode (mC M_L_init) 61 = .ok (.aload_n 0, 1) := by decide +kernel
theorem d_L_init_62 : decode (mC M_L_init) 62 = .ok (.iload_n 2, 1) := by decide +kernel
theorem d_L_init_63 : decode (mC M_L_init) 63 = .ok (.newarray .int, 2) := by decide +kernel
theorem d_L_init_65 : decode (mC M_L_init) 65 = .ok (.putfield 39, 3) := by decide +kernel
theorem d_L_init_68 : decode (mC M_L_init) 68 = .ok (.aload_n 0, 1) := by decide +kernel
theorem d_L_init_69 : decode (mC M_L_init) 69 = .ok (.iload_n 2, 1) := by decide +kernel
theorem d_L_init_70 : decode (mC M_L_init) 70 = .ok (.newarray .int, 2) := by decide +kernel
theorem d_L_init_72 : decode (mC M_L_init) 72 = .ok (.putfield 42, 3) := by decide +kernel
theorem d_L_init_75 : decode (mC M_L_init) 75 = .ok (.aload_n 0, 1) := by decide +kernel
theorem d_L_init_76 : decode (mC M_L_init) 76 = .ok (.iload_n 2, 1) := by decide +kernel
theorem d_L_init_77 : decode (mC M_L_init) 77 = .ok (.newarray .int, 2) := by decide +kernel
theorem d_L_init_79 : decode (mC M_L_init) 79 = .ok (.putfield 45, 3) := by decide +kernel
theorem d_L_init_82 : decode (mC M_L_init) 82 = .ok (.aload_n 0, 1) := by decide +kernel
theorem d_L_init_83 : decode (mC M_L_init) 83 = .ok (.iload_n 2, 1) := by decide +kernel
theorem d_L_init_84 : decode (mC M_L_init) 84 = .ok (.newarray .boolean, 2) := by decide +kernel
theorem d_L_init_86 : decode (mC M_L_init) 86 = .ok (.putfield 48, 3) := by decide +kernel
theorem d_L_init_89 : decode (mC M_L_init) 89 = .ok (.aload_n 0, 1) := by decide +kernel
theorem d_L_init_90 : decode (mC M_L_init) 90 = .ok (.iload_n 2, 1) := by decide +kernel
theorem d_L_init_91 : decode (mC M_L_init) 91 = .ok (.newarray .long, 2) := by decide +kernel
theorem d_L_init_93 : decode (mC M_L_init) 93 = .ok (.putfield 52, 3) := by decide +kernel
theorem d_L_init_96 : decode (mC M_L_init) 96 = .ok (.aload_n 0, 1) := by decide +kernel
theorem d_L_init_97 : decode (mC M_L_init) 97 = .ok (.iload_n 2, 1) := by decide +kernel
theorem d_L_init_98 : decode (mC M_L_init) 98 = .ok (.newarray .long, 2) := by decide +kernel
theorem d_L_init_100 : decode (mC M_L_init) 100 = .ok (.putfield 56, 3) := by decide +kernel
theorem d_L_init_103 : decode (mC M_L_init) 103 = .ok (.return_, 1) := by decide +kernel
def vc_L_init_0 (r : Option Value) (hf : hc_H) (J : Nat → hc_K) (lv : hc_L) (st : List Value) (h : hc_H) : Prop := (qi_aload 0 (qi_obj (qi_aload 0 (qi_push (nI 13) (qi_newa 0 (qi_put 0 10 (.array .int) (qi_aload 0 (qi_push (nI 14) (qi_newa 0 (qi_put 0 11 (.array .int) (qi_push (nI 1) (qi_push (nI 0) (qi_iload 1 (qi_push (nI 12) (qi_min (qi_max (qi_ishl (qi_istore 2 (qi_aload 0 (qi_iload 2 (qi_newa 0 (qi_put 0 0 (.array .int) (qi_aload 0 (qi_iload 2 (qi_newa 0 (qi_put 0 1 (.array .int) (qi_aload 0 (qi_iload 2 (qi_newa 0 (qi_put 0 2 (.array .int) (qi_aload 0 (qi_iload 2 (qi_newa 0 (qi_put 0 3 (.array .int) (qi_aload 0 (qi_iload 2 (qi_newa 0 (qi_put 0 4 (.array .int) (qi_aload 0 (qi_iload 2 (qi_newa 0 (qi_put 0 5 (.array .int) (qi_aload 0 (qi_iload 2 (qi_newa 0 (qi_put 0 6 (.array .int) (qi_aload 0 (qi_iload 2 (qi_newa 1 (qi_put 0 7 (.array .boolean) (qi_aload 0 (qi_iload 2 (qi_newa 2 (qi_put 0 8 (.array .long) (qi_aload 0 (qi_iload 2 (qi_newa 2 (qi_put 0 9 (.array .long) (qi_vret r hf))))))))))))))))))))))))))))))))))))))))))))))))))))))))))) lv st h
theorem sn_L_init_0 {Ph : Nat → State → Prop} {h0 hf : hc_H} {r : Option Value} : qk Ph M_L_init h0 hf r 0 (vc_L_init_0 r hf (cx Ph M_L_init h0 hf r)) := (qs_aload_n d_L_init_0 rfl (qs_obj d_L_init_1 wk_304 wk_75 wk_obj (by decide) (by decide) (qs_aload_n d_L_init_4 rfl (qs_bipush d_L_init_5 (by decide) (qs_new_int d_L_init_7 (qs_putF d_L_init_9 ff_L_9 rfl ⟨_, _, _, rfl, rfl, rfl, by decide +kernel⟩ (qs_aload_n d_L_init_12 rfl (qs_bipush d_L_init_13 (by decide) (qs_new_int d_L_init_15 (qs_putF d_L_init_17 ff_L_15 rfl ⟨_, _, _, rfl, rfl, rfl, by decide +kernel⟩ (qs_iconst d_L_init_20 (by decide) (qs_iconst d_L_init_21 (by decide) (qs_iload_n d_L_init_22 rfl (qs_bipush d_L_init_23 (by decide) (qs_min d_L_init_25 wk_305 (by decide) (by decide) (qs_max d_L_init_28 wk_308 (by decide) (by decide) (qs_ishl d_L_init_31 (qs_istore_n d_L_init_32 rfl (by decide) (qs_aload_n d_L_init_33 rfl (qs_iload_n d_L_init_34 rfl (qs_new_int d_L_init_35 (qs_putF d_L_init_37 ff_L_27 rfl ⟨_, _, _, rfl, rfl, rfl, by decide +kernel⟩ (qs_aload_n d_L_init_40 rfl (qs_iload_n d_L_init_41 rfl (qs_new_int d_L_init_42 (qs_putF d_L_init_44 ff_L_30 rfl ⟨_, _, _, rfl, rfl, rfl, by decide +kernel⟩ (qs_aload_n d_L_init_47 rfl (qs_iload_n d_L_init_48 rfl (qs_new_int d_L_init_49 (qs_putF d_L_init_51 ff_L_33 rfl ⟨_, _, _, rfl, rfl, rfl, by decide +kernel⟩ (qs_aload_n d_L_init_54 rfl (qs_iload_n d_L_init_55 rfl (qs_new_int d_L_init_56 (qs_putF d_L_init_58 ff_L_36 rfl ⟨_, _, _, rfl, rfl, rfl, by decide +kernel⟩ (qs_aload_n d_L_init_61 rfl (qs_iload_n d_L_init_62 rfl (qs_new_int d_L_init_63 (qs_putF d_L_init_65 ff_L_39 rfl ⟨_, _, _, rfl, rfl, rfl, by decide +kernel⟩ (qs_aload_n d_L_init_68 rfl (qs_iload_n d_L_init_69 rfl (qs_new_int d_L_init_70 (qs_putF d_L_init_72 ff_L_42 rfl ⟨_, _, _, rfl, rfl, rfl, by decide +kernel⟩ (qs_aload_n d_L_init_75 rfl (qs_iload_n d_L_init_76 rfl (qs_new_int d_L_init_77 (qs_putF d_L_init_79 ff_L_45 rfl ⟨_, _, _, rfl, rfl, rfl, by decide +kernel⟩ (qs_aload_n d_L_init_82 rfl (qs_iload_n d_L_init_83 rfl (qs_new_boolean d_L_init_84 (qs_putF d_L_init_86 ff_L_48 rfl ⟨_, _, _, rfl, rfl, rfl, by decide +kernel⟩ (qs_aload_n d_L_init_89 rfl (qs_iload_n d_L_init_90 rfl (qs_new_long d_L_init_91 (qs_putF d_L_init_93 ff_L_52 rfl ⟨_, _, _, rfl, rfl, rfl, by decide +kernel⟩ (qs_aload_n d_L_init_96 rfl (qs_iload_n d_L_init_97 rfl (qs_new_long d_L_init_98 (qs_putF d_L_init_100 ff_L_56 rfl ⟨_, _, _, rfl, rfl, rfl, by decide +kernel⟩ (qs_vret d_L_init_103 rfl)))))))))))))))))))))))))))))))))))))))))))))))))))))))))))
/-! BalancedLine$Lines.hasRoomFor(I)Z -/
abbrev M_L_hasRoomFor : hc_M := (⟨"BalancedLine$Lines", "hasRoomFor", "(I)Z"⟩, prog_2_method_2_code, 2, (some .boolean), 0, 0)
theorem d_L_hasRoomFor_0 : decode (mC M_L_hasRoomFor) 0 = .ok (.iconst 1, 1) := by decide +kernel
theorem d_L_hasRoomFor_1 : decode (mC M_L_hasRoomFor) 1 = .ok (.iload_n 1, 1) := by decide +kernel
theorem d_L_hasRoomFor_2 : decode (mC M_L_hasRoomFor) 2 = .ok (.ishl, 1) := by decide +kernel
theorem d_L_hasRoomFor_3 : decode (mC M_L_hasRoomFor) 3 = .ok (.aload_n 0, 1) := by decide +kernel
theorem d_L_hasRoomFor_4 : decode (mC M_L_hasRoomFor) 4 = .ok (.getfield 27, 3) := by decide +kernel
theorem d_L_hasRoomFor_7 : decode (mC M_L_hasRoomFor) 7 = .ok (.arraylength, 1) := by decide +kernel
theorem d_L_hasRoomFor_8 : decode (mC M_L_hasRoomFor) 8 = .ok (.if_icmp .gt 7, 3) := by decide +kernel
theorem d_L_hasRoomFor_11 : decode (mC M_L_hasRoomFor) 11 = .ok (.iconst 1, 1) := by decide +kernel
theorem d_L_hasRoomFor_12 : decode (mC M_L_hasRoomFor) 12 = .ok (.goto 4, 3) := by decide +kernel
theorem d_L_hasRoomFor_15 : decode (mC M_L_hasRoomFor) 15 = .ok (.iconst 0, 1) := by decide +kernel
theorem d_L_hasRoomFor_16 : decode (mC M_L_hasRoomFor) 16 = .ok (.ireturn, 1) := by decide +kernel
def vc_L_hasRoomFor_16 (r : Option Value) (hf : hc_H) (J : Nat → hc_K) (lv : hc_L) (st : List Value) (h : hc_H) : Prop := (qi_zret r hf) lv st h
theorem sn_L_hasRoomFor_16 {Ph : Nat → State → Prop} {h0 hf : hc_H} {r : Option Value} : qk Ph M_L_hasRoomFor h0 hf r 16 (vc_L_hasRoomFor_16 r hf (cx Ph M_L_hasRoomFor h0 hf r)) := (qs_zret d_L_hasRoomFor_16 rfl)
def vc_L_hasRoomFor_15 (r : Option Value) (hf : hc_H) (J : Nat → hc_K) (lv : hc_L) (st : List Value) (h : hc_H) : Prop := (qi_push (nI 0) (vc_L_hasRoomFor_16 r hf J)) lv st h
theorem sn_L_hasRoomFor_15 {Ph : Nat → State → Prop} {h0 hf : hc_H} {r : Option Value} : qk Ph M_L_hasRoomFor h0 hf r 15 (vc_L_hasRoomFor_15 r hf (cx Ph M_L_hasRoomFor h0 hf r)) := (qs_iconst d_L_hasRoomFor_15 (by decide) sn_L_hasRoomFor_16)
def vc_L_hasRoomFor_0 (r : Option Value) (hf : hc_H) (J : Nat → hc_K) (lv : hc_L) (st : List Value) (h : hc_H) : Prop := (qi_push (nI 1) (qi_iload 1 (qi_ishl (qi_aload 0 (qi_get 0 0 (qi_alen (qi_icmp_gt (vc_L_hasRoomFor_15 r hf J) (qi_push (nI 1) (vc_L_hasRoomFor_16 r hf J))))))))) lv st h
theorem sn_L_hasRoomFor_0 {Ph : Nat → State → Prop} {h0 hf : hc_H} {r : Option Value} : qk Ph M_L_hasRoomFor h0 hf r 0 (vc_L_hasRoomFor_0 r hf (cx Ph M_L_hasRoomFor h0 hf r)) := (qs_iconst d_L_hasRoomFor_0 (by decide) (qs_iload_n d_L_hasRoomFor_1 rfl (qs_ishl d_L_hasRoomFor_2 (qs_aload_n d_L_hasRoomFor_3 rfl (qs_get d_L_hasRoomFor_4 ff_L_27 (qs_alen d_L_hasRoomFor_7 (qs_icmp_gt (tgt := 15) d_L_hasRoomFor_8 (by decide) sn_L_hasRoomFor_15 (qs_iconst d_L_hasRoomFor_11 (by decide) (qs_goto (tgt := 16) d_L_hasRoomFor_12 (by decide) sn_L_hasRoomFor_16)))))))))
/-! BalancedLine$Lines.placeShift(I)I -/
abbrev M_L_placeShift : hc_M := (⟨"BalancedLine$Lines", "placeShift", "(I)I"⟩, prog_2_method_3_code, 1, (some .int), 0, 0)
theorem d_L_placeShift_0 : decode (mC M_L_placeShift) 0 = .ok (.iconst 4, 1) := by decide +kernel
theorem d_L_placeShift_1 : decode (mC M_L_placeShift) 1 = .ok (.bipush 11, 2) := by decide +kernel
theorem d_L_placeShift_3 : decode (mC M_L_placeShift) 3 = .ok (.iload_n 0, 1) := by decide +kernel
theorem d_L_placeShift_4 : decode (mC M_L_placeShift) 4 = .ok (.isub, 1) := by decide +kernel
theorem d_L_placeShift_5 : decode (mC M_L_placeShift) 5 = .ok (.imul, 1) := by decide +kernel
theorem d_L_placeShift_6 : decode (mC M_L_placeShift) 6 = .ok (.ireturn, 1) := by decide +kernel
def vc_L_placeShift_0 (r : Option Value) (hf : hc_H) (J : Nat → hc_K) (lv : hc_L) (st : List Value) (h : hc_H) : Prop := (qi_push (nI 4) (qi_push (nI 11) (qi_iload 0 (qi_isub (qi_imul (qi_iret r hf)))))) lv st h
theorem sn_L_placeShift_0 {Ph : Nat → State → Prop} {h0 hf : hc_H} {r : Option Value} : qk Ph M_L_placeShift h0 hf r 0 (vc_L_placeShift_0 r hf (cx Ph M_L_placeShift h0 hf r)) := (qs_iconst d_L_placeShift_0 (by decide) (qs_bipush d_L_placeShift_1 (by decide) (qs_iload_n d_L_placeShift_3 rfl (qs_isub d_L_placeShift_4 (qs_imul d_L_placeShift_5 (qs_iret d_L_placeShift_6 rfl))))))
/-! BalancedLine$Lines.fit(I)V -/
abbrev M_L_fit : hc_M := (⟨"BalancedLine$Lines", "fit", "(I)V"⟩, prog_2_method_5_code, 4, none, 0, 0)
theorem d_L_fit_0 : decode (mC M_L_fit) 0 = .ok (.aload_n 0, 1) := by decide +kernel
theorem d_L_fit_1 : decode (mC M_L_fit) 1 = .ok (.iload_n 1, 1) := by decide +kernel
theorem d_L_fit_2 : decode (mC M_L_fit) 2 = .ok (.putfield 95, 3) := by decide +kernel
theorem d_L_fit_5 : decode (mC M_L_fit) 5 = .ok (.aload_n 0, 1) := by decide +kernel
theorem d_L_fit_6 : decode (mC M_L_fit) 6 = .ok (.iconst 0, 1) := by decide +kernel
theorem d_L_fit_7 : decode (mC M_L_fit) 7 = .ok (.putfield 96, 3) := by decide +kernel
theorem d_L_fit_10 : decode (mC M_L_fit) 10 = .ok (.aload_n 0, 1) := by decide +kernel
theorem d_L_fit_11 : decode (mC M_L_fit) 11 = .ok (.getfield 39, 3) := by decide +kernel
theorem d_L_fit_14 : decode (mC M_L_fit) 14 = .ok (.iconst 0, 1) := by decide +kernel
theorem d_L_fit_15 : decode (mC M_L_fit) 15 = .ok (.sipush 4096, 3) := by decide +kernel
theorem d_L_fit_18 : decode (mC M_L_fit) 18 = .ok (.iastore, 1) := by decide +kernel
theorem d_L_fit_19 : decode (mC M_L_fit) 19 = .ok (.iconst 1, 1) := by decide +kernel
theorem d_L_fit_20 : decode (mC M_L_fit) 20 = .ok (.istore_n 2, 1) := by decide +kernel
theorem d_L_fit_21 : decode (mC M_L_fit) 21 = .ok (.iload_n 2, 1) := by decide +kernel
theorem d_L_fit_22 : decode (mC M_L_fit) 22 = .ok (.aload_n 0, 1) := by decide +kernel
theorem d_L_fit_23 : decode (mC M_L_fit) 23 = .ok (.getfield 65, 3) := by decide +kernel
theorem d_L_fit_26 : decode (mC M_L_fit) 26 = .ok (.if_icmp .gt 93, 3) := by decide +kernel
theorem d_L_fit_29 : decode (mC M_L_fit) 29 = .ok (.aload_n 0, 1) := by decide +kernel
theorem d_L_fit_30 : decode (mC M_L_fit) 30 = .ok (.getfield 27, 3) := by decide +kernel
theorem d_L_fit_33 : decode (mC M_L_fit) 33 = .ok (.iload_n 2, 1) := by decide +kernel
theorem d_L_fit_34 : decode (mC M_L_fit) 34 = .ok (.iaload, 1) := by decide +kernel
theorem d_L_fit_35 : decode (mC M_L_fit) 35 = .ok (.iload_n 1, 1) := by decide +kernel
theorem d_L_fit_36 : decode (mC M_L_fit) 36 = .ok (.if_icmp .gt 31, 3) := by decide +kernel
theorem d_L_fit_39 : decode (mC M_L_fit) 39 = .ok (.aload_n 0, 1) := by decide +kernel
theorem d_L_fit_40 : decode (mC M_L_fit) 40 = .ok (.getfield 33, 3) := by decide +kernel
theorem d_L_fit_43 : decode (mC M_L_fit) 43 = .ok (.iload_n 2, 1) := by decide +kernel
theorem d_L_fit_44 : decode (mC M_L_fit) 44 = .ok (.iaload, 1) := by decide +kernel
theorem d_L_fit_45 : decode (mC M_L_fit) 45 = .ok (.iload_n 2, 1) := by decide +kernel
theorem d_L_fit_46 : decode (mC M_L_fit) 46 = .ok (.iconst (-1), 1) := by decide +kernel
theorem d_L_fit_47 : decode (mC M_L_fit) 47 = .ok (.ixor, 1) := by decide +kernel
theorem d_L_fit_48 : decode (mC M_L_fit) 48 = .ok (.iand, 1) := by decide +kernel
theorem d_L_fit_49 : decode (mC M_L_fit) 49 = .ok (.ifCond .ne 18, 3) := by decide +kernel
theorem d_L_fit_52 : decode (mC M_L_fit) 52 = .ok (.aload_n 0, 1) := by decide +kernel
theorem d_L_fit_53 : decode (mC M_L_fit) 53 = .ok (.getfield 36, 3) := by decide +kernel
theorem d_L_fit_56 : decode (mC M_L_fit) 56 = .ok (.iload_n 2, 1) := by decide +kernel
theorem d_L_fit_57 : decode (mC M_L_fit) 57 = .ok (.iaload, 1) := by decide +kernel
theorem d_L_fit_58 : decode (mC M_L_fit) 58 = .ok (.iload_n 2, 1) := by decide +kernel
theorem d_L_fit_59 : decode (mC M_L_fit) 59 = .ok (.iand, 1) := by decide +kernel
theorem d_L_fit_60 : decode (mC M_L_fit) 60 = .ok (.ifCond .ne 7, 3) := by decide +kernel
theorem d_L_fit_63 : decode (mC M_L_fit) 63 = .ok (.iconst 1, 1) := by decide +kernel
theorem d_L_fit_64 : decode (mC M_L_fit) 64 = .ok (.goto 4, 3) := by decide +kernel
theorem d_L_fit_67 : decode (mC M_L_fit) 67 = .ok (.iconst 0, 1) := by decide +kernel
theorem d_L_fit_68 : decode (mC M_L_fit) 68 = .ok (.istore_n 3, 1) := by decide +kernel
theorem d_L_fit_69 : decode (mC M_L_fit) 69 = .ok (.aload_n 0, 1) := by decide +kernel
theorem d_L_fit_70 : decode (mC M_L_fit) 70 = .ok (.getfield 39, 3) := by decide +kernel
theorem d_L_fit_73 : decode (mC M_L_fit) 73 = .ok (.iload_n 2, 1) := by decide +kernel
theorem d_L_fit_74 : decode (mC M_L_fit) 74 = .ok (.iload_n 3, 1) := by decide +kernel
theorem d_L_fit_75 : decode (mC M_L_fit) 75 = .ok (.ifCond .eq 16, 3) := by decide +kernel
theorem d_L_fit_78 : decode (mC M_L_fit) 78 = .ok (.aload_n 0, 1) := by decide +kernel
theorem d_L_fit_79 : decode (mC M_L_fit) 79 = .ok (.getfield 30, 3) := by decide +kernel
theorem d_L_fit_82 : decode (mC M_L_fit) 82 = .ok (.iload_n 2, 1) := by decide +kernel
theorem d_L_fit_83 : decode (mC M_L_fit) 83 = .ok (.iaload, 1) := by decide +kernel
theorem d_L_fit_84 : decode (mC M_L_fit) 84 = .ok (.iload_n 2, 1) := by decide +kernel
theorem d_L_fit_85 : decode (mC M_L_fit) 85 = .ok (.iconst (-1), 1) := by decide +kernel
theorem d_L_fit_86 : decode (mC M_L_fit) 86 = .ok (.ixor, 1) := by decide +kernel
theorem d_L_fit_87 : decode (mC M_L_fit) 87 = .ok (.iand, 1) := by decide +kernel
theorem d_L_fit_88 : decode (mC M_L_fit) 88 = .ok (.goto 6, 3) := by decide +kernel
theorem d_L_fit_91 : decode (mC M_L_fit) 91 = .ok (.sipush 4096, 3) := by decide +kernel
theorem d_L_fit_94 : decode (mC M_L_fit) 94 = .ok (.iastore, 1) := by decide +kernel
theorem d_L_fit_95 : decode (mC M_L_fit) 95 = .ok (.aload_n 0, 1) := by decide +kernel
theorem d_L_fit_96 : decode (mC M_L_fit) 96 = .ok (.dup, 1) := by decide +kernel
theorem d_L_fit_97 : decode (mC M_L_fit) 97 = .ok (.getfield 96, 3) := by decide +kernel
theorem d_L_fit_100 : decode (mC M_L_fit) 100 = .ok (.iload_n 3, 1) := by decide +kernel
theorem d_L_fit_101 : decode (mC M_L_fit) 101 = .ok (.ifCond .eq 7, 3) := by decide +kernel
theorem d_L_fit_104 : decode (mC M_L_fit) 104 = .ok (.iload_n 2, 1) := by decide +kernel
theorem d_L_fit_105 : decode (mC M_L_fit) 105 = .ok (.goto 4, 3) := by decide +kernel
theorem d_L_fit_108 : decode (mC M_L_fit) 108 = .ok (.iconst 0, 1) := by decide +kernel
theorem d_L_fit_109 : decode (mC M_L_fit) 109 = .ok (.ior, 1) := by decide +kernel
theorem d_L_fit_110 : decode (mC M_L_fit) 110 = .ok (.putfield 96, 3) := by decide +kernel
theorem d_L_fit_113 : decode (mC M_L_fit) 113 = .ok (.iinc 2 1, 3) := by decide +kernel
theorem d_L_fit_116 : decode (mC M_L_fit) 116 = .ok (.goto (-95), 3) := by decide +kernel
theorem d_L_fit_119 : decode (mC M_L_fit) 119 = .ok (.return_, 1) := by decide +kernel
def vc_L_fit_119 (r : Option Value) (hf : hc_H) (J : Nat → hc_K) (lv : hc_L) (st : List Value) (h : hc_H) : Prop := (qi_vret r hf) lv st h
theorem sn_L_fit_119 {Ph : Nat → State → Prop} {h0 hf : hc_H} {r : Option Value} : qk Ph M_L_fit h0 hf r 119 (vc_L_fit_119 r hf (cx Ph M_L_fit h0 hf r)) := (qs_vret d_L_fit_119 rfl)
def vc_L_fit_109 (r : Option Value) (hf : hc_H) (J : Nat → hc_K) (lv : hc_L) (st : List Value) (h : hc_H) : Prop := (qi_ior (qi_put 0 15 .int (qi_iinc 2 (nI 1) (J 21)))) lv st h
theorem sn_L_fit_109 {Ph : Nat → State → Prop} {h0 hf : hc_H} {r : Option Value} : qk Ph M_L_fit h0 hf r 109 (vc_L_fit_109 r hf (cx Ph M_L_fit h0 hf r)) := (qs_ior d_L_fit_109 (qs_put d_L_fit_110 ff_L_96 ⟨_, _, _, rfl, rfl, by decide +kernel⟩ (qs_iinc d_L_fit_113 (by decide) (by decide) (qs_goto (tgt := 21) d_L_fit_116 (by decide) (fun _ _ _ h9 => h9)))))
def vc_L_fit_108 (r : Option Value) (hf : hc_H) (J : Nat → hc_K) (lv : hc_L) (st : List Value) (h : hc_H) : Prop := (qi_push (nI 0) (vc_L_fit_109 r hf J)) lv st h
theorem sn_L_fit_108 {Ph : Nat → State → Prop} {h0 hf : hc_H} {r : Option Value} : qk Ph M_L_fit h0 hf r 108 (vc_L_fit_108 r hf (cx Ph M_L_fit h0 hf r)) := (qs_iconst d_L_fit_108 (by decide) sn_L_fit_109)
def vc_L_fit_94 (r : Option Value) (hf : hc_H) (J : Nat → hc_K) (lv : hc_L) (st : List Value) (h : hc_H) : Prop := (qi_iast (qi_aload 0 (qi_dup (qi_get 0 15 (qi_iload 3 (qi_if_eq (vc_L_fit_108 r hf J) (qi_iload 2 (vc_L_fit_109 r hf J)))))))) lv st h
theorem sn_L_fit_94 {Ph : Nat → State → Prop} {h0 hf : hc_H} {r : Option Value} : qk Ph M_L_fit h0 hf r 94 (vc_L_fit_94 r hf (cx Ph M_L_fit h0 hf r)) := (qs_iastore d_L_fit_94 (qs_aload_n d_L_fit_95 rfl (qs_dup d_L_fit_96 (qs_get d_L_fit_97 ff_L_96 (qs_iload_n d_L_fit_100 rfl (qs_if_eq (tgt := 108) d_L_fit_101 (by decide) sn_L_fit_108 (qs_iload_n d_L_fit_104 rfl (qs_goto (tgt := 109) d_L_fit_105 (by decide) sn_L_fit_109))))))))
def vc_L_fit_91 (r : Option Value) (hf : hc_H) (J : Nat → hc_K) (lv : hc_L) (st : List Value) (h : hc_H) : Prop := (qi_push (nI 4096) (vc_L_fit_94 r hf J)) lv st h
theorem sn_L_fit_91 {Ph : Nat → State → Prop} {h0 hf : hc_H} {r : Option Value} : qk Ph M_L_fit h0 hf r 91 (vc_L_fit_91 r hf (cx Ph M_L_fit h0 hf r)) := (qs_sipush d_L_fit_91 (by decide) sn_L_fit_94)
def vc_L_fit_68 (r : Option Value) (hf : hc_H) (J : Nat → hc_K) (lv : hc_L) (st : List Value) (h : hc_H) : Prop := (qi_istore 3 (qi_aload 0 (qi_get 0 4 (qi_iload 2 (qi_iload 3 (qi_if_eq (vc_L_fit_91 r hf J) (qi_aload 0 (qi_get 0 1 (qi_iload 2 (qi_iald 0 (qi_iload 2 (qi_push (-1) (qi_ixor (qi_iand (vc_L_fit_94 r hf J))))))))))))))) lv st h
theorem sn_L_fit_68 {Ph : Nat → State → Prop} {h0 hf : hc_H} {r : Option Value} : qk Ph M_L_fit h0 hf r 68 (vc_L_fit_68 r hf (cx Ph M_L_fit h0 hf r)) := (qs_istore_n d_L_fit_68 rfl (by decide) (qs_aload_n d_L_fit_69 rfl (qs_get d_L_fit_70 ff_L_39 (qs_iload_n d_L_fit_73 rfl (qs_iload_n d_L_fit_74 rfl (qs_if_eq (tgt := 91) d_L_fit_75 (by decide) sn_L_fit_91 (qs_aload_n d_L_fit_78 rfl (qs_get d_L_fit_79 ff_L_30 (qs_iload_n d_L_fit_82 rfl (qs_iaload d_L_fit_83 (qs_iload_n d_L_fit_84 rfl (qs_iconst d_L_fit_85 (by decide) (qs_ixor d_L_fit_86 (qs_iand d_L_fit_87 (qs_goto (tgt := 94) d_L_fit_88 (by decide) sn_L_fit_94)))))))))))))))
def vc_L_fit_67 (r : Option Value) (hf : hc_H) (J : Nat → hc_K) (lv : hc_L) (st : List Value) (h : hc_H) : Prop := (qi_push (nI 0) (vc_L_fit_68 r hf J)) lv st h
theorem sn_L_fit_67 {Ph : Nat → State → Prop} {h0 hf : hc_H} {r : Option Value} : qk Ph M_L_fit h0 hf r 67 (vc_L_fit_67 r hf (cx Ph M_L_fit h0 hf r)) := (qs_iconst d_L_fit_67 (by decide) sn_L_fit_68)
def vc_L_fit_21 (r : Option Value) (hf : hc_H) (J : Nat → hc_K) (lv : hc_L) (st : List Value) (h : hc_H) : Prop := (qi_iload 2 (qi_aload 0 (qi_get 0 13 (qi_icmp_gt (vc_L_fit_119 r hf J) (qi_aload 0 (qi_get 0 0 (qi_iload 2 (qi_iald 0 (qi_iload 1 (qi_icmp_gt (vc_L_fit_67 r hf J) (qi_aload 0 (qi_get 0 2 (qi_iload 2 (qi_iald 0 (qi_iload 2 (qi_push (-1) (qi_ixor (qi_iand (qi_if_ne (vc_L_fit_67 r hf J) (qi_aload 0 (qi_get 0 3 (qi_iload 2 (qi_iald 0 (qi_iload 2 (qi_iand (qi_if_ne (vc_L_fit_67 r hf J) (qi_push (nI 1) (vc_L_fit_68 r hf J)))))))))))))))))))))))))))) lv st h
theorem sn_L_fit_21 {Ph : Nat → State → Prop} {h0 hf : hc_H} {r : Option Value} : qk Ph M_L_fit h0 hf r 21 (vc_L_fit_21 r hf (cx Ph M_L_fit h0 hf r)) := (qs_iload_n d_L_fit_21 rfl (qs_aload_n d_L_fit_22 rfl (qs_get d_L_fit_23 ff_L_65 (qs_icmp_gt (tgt := 119) d_L_fit_26 (by decide) sn_L_fit_119 (qs_aload_n d_L_fit_29 rfl (qs_get d_L_fit_30 ff_L_27 (qs_iload_n d_L_fit_33 rfl (qs_iaload d_L_fit_34 (qs_iload_n d_L_fit_35 rfl (qs_icmp_gt (tgt := 67) d_L_fit_36 (by decide) sn_L_fit_67 (qs_aload_n d_L_fit_39 rfl (qs_get d_L_fit_40 ff_L_33 (qs_iload_n d_L_fit_43 rfl (qs_iaload d_L_fit_44 (qs_iload_n d_L_fit_45 rfl (qs_iconst d_L_fit_46 (by decide) (qs_ixor d_L_fit_47 (qs_iand d_L_fit_48 (qs_if_ne (tgt := 67) d_L_fit_49 (by decide) sn_L_fit_67 (qs_aload_n d_L_fit_52 rfl (qs_get d_L_fit_53 ff_L_36 (qs_iload_n d_L_fit_56 rfl (qs_iaload d_L_fit_57 (qs_iload_n d_L_fit_58 rfl (qs_iand d_L_fit_59 (qs_if_ne (tgt := 67) d_L_fit_60 (by decide) sn_L_fit_67 (qs_iconst d_L_fit_63 (by decide) (qs_goto (tgt := 68) d_L_fit_64 (by decide) sn_L_fit_68))))))))))))))))))))))))))))
def vc_L_fit_0 (r : Option Value) (hf : hc_H) (J : Nat → hc_K) (lv : hc_L) (st : List Value) (h : hc_H) : Prop := (qi_aload 0 (qi_iload 1 (qi_put 0 14 .int (qi_aload 0 (qi_push (nI 0) (qi_put 0 15 .int (qi_aload 0 (qi_get 0 4 (qi_push (nI 0) (qi_push (nI 4096) (qi_iast (qi_push (nI 1) (qi_istore 2 (J 21)))))))))))))) lv st h
theorem sn_L_fit_0 {Ph : Nat → State → Prop} {h0 hf : hc_H} {r : Option Value} : qk Ph M_L_fit h0 hf r 0 (vc_L_fit_0 r hf (cx Ph M_L_fit h0 hf r)) := (qs_aload_n d_L_fit_0 rfl (qs_iload_n d_L_fit_1 rfl (qs_put d_L_fit_2 ff_L_95 ⟨_, _, _, rfl, rfl, by decide +kernel⟩ (qs_aload_n d_L_fit_5 rfl (qs_iconst d_L_fit_6 (by decide) (qs_put d_L_fit_7 ff_L_96 ⟨_, _, _, rfl, rfl, by decide +kernel⟩ (qs_aload_n d_L_fit_10 rfl (qs_get d_L_fit_11 ff_L_39 (qs_iconst d_L_fit_14 (by decide) (qs_sipush d_L_fit_15 (by decide) (qs_iastore d_L_fit_18 (qs_iconst d_L_fit_19 (by decide) (qs_istore_n d_L_fit_20 rfl (by decide) (fun _ _ _ h9 => h9))))))))))))))
theorem zz_L_fit : hc_z M_L_fit 1 := ⟨wk_597, wk_64, by decide +kernel⟩
theorem zz_L_placeShift : hc_z M_L_placeShift 1 := ⟨wk_593, wk_64, by decide +kernel⟩
/-! BalancedLine$Lines.measure(LBalancedLine$Plan;)V -/
abbrev M_L_measure : hc_M := (⟨"BalancedLine$Lines", "measure", "(LBalancedLine$Plan;)V"⟩, prog_2_method_4_code, 8, none, 1, 23)
theorem d_L_measure_0 : decode (mC M_L_measure) 0 = .ok (.aload_n 0, 1) := by decide +kernel
theorem d_L_measure_1 : decode (mC M_L_measure) 1 = .ok (.aload_n 1, 1) := by decide +kernel
theorem d_L_measure_2 : decode (mC M_L_measure) 2 = .ok (.invokevirtual 59, 3) := by decide +kernel
theorem d_L_measure_5 : decode (mC M_L_measure) 5 = .ok (.putfield 65, 3) := by decide +kernel
theorem d_L_measure_8 : decode (mC M_L_measure) 8 = .ok (.iconst 0, 1) := by decide +kernel
theorem d_L_measure_9 : decode (mC M_L_measure) 9 = .ok (.istore_n 2, 1) := by decide +kernel
theorem d_L_measure_10 : decode (mC M_L_measure) 10 = .ok (.iload_n 2, 1) := by decide +kernel
theorem d_L_measure_11 : decode (mC M_L_measure) 11 = .ok (.aload_n 1, 1) := by decide +kernel
theorem d_L_measure_12 : decode (mC M_L_measure) 12 = .ok (.getfield 69, 3) := by decide +kernel
theorem d_L_measure_15 : decode (mC M_L_measure) 15 = .ok (.if_icmp .ge 143, 3) := by decide +kernel
theorem d_L_measure_18 : decode (mC M_L_measure) 18 = .ok (.iconst 1, 1) := by decide +kernel
theorem d_L_measure_19 : decode (mC M_L_measure) 19 = .ok (.iload_n 2, 1) := by decide +kernel
theorem d_L_measure_20 : decode (mC M_L_measure) 20 = .ok (.ishl, 1) := by decide +kernel
theorem d_L_measure_21 : decode (mC M_L_measure) 21 = .ok (.istore_n 3, 1) := by decide +kernel
theorem d_L_measure_22 : decode (mC M_L_measure) 22 = .ok (.lconst 1, 1) := by decide +kernel
theorem d_L_measure_23 : decode (mC M_L_measure) 23 = .ok (.iload_n 2, 1) := by decide +kernel
theorem d_L_measure_24 : decode (mC M_L_measure) 24 = .ok (.invokestatic 72, 3) := by decide +kernel
theorem d_L_measure_27 : decode (mC M_L_measure) 27 = .ok (.lshl, 1) := by decide +kernel
theorem d_L_measure_28 : decode (mC M_L_measure) 28 = .ok (.lstore 4, 2) := by decide +kernel
theorem d_L_measure_30 : decode (mC M_L_measure) 30 = .ok (.iconst 0, 1) := by decide +kernel
theorem d_L_measure_31 : decode (mC M_L_measure) 31 = .ok (.istore 6, 2) := by decide +kernel
theorem d_L_measure_33 : decode (mC M_L_measure) 33 = .ok (.iload 6, 2) := by decide +kernel
theorem d_L_measure_35 : decode (mC M_L_measure) 35 = .ok (.iload_n 3, 1) := by decide +kernel
theorem d_L_measure_36 : decode (mC M_L_measure) 36 = .ok (.if_icmp .ge 116, 3) := by decide +kernel
theorem d_L_measure_39 : decode (mC M_L_measure) 39 = .ok (.iload 6, 2) := by decide +kernel
theorem d_L_measure_41 : decode (mC M_L_measure) 41 = .ok (.iload_n 3, 1) := by decide +kernel
theorem d_L_measure_42 : decode (mC M_L_measure) 42 = .ok (.ior, 1) := by decide +kernel
theorem d_L_measure_43 : decode (mC M_L_measure) 43 = .ok (.istore 7, 2) := by decide +kernel
theorem d_L_measure_45 : decode (mC M_L_measure) 45 = .ok (.aload_n 0, 1) := by decide +kernel
theorem d_L_measure_46 : decode (mC M_L_measure) 46 = .ok (.getfield 27, 3) := by decide +kernel
theorem d_L_measure_49 : decode (mC M_L_measure) 49 = .ok (.iload 7, 2) := by decide +kernel
theorem d_L_measure_51 : decode (mC M_L_measure) 51 = .ok (.aload_n 0, 1) := by decide +kernel
theorem d_L_measure_52 : decode (mC M_L_measure) 52 = .ok (.getfield 27, 3) := by decide +kernel
theorem d_L_measure_55 : decode (mC M_L_measure) 55 = .ok (.iload 6, 2) := by decide +kernel
theorem d_L_measure_57 : decode (mC M_L_measure) 57 = .ok (.iaload, 1) := by decide +kernel
theorem d_L_measure_58 : decode (mC M_L_measure) 58 = .ok (.aload_n 1, 1) := by decide +kernel
theorem d_L_measure_59 : decode (mC M_L_measure) 59 = .ok (.getfield 76, 3) := by decide +kernel
theorem d_L_measure_62 : decode (mC M_L_measure) 62 = .ok (.iload_n 2, 1) := by decide +kernel
theorem d_L_measure_63 : decode (mC M_L_measure) 63 = .ok (.iaload, 1) := by decide +kernel
theorem d_L_measure_64 : decode (mC M_L_measure) 64 = .ok (.iadd, 1) := by decide +kernel
theorem d_L_measure_65 : decode (mC M_L_measure) 65 = .ok (.iastore, 1) := by decide +kernel
theorem d_L_measure_66 : decode (mC M_L_measure) 66 = .ok (.aload_n 0, 1) := by decide +kernel
theorem d_L_measure_67 : decode (mC M_L_measure) 67 = .ok (.getfield 30, 3) := by decide +kernel
theorem d_L_measure_70 : decode (mC M_L_measure) 70 = .ok (.iload 7, 2) := by decide +kernel
theorem d_L_measure_72 : decode (mC M_L_measure) 72 = .ok (.aload_n 0, 1) := by decide +kernel
theorem d_L_measure_73 : decode (mC M_L_measure) 73 = .ok (.getfield 30, 3) := by decide +kernel
theorem d_L_measure_76 : decode (mC M_L_measure) 76 = .ok (.iload 6, 2) := by decide +kernel
theorem d_L_measure_78 : decode (mC M_L_measure) 78 = .ok (.iaload, 1) := by decide +kernel
theorem d_L_measure_79 : decode (mC M_L_measure) 79 = .ok (.aload_n 1, 1) := by decide +kernel
theorem d_L_measure_80 : decode (mC M_L_measure) 80 = .ok (.getfield 79, 3) := by decide +kernel
theorem d_L_measure_83 : decode (mC M_L_measure) 83 = .ok (.iload_n 2, 1) := by decide +kernel
theorem d_L_measure_84 : decode (mC M_L_measure) 84 = .ok (.iaload, 1) := by decide +kernel
theorem d_L_measure_85 : decode (mC M_L_measure) 85 = .ok (.ior, 1) := by decide +kernel
theorem d_L_measure_86 : decode (mC M_L_measure) 86 = .ok (.iastore, 1) := by decide +kernel
theorem d_L_measure_87 : decode (mC M_L_measure) 87 = .ok (.aload_n 0, 1) := by decide +kernel
theorem d_L_measure_88 : decode (mC M_L_measure) 88 = .ok (.getfield 33, 3) := by decide +kernel
theorem d_L_measure_91 : decode (mC M_L_measure) 91 = .ok (.iload 7, 2) := by decide +kernel
theorem d_L_measure_93 : decode (mC M_L_measure) 93 = .ok (.aload_n 0, 1) := by decide +kernel
theorem d_L_measure_94 : decode (mC M_L_measure) 94 = .ok (.getfield 33, 3) := by decide +kernel
theorem d_L_measure_97 : decode (mC M_L_measure) 97 = .ok (.iload 6, 2) := by decide +kernel
theorem d_L_measure_99 : decode (mC M_L_measure) 99 = .ok (.iaload, 1) := by decide +kernel
theorem d_L_measure_100 : decode (mC M_L_measure) 100 = .ok (.aload_n 1, 1) := by decide +kernel
theorem d_L_measure_101 : decode (mC M_L_measure) 101 = .ok (.getfield 82, 3) := by decide +kernel
theorem d_L_measure_104 : decode (mC M_L_measure) 104 = .ok (.iload_n 2, 1) := by decide +kernel
theorem d_L_measure_105 : decode (mC M_L_measure) 105 = .ok (.iaload, 1) := by decide +kernel
theorem d_L_measure_106 : decode (mC M_L_measure) 106 = .ok (.ior, 1) := by decide +kernel
theorem d_L_measure_107 : decode (mC M_L_measure) 107 = .ok (.iastore, 1) := by decide +kernel
theorem d_L_measure_108 : decode (mC M_L_measure) 108 = .ok (.aload_n 0, 1) := by decide +kernel
theorem d_L_measure_109 : decode (mC M_L_measure) 109 = .ok (.getfield 36, 3) := by decide +kernel
theorem d_L_measure_112 : decode (mC M_L_measure) 112 = .ok (.iload 7, 2) := by decide +kernel
theorem d_L_measure_114 : decode (mC M_L_measure) 114 = .ok (.aload_n 0, 1) := by decide +kernel
theorem d_L_measure_115 : decode (mC M_L_measure) 115 = .ok (.getfield 36, 3) := by decide +kernel
theorem d_L_measure_118 : decode (mC M_L_measure) 118 = .ok (.iload 6, 2) := by decide +kernel
theorem d_L_measure_120 : decode (mC M_L_measure) 120 = .ok (.iaload, 1) := by decide +kernel
theorem d_L_measure_121 : decode (mC M_L_measure) 121 = .ok (.aload_n 1, 1) := by decide +kernel
theorem d_L_measure_122 : decode (mC M_L_measure) 122 = .ok (.getfield 85, 3) := by decide +kernel
theorem d_L_measure_125 : decode (mC M_L_measure) 125 = .ok (.iload_n 2, 1) := by decide +kernel
theorem d_L_measure_126 : decode (mC M_L_measure) 126 = .ok (.iaload, 1) := by decide +kernel
theorem d_L_measure_127 : decode (mC M_L_measure) 127 = .ok (.ior, 1) := by decide +kernel
theorem d_L_measure_128 : decode (mC M_L_measure) 128 = .ok (.iastore, 1) := by decide +kernel
theorem d_L_measure_129 : decode (mC M_L_measure) 129 = .ok (.aload_n 0, 1) := by decide +kernel
theorem d_L_measure_130 : decode (mC M_L_measure) 130 = .ok (.getfield 56, 3) := by decide +kernel
theorem d_L_measure_133 : decode (mC M_L_measure) 133 = .ok (.iload 7, 2) := by decide +kernel
theorem d_L_measure_135 : decode (mC M_L_measure) 135 = .ok (.aload_n 0, 1) := by decide +kernel
theorem d_L_measure_136 : decode (mC M_L_measure) 136 = .ok (.getfield 56, 3) := by decide +kernel
theorem d_L_measure_139 : decode (mC M_L_measure) 139 = .ok (.iload 6, 2) := by decide +kernel
theorem d_L_measure_141 : decode (mC M_L_measure) 141 = .ok (.laload, 1) := by decide +kernel
theorem d_L_measure_142 : decode (mC M_L_measure) 142 = .ok (.lload 4, 2) := by decide +kernel
theorem d_L_measure_144 : decode (mC M_L_measure) 144 = .ok (.lor, 1) := by decide +kernel
theorem d_L_measure_145 : decode (mC M_L_measure) 145 = .ok (.lastore, 1) := by decide +kernel
theorem d_L_measure_146 : decode (mC M_L_measure) 146 = .ok (.iinc 6 1, 3) := by decide +kernel
theorem d_L_measure_149 : decode (mC M_L_measure) 149 = .ok (.goto (-116), 3) := by decide +kernel
theorem d_L_measure_152 : decode (mC M_L_measure) 152 = .ok (.iinc 2 1, 3) := by decide +kernel
theorem d_L_measure_155 : decode (mC M_L_measure) 155 = .ok (.goto (-145), 3) := by decide +kernel
theorem d_L_measure_158 : decode (mC M_L_measure) 158 = .ok (.aload_n 0, 1) := by decide +kernel
theorem d_L_measure_159 : decode (mC M_L_measure) 159 = .ok (.aload_n 1, 1) := by decide +kernel
theorem d_L_measure_160 : decode (mC M_L_measure) 160 = .ok (.getfield 88, 3) := by decide +kernel
theorem d_L_measure_163 : decode (mC M_L_measure) 163 = .ok (.invokevirtual 91, 3) := by decide +kernel
theorem d_L_measure_166 : decode (mC M_L_measure) 166 = .ok (.return_, 1) := by decide +kernel
def vc_L_measure_158 (r : Option Value) (hf : hc_H) (J : Nat → hc_K) (lv : hc_L) (st : List Value) (h : hc_H) : Prop := (qi_aload 0 (qi_aload 1 (qi_get 2 1 (qi_invV hc_tt M_L_fit 1 0 (qi_vret r hf))))) lv st h
theorem sn_L_measure_158 {Ph : Nat → State → Prop} {h0 hf : hc_H} {r : Option Value} : qk Ph M_L_measure h0 hf r 158 (vc_L_measure_158 r hf (cx Ph M_L_measure h0 hf r)) := (qs_aload_n d_L_measure_158 rfl (qs_aload_n d_L_measure_159 rfl (qs_get d_L_measure_160 ff_L_88 (qs_invV hc_Ph_tt (fun _ _ _ => trivial) d_L_measure_163 zz_L_fit wk_594 ⟨wk_595, wk_596⟩ ⟨_, rfl, rfl⟩ ⟨by decide, by decide⟩ (qs_vret d_L_measure_166 rfl)))))
def vc_L_measure_152 (r : Option Value) (hf : hc_H) (J : Nat → hc_K) (lv : hc_L) (st : List Value) (h : hc_H) : Prop := (qi_iinc 2 (nI 1) (J 10)) lv st h
theorem sn_L_measure_152 {Ph : Nat → State → Prop} {h0 hf : hc_H} {r : Option Value} : qk Ph M_L_measure h0 hf r 152 (vc_L_measure_152 r hf (cx Ph M_L_measure h0 hf r)) := (qs_iinc d_L_measure_152 (by decide) (by decide) (qs_goto (tgt := 10) d_L_measure_155 (by decide) (fun _ _ _ h9 => h9)))
def vc_L_measure_33 (r : Option Value) (hf : hc_H) (J : Nat → hc_K) (lv : hc_L) (st : List Value) (h : hc_H) : Prop := (qi_iload 6 (qi_iload 3 (qi_icmp_ge (vc_L_measure_152 r hf J) (qi_iload 6 (qi_iload 3 (qi_ior (qi_istore 7 (qi_aload 0 (qi_get 0 0 (qi_iload 7 (qi_aload 0 (qi_get 0 0 (qi_iload 6 (qi_iald 0 (qi_aload 1 (qi_get 2 2 (qi_iload 2 (qi_iald 0 (qi_iadd (qi_iast (qi_aload 0 (qi_get 0 1 (qi_iload 7 (qi_aload 0 (qi_get 0 1 (qi_iload 6 (qi_iald 0 (qi_aload 1 (qi_get 2 3 (qi_iload 2 (qi_iald 0 (qi_ior (qi_iast (qi_aload 0 (qi_get 0 2 (qi_iload 7 (qi_aload 0 (qi_get 0 2 (qi_iload 6 (qi_iald 0 (qi_aload 1 (qi_get 2 5 (qi_iload 2 (qi_iald 0 (qi_ior (qi_iast (qi_aload 0 (qi_get 0 3 (qi_iload 7 (qi_aload 0 (qi_get 0 3 (qi_iload 6 (qi_iald 0 (qi_aload 1 (qi_get 2 4 (qi_iload 2 (qi_iald 0 (qi_ior (qi_iast (qi_aload 0 (qi_get 0 9 (qi_iload 7 (qi_aload 0 (qi_get 0 9 (qi_iload 6 (qi_lald (qi_lload 4 (qi_lor (qi_last (qi_iinc 6 (nI 1) (J 33))))))))))))))))))))))))))))))))))))))))))))))))))))))))))))))))))))))) lv st h
theorem sn_L_measure_33 {Ph : Nat → State → Prop} {h0 hf : hc_H} {r : Option Value} : qk Ph M_L_measure h0 hf r 33 (vc_L_measure_33 r hf (cx Ph M_L_measure h0 hf r)) := (qs_iload d_L_measure_33 (qs_iload_n d_L_measure_35 rfl (qs_icmp_ge (tgt := 152) d_L_measure_36 (by decide) sn_L_measure_152 (qs_iload d_L_measure_39 (qs_iload_n d_L_measure_41 rfl (qs_ior d_L_measure_42 (qs_istore d_L_measure_43 (by decide) (qs_aload_n d_L_measure_45 rfl (qs_get d_L_measure_46 ff_L_27 (qs_iload d_L_measure_49 (qs_aload_n d_L_measure_51 rfl (qs_get d_L_measure_52 ff_L_27 (qs_iload d_L_measure_55 (qs_iaload d_L_measure_57 (qs_aload_n d_L_measure_58 rfl (qs_get d_L_measure_59 ff_L_76 (qs_iload_n d_L_measure_62 rfl (qs_iaload d_L_measure_63 (qs_iadd d_L_measure_64 (qs_iastore d_L_measure_65 (qs_aload_n d_L_measure_66 rfl (qs_get d_L_measure_67 ff_L_30 (qs_iload d_L_measure_70 (qs_aload_n d_L_measure_72 rfl (qs_get d_L_measure_73 ff_L_30 (qs_iload d_L_measure_76 (qs_iaload d_L_measure_78 (qs_aload_n d_L_measure_79 rfl (qs_get d_L_measure_80 ff_L_79 (qs_iload_n d_L_measure_83 rfl (qs_iaload d_L_measure_84 (qs_ior d_L_measure_85 (qs_iastore d_L_measure_86 (qs_aload_n d_L_measure_87 rfl (qs_get d_L_measure_88 ff_L_33 (qs_iload d_L_measure_91 (qs_aload_n d_L_measure_93 rfl (qs_get d_L_measure_94 ff_L_33 (qs_iload d_L_measure_97 (qs_iaload d_L_measure_99 (qs_aload_n d_L_measure_100 rfl (qs_get d_L_measure_101 ff_L_82 (qs_iload_n d_L_measure_104 rfl (qs_iaload d_L_measure_105 (qs_ior d_L_measure_106 (qs_iastore d_L_measure_107 (qs_aload_n d_L_measure_108 rfl (qs_get d_L_measure_109 ff_L_36 (qs_iload d_L_measure_112 (qs_aload_n d_L_measure_114 rfl (qs_get d_L_measure_115 ff_L_36 (qs_iload d_L_measure_118 (qs_iaload d_L_measure_120 (qs_aload_n d_L_measure_121 rfl (qs_get d_L_measure_122 ff_L_85 (qs_iload_n d_L_measure_125 rfl (qs_iaload d_L_measure_126 (qs_ior d_L_measure_127 (qs_iastore d_L_measure_128 (qs_aload_n d_L_measure_129 rfl (qs_get d_L_measure_130 ff_L_56 (qs_iload d_L_measure_133 (qs_aload_n d_L_measure_135 rfl (qs_get d_L_measure_136 ff_L_56 (qs_iload d_L_measure_139 (qs_laload d_L_measure_141 (qs_lload d_L_measure_142 (qs_lor d_L_measure_144 (qs_lastore d_L_measure_145 (qs_iinc d_L_measure_146 (by decide) (by decide) (qs_goto (tgt := 33) d_L_measure_149 (by decide) (fun _ _ _ h9 => h9))))))))))))))))))))))))))))))))))))))))))))))))))))))))))))))))))))))))
def vc_L_measure_10 (r : Option Value) (hf : hc_H) (J : Nat → hc_K) (lv : hc_L) (st : List Value) (h : hc_H) : Prop := (qi_iload 2 (qi_aload 1 (qi_get 2 0 (qi_icmp_ge (vc_L_measure_158 r hf J) (qi_push (nI 1) (qi_iload 2 (qi_ishl (qi_istore 3 (qi_pushl (lN 1) (qi_iload 2 (qi_invS hc_tt M_L_placeShift 1 (qi_lshl (qi_lstore 4 (qi_push (nI 0) (qi_istore 6 (J 33)))))))))))))))) lv st h
theorem sn_L_measure_10 {Ph : Nat → State → Prop} {h0 hf : hc_H} {r : Option Value} : qk Ph M_L_measure h0 hf r 10 (vc_L_measure_10 r hf (cx Ph M_L_measure h0 hf r)) := (qs_iload_n d_L_measure_10 rfl (qs_aload_n d_L_measure_11 rfl (qs_get d_L_measure_12 ff_L_69 (qs_icmp_ge (tgt := 158) d_L_measure_15 (by decide) sn_L_measure_158 (qs_iconst d_L_measure_18 (by decide) (qs_iload_n d_L_measure_19 rfl (qs_ishl d_L_measure_20 (qs_istore_n d_L_measure_21 rfl (by decide) (qs_lconst d_L_measure_22 rfl (qs_iload_n d_L_measure_23 rfl (qs_invS hc_Ph_tt (fun _ _ _ => trivial) d_L_measure_24 zz_L_placeShift wk_591 wk_592 ⟨by decide, by decide⟩ (qs_lshl d_L_measure_27 (qs_lstore d_L_measure_28 (by decide) (qs_iconst d_L_measure_30 (by decide) (qs_istore d_L_measure_31 (by decide) (fun _ _ _ h9 => h9))))))))))))))))
def vc_L_measure_0 (r : Option Value) (hf : hc_H) (J : Nat → hc_K) (lv : hc_L) (st : List Value) (h : hc_H) : Prop := (qi_aload 0 (qi_aload 1 (qi_invV hc_tt M_P_everyTask 0 2 (qi_put 0 13 .int (qi_push (nI 0) (qi_istore 2 (J 10))))))) lv st h
theorem sn_L_measure_0 {Ph : Nat → State → Prop} {h0 hf : hc_H} {r : Option Value} : qk Ph M_L_measure h0 hf r 0 (vc_L_measure_0 r hf (cx Ph M_L_measure h0 hf r)) := (qs_aload_n d_L_measure_0 rfl (qs_aload_n d_L_measure_1 rfl (qs_invV hc_Ph_tt (fun _ _ _ => trivial) d_L_measure_2 zz_P_everyTask wk_587 ⟨wk_588, wk_589⟩ ⟨_, rfl, rfl⟩ ⟨by decide, by decide⟩ (qs_put d_L_measure_5 ff_L_65 ⟨_, _, _, rfl, rfl, by decide +kernel⟩ (qs_iconst d_L_measure_8 (by decide) (qs_istore_n d_L_measure_9 rfl (by decide) (fun _ _ _ h9 => h9)))))))
/-! BalancedLine$Lines.freeAll()V -/
abbrev M_L_freeAll : hc_M := (⟨"BalancedLine$Lines", "freeAll", "()V"⟩, prog_2_method_6_code, 1, none, 1, 23)
theorem d_L_freeAll_0 : decode (mC M_L_freeAll) 0 = .ok (.aload_n 0, 1) := by decide +kernel
theorem d_L_freeAll_1 : decode (mC M_L_freeAll) 1 = .ok (.iconst 0, 1) := by decide +kernel
theorem d_L_freeAll_2 : decode (mC M_L_freeAll) 2 = .ok (.putfield 99, 3) := by decide +kernel
theorem d_L_freeAll_5 : decode (mC M_L_freeAll) 5 = .ok (.aload_n 0, 1) := by decide +kernel
theorem d_L_freeAll_6 : decode (mC M_L_freeAll) 6 = .ok (.getfield 15, 3) := by decide +kernel
theorem d_L_freeAll_9 : decode (mC M_L_freeAll) 9 = .ok (.iconst 0, 1) := by decide +kernel
theorem d_L_freeAll_10 : decode (mC M_L_freeAll) 10 = .ok (.invokestatic 102, 3) := by decide +kernel
theorem d_L_freeAll_13 : decode (mC M_L_freeAll) 13 = .ok (.return_, 1) := by decide +kernel
def vc_L_freeAll_0 (r : Option Value) (hf : hc_H) (J : Nat → hc_K) (lv : hc_L) (st : List Value) (h : hc_H) : Prop := (qi_aload 0 (qi_push (nI 0) (qi_put 0 12 .int (qi_aload 0 (qi_get 0 11 (qi_push (nI 0) (qi_invS hc_tt M_J_fill 2 (qi_vret r hf)))))))) lv st h
theorem sn_L_freeAll_0 {Ph : Nat → State → Prop} {h0 hf : hc_H} {r : Option Value} : qk Ph M_L_freeAll h0 hf r 0 (vc_L_freeAll_0 r hf (cx Ph M_L_freeAll h0 hf r)) := (qs_aload_n d_L_freeAll_0 rfl (qs_iconst d_L_freeAll_1 (by decide) (qs_put d_L_freeAll_2 ff_L_99 ⟨_, _, _, rfl, rfl, by decide +kernel⟩ (qs_aload_n d_L_freeAll_5 rfl (qs_get d_L_freeAll_6 ff_L_15 (qs_iconst d_L_freeAll_9 (by decide) (qs_invS hc_Ph_tt (fun _ _ _ => trivial) d_L_freeAll_10 zz_J_fill wk_651 wk_217 ⟨by decide, by decide⟩ (qs_vret d_L_freeAll_13 rfl))))))))
theorem zz_P_allPut : hc_z M_P_allPut 0 := ⟨wk_605, wk_56, by decide +kernel⟩
/-! BalancedLine$Lines.fix(LBalancedLine$Plan;)V -/
abbrev M_L_fix : hc_M := (⟨"BalancedLine$Lines", "fix", "(LBalancedLine$Plan;)V"⟩, prog_2_method_7_code, 3, none, 2, 43)
theorem d_L_fix_0 : decode (mC M_L_fix) 0 = .ok (.aload_n 0, 1) := by decide +kernel
theorem d_L_fix_1 : decode (mC M_L_fix) 1 = .ok (.aload_n 1, 1) := by decide +kernel
theorem d_L_fix_2 : decode (mC M_L_fix) 2 = .ok (.invokevirtual 108, 3) := by decide +kernel
theorem d_L_fix_5 : decode (mC M_L_fix) 5 = .ok (.putfield 99, 3) := by decide +kernel
theorem d_L_fix_8 : decode (mC M_L_fix) 8 = .ok (.iconst 1, 1) := by decide +kernel
theorem d_L_fix_9 : decode (mC M_L_fix) 9 = .ok (.istore_n 2, 1) := by decide +kernel
theorem d_L_fix_10 : decode (mC M_L_fix) 10 = .ok (.iload_n 2, 1) := by decide +kernel
theorem d_L_fix_11 : decode (mC M_L_fix) 11 = .ok (.bipush 12, 2) := by decide +kernel
theorem d_L_fix_13 : decode (mC M_L_fix) 13 = .ok (.if_icmp .gt 20, 3) := by decide +kernel
theorem d_L_fix_16 : decode (mC M_L_fix) 16 = .ok (.aload_n 0, 1) := by decide +kernel
theorem d_L_fix_17 : decode (mC M_L_fix) 17 = .ok (.getfield 15, 3) := by decide +kernel
theorem d_L_fix_20 : decode (mC M_L_fix) 20 = .ok (.iload_n 2, 1) := by decide +kernel
theorem d_L_fix_21 : decode (mC M_L_fix) 21 = .ok (.aload_n 1, 1) := by decide +kernel
theorem d_L_fix_22 : decode (mC M_L_fix) 22 = .ok (.iload_n 2, 1) := by decide +kernel
theorem d_L_fix_23 : decode (mC M_L_fix) 23 = .ok (.invokevirtual 111, 3) := by decide +kernel
theorem d_L_fix_26 : decode (mC M_L_fix) 26 = .ok (.iastore, 1) := by decide +kernel
theorem d_L_fix_27 : decode (mC M_L_fix) 27 = .ok (.iinc 2 1, 3) := by decide +kernel
theorem d_L_fix_30 : decode (mC M_L_fix) 30 = .ok (.goto (-20), 3) := by decide +kernel
theorem d_L_fix_33 : decode (mC M_L_fix) 33 = .ok (.return_, 1) := by decide +kernel
def vc_L_fix_33 (r : Option Value) (hf : hc_H) (J : Nat → hc_K) (lv : hc_L) (st : List Value) (h : hc_H) : Prop := (qi_vret r hf) lv st h
theorem sn_L_fix_33 {Ph : Nat → State → Prop} {h0 hf : hc_H} {r : Option Value} : qk Ph M_L_fix h0 hf r 33 (vc_L_fix_33 r hf (cx Ph M_L_fix h0 hf r)) := (qs_vret d_L_fix_33 rfl)
def vc_L_fix_10 (r : Option Value) (hf : hc_H) (J : Nat → hc_K) (lv : hc_L) (st : List Value) (h : hc_H) : Prop := (qi_iload 2 (qi_push (nI 12) (qi_icmp_gt (vc_L_fix_33 r hf J) (qi_aload 0 (qi_get 0 11 (qi_iload 2 (qi_aload 1 (qi_iload 2 (qi_invV hc_tt M_P_putIn 1 2 (qi_iast (qi_iinc 2 (nI 1) (J 10)))))))))))) lv st h
theorem sn_L_fix_10 {Ph : Nat → State → Prop} {h0 hf : hc_H} {r : Option Value} : qk Ph M_L_fix h0 hf r 10 (vc_L_fix_10 r hf (cx Ph M_L_fix h0 hf r)) := (qs_iload_n d_L_fix_10 rfl (qs_bipush d_L_fix_11 (by decide) (qs_icmp_gt (tgt := 33) d_L_fix_13 (by decide) sn_L_fix_33 (qs_aload_n d_L_fix_16 rfl (qs_get d_L_fix_17 ff_L_15 (qs_iload_n d_L_fix_20 rfl (qs_aload_n d_L_fix_21 rfl (qs_iload_n d_L_fix_22 rfl (qs_invV hc_Ph_tt (fun _ _ _ => trivial) d_L_fix_23 zz_P_putIn wk_608 ⟨wk_540, wk_541⟩ ⟨_, rfl, rfl⟩ ⟨by decide, by decide⟩ (qs_iastore d_L_fix_26 (qs_iinc d_L_fix_27 (by decide) (by decide) (qs_goto (tgt := 10) d_L_fix_30 (by decide) (fun _ _ _ h9 => h9)))))))))))))
def vc_L_fix_0 (r : Option Value) (hf : hc_H) (J : Nat → hc_K) (lv : hc_L) (st : List Value) (h : hc_H) : Prop := (qi_aload 0 (qi_aload 1 (qi_invV hc_tt M_P_allPut 0 2 (qi_put 0 12 .int (qi_push (nI 1) (qi_istore 2 (J 10))))))) lv st h
theorem sn_L_fix_0 {Ph : Nat → State → Prop} {h0 hf : hc_H} {r : Option Value} : qk Ph M_L_fix h0 hf r 0 (vc_L_fix_0 r hf (cx Ph M_L_fix h0 hf r)) := (qs_aload_n d_L_fix_0 rfl (qs_aload_n d_L_fix_1 rfl (qs_invV hc_Ph_tt (fun _ _ _ => trivial) d_L_fix_2 zz_P_allPut wk_602 ⟨wk_603, wk_604⟩ ⟨_, rfl, rfl⟩ ⟨by decide, by decide⟩ (qs_put d_L_fix_5 ff_L_99 ⟨_, _, _, rfl, rfl, by decide +kernel⟩ (qs_iconst d_L_fix_8 (by decide) (qs_istore_n d_L_fix_9 rfl (by decide) (fun _ _ _ h9 => h9)))))))
/-! BalancedLine$Lines.canEndWithin(II)Z -/
abbrev M_L_canEndWithin : hc_M := (⟨"BalancedLine$Lines", "canEndWithin", "(II)Z"⟩, prog_2_method_11_code, 4, (some .boolean), 0, 0)
theorem d_L_canEndWithin_0 : decode (mC M_L_canEndWithin) 0 = .ok (.iload_n 2, 1) := by decide +kernel
theorem d_L_canEndWithin_1 : decode (mC M_L_canEndWithin) 1 = .ok (.aload_n 0, 1) := by decide +kernel
theorem d_L_canEndWithin_2 : decode (mC M_L_canEndWithin) 2 = .ok (.getfield 42, 3) := by decide +kernel
theorem d_L_canEndWithin_5 : decode (mC M_L_canEndWithin) 5 = .ok (.iload_n 1, 1) := by decide +kernel
theorem d_L_canEndWithin_6 : decode (mC M_L_canEndWithin) 6 = .ok (.iaload, 1) := by decide +kernel
theorem d_L_canEndWithin_7 : decode (mC M_L_canEndWithin) 7 = .ok (.isub, 1) := by decide +kernel
theorem d_L_canEndWithin_8 : decode (mC M_L_canEndWithin) 8 = .ok (.istore_n 3, 1) := by decide +kernel
theorem d_L_canEndWithin_9 : decode (mC M_L_canEndWithin) 9 = .ok (.iload_n 3, 1) := by decide +kernel
theorem d_L_canEndWithin_10 : decode (mC M_L_canEndWithin) 10 = .ok (.ifCond .le 32, 3) := by decide +kernel
theorem d_L_canEndWithin_13 : decode (mC M_L_canEndWithin) 13 = .ok (.iload_n 3, 1) := by decide +kernel
theorem d_L_canEndWithin_14 : decode (mC M_L_canEndWithin) 14 = .ok (.aload_n 0, 1) := by decide +kernel
theorem d_L_canEndWithin_15 : decode (mC M_L_canEndWithin) 15 = .ok (.getfield 95, 3) := by decide +kernel
theorem d_L_canEndWithin_18 : decode (mC M_L_canEndWithin) 18 = .ok (.imul, 1) := by decide +kernel
theorem d_L_canEndWithin_19 : decode (mC M_L_canEndWithin) 19 = .ok (.aload_n 0, 1) := by decide +kernel
theorem d_L_canEndWithin_20 : decode (mC M_L_canEndWithin) 20 = .ok (.getfield 27, 3) := by decide +kernel
theorem d_L_canEndWithin_23 : decode (mC M_L_canEndWithin) 23 = .ok (.aload_n 0, 1) := by decide +kernel
theorem d_L_canEndWithin_24 : decode (mC M_L_canEndWithin) 24 = .ok (.getfield 65, 3) := by decide +kernel
theorem d_L_canEndWithin_27 : decode (mC M_L_canEndWithin) 27 = .ok (.iaload, 1) := by decide +kernel
theorem d_L_canEndWithin_28 : decode (mC M_L_canEndWithin) 28 = .ok (.aload_n 0, 1) := by decide +kernel
theorem d_L_canEndWithin_29 : decode (mC M_L_canEndWithin) 29 = .ok (.getfield 27, 3) := by decide +kernel
theorem d_L_canEndWithin_32 : decode (mC M_L_canEndWithin) 32 = .ok (.iload_n 1, 1) := by decide +kernel
theorem d_L_canEndWithin_33 : decode (mC M_L_canEndWithin) 33 = .ok (.iaload, 1) := by decide +kernel
theorem d_L_canEndWithin_34 : decode (mC M_L_canEndWithin) 34 = .ok (.isub, 1) := by decide +kernel
theorem d_L_canEndWithin_35 : decode (mC M_L_canEndWithin) 35 = .ok (.if_icmp .lt 7, 3) := by decide +kernel
theorem d_L_canEndWithin_38 : decode (mC M_L_canEndWithin) 38 = .ok (.iconst 1, 1) := by decide +kernel
theorem d_L_canEndWithin_39 : decode (mC M_L_canEndWithin) 39 = .ok (.goto 4, 3) := by decide +kernel
theorem d_L_canEndWithin_42 : decode (mC M_L_canEndWithin) 42 = .ok (.iconst 0, 1) := by decide +kernel
theorem d_L_canEndWithin_43 : decode (mC M_L_canEndWithin) 43 = .ok (.ireturn, 1) := by decide +kernel
def vc_L_canEndWithin_43 (r : Option Value) (hf : hc_H) (J : Nat → hc_K) (lv : hc_L) (st : List Value) (h : hc_H) : Prop := (qi_zret r hf) lv st h
theorem sn_L_canEndWithin_43 {Ph : Nat → State → Prop} {h0 hf : hc_H} {r : Option Value} : qk Ph M_L_canEndWithin h0 hf r 43 (vc_L_canEndWithin_43 r hf (cx Ph M_L_canEndWithin h0 hf r)) := (qs_zret d_L_canEndWithin_43 rfl)
def vc_L_canEndWithin_42 (r : Option Value) (hf : hc_H) (J : Nat → hc_K) (lv : hc_L) (st : List Value) (h : hc_H) : Prop := (qi_push (nI 0) (vc_L_canEndWithin_43 r hf J)) lv st h
theorem sn_L_canEndWithin_42 {Ph : Nat → State → Prop} {h0 hf : hc_H} {r : Option Value} : qk Ph M_L_canEndWithin h0 hf r 42 (vc_L_canEndWithin_42 r hf (cx Ph M_L_canEndWithin h0 hf r)) := (qs_iconst d_L_canEndWithin_42 (by decide) sn_L_canEndWithin_43)
def vc_L_canEndWithin_0 (r : Option Value) (hf : hc_H) (J : Nat → hc_K) (lv : hc_L) (st : List Value) (h : hc_H) : Prop := (qi_iload 2 (qi_aload 0 (qi_get 0 5 (qi_iload 1 (qi_iald 0 (qi_isub (qi_istore 3 (qi_iload 3 (qi_if_le (vc_L_canEndWithin_42 r hf J) (qi_iload 3 (qi_aload 0 (qi_get 0 14 (qi_imul (qi_aload 0 (qi_get 0 0 (qi_aload 0 (qi_get 0 13 (qi_iald 0 (qi_aload 0 (qi_get 0 0 (qi_iload 1 (qi_iald 0 (qi_isub (qi_icmp_lt (vc_L_canEndWithin_42 r hf J) (qi_push (nI 1) (vc_L_canEndWithin_43 r hf J)))))))))))))))))))))))))) lv st h
theorem sn_L_canEndWithin_0 {Ph : Nat → State → Prop} {h0 hf : hc_H} {r : Option Value} : qk Ph M_L_canEndWithin h0 hf r 0 (vc_L_canEndWithin_0 r hf (cx Ph M_L_canEndWithin h0 hf r)) := (qs_iload_n d_L_canEndWithin_0 rfl (qs_aload_n d_L_canEndWithin_1 rfl (qs_get d_L_canEndWithin_2 ff_L_42 (qs_iload_n d_L_canEndWithin_5 rfl (qs_iaload d_L_canEndWithin_6 (qs_isub d_L_canEndWithin_7 (qs_istore_n d_L_canEndWithin_8 rfl (by decide) (qs_iload_n d_L_canEndWithin_9 rfl (qs_if_le (tgt := 42) d_L_canEndWithin_10 (by decide) sn_L_canEndWithin_42 (qs_iload_n d_L_canEndWithin_13 rfl (qs_aload_n d_L_canEndWithin_14 rfl (qs_get d_L_canEndWithin_15 ff_L_95 (qs_imul d_L_canEndWithin_18 (qs_aload_n d_L_canEndWithin_19 rfl (qs_get d_L_canEndWithin_20 ff_L_27 (qs_aload_n d_L_canEndWithin_23 rfl (qs_get d_L_canEndWithin_24 ff_L_65 (qs_iaload d_L_canEndWithin_27 (qs_aload_n d_L_canEndWithin_28 rfl (qs_get d_L_canEndWithin_29 ff_L_27 (qs_iload_n d_L_canEndWithin_32 rfl (qs_iaload d_L_canEndWithin_33 (qs_isub d_L_canEndWithin_34 (qs_icmp_lt (tgt := 42) d_L_canEndWithin_35 (by decide) sn_L_canEndWithin_42 (qs_iconst d_L_canEndWithin_38 (by decide) (qs_goto (tgt := 43) d_L_canEndWithin_39 (by decide) sn_L_canEndWithin_43))))))))))))))))))))))))))
/-! BalancedLine$Lines.stationDue(I)I -/
abbrev M_L_stationDue : hc_M := (⟨"BalancedLine$Lines", "stationDue", "(I)I"⟩, prog_2_method_13_code, 4, (some .int), 0, 0)
theorem d_L_stationDue_0 : decode (mC M_L_stationDue) 0 = .ok (.aload_n 0, 1) := by decide +kernel
theorem d_L_stationDue_1 : decode (mC M_L_stationDue) 1 = .ok (.getfield 99, 3) := by decide +kernel
theorem d_L_stationDue_4 : decode (mC M_L_stationDue) 4 = .ok (.iload_n 1, 1) := by decide +kernel
theorem d_L_stationDue_5 : decode (mC M_L_stationDue) 5 = .ok (.iconst (-1), 1) := by decide +kernel
theorem d_L_stationDue_6 : decode (mC M_L_stationDue) 6 = .ok (.ixor, 1) := by decide +kernel
theorem d_L_stationDue_7 : decode (mC M_L_stationDue) 7 = .ok (.iand, 1) := by decide +kernel
theorem d_L_stationDue_8 : decode (mC M_L_stationDue) 8 = .ok (.istore_n 2, 1) := by decide +kernel
theorem d_L_stationDue_9 : decode (mC M_L_stationDue) 9 = .ok (.iconst 1, 1) := by decide +kernel
theorem d_L_stationDue_10 : decode (mC M_L_stationDue) 10 = .ok (.istore_n 3, 1) := by decide +kernel
theorem d_L_stationDue_11 : decode (mC M_L_stationDue) 11 = .ok (.iload_n 3, 1) := by decide +kernel
theorem d_L_stationDue_12 : decode (mC M_L_stationDue) 12 = .ok (.bipush 12, 2) := by decide +kernel
theorem d_L_stationDue_14 : decode (mC M_L_stationDue) 14 = .ok (.if_icmp .gt 22, 3) := by decide +kernel
theorem d_L_stationDue_17 : decode (mC M_L_stationDue) 17 = .ok (.aload_n 0, 1) := by decide +kernel
theorem d_L_stationDue_18 : decode (mC M_L_stationDue) 18 = .ok (.getfield 15, 3) := by decide +kernel
theorem d_L_stationDue_21 : decode (mC M_L_stationDue) 21 = .ok (.iload_n 3, 1) := by decide +kernel
theorem d_L_stationDue_22 : decode (mC M_L_stationDue) 22 = .ok (.iaload, 1) := by decide +kernel
theorem d_L_stationDue_23 : decode (mC M_L_stationDue) 23 = .ok (.iload_n 2, 1) := by decide +kernel
theorem d_L_stationDue_24 : decode (mC M_L_stationDue) 24 = .ok (.iand, 1) := by decide +kernel
theorem d_L_stationDue_25 : decode (mC M_L_stationDue) 25 = .ok (.ifCond .eq 5, 3) := by decide +kernel
theorem d_L_stationDue_28 : decode (mC M_L_stationDue) 28 = .ok (.iload_n 3, 1) := by decide +kernel
theorem d_L_stationDue_29 : decode (mC M_L_stationDue) 29 = .ok (.ireturn, 1) := by decide +kernel
theorem d_L_stationDue_30 : decode (mC M_L_stationDue) 30 = .ok (.iinc 3 1, 3) := by decide +kernel
theorem d_L_stationDue_33 : decode (mC M_L_stationDue) 33 = .ok (.goto (-22), 3) := by decide +kernel
theorem d_L_stationDue_36 : decode (mC M_L_stationDue) 36 = .ok (.bipush 13, 2) := by decide +kernel
theorem d_L_stationDue_38 : decode (mC M_L_stationDue) 38 = .ok (.ireturn, 1) := by decide +kernel
def vc_L_stationDue_36 (r : Option Value) (hf : hc_H) (J : Nat → hc_K) (lv : hc_L) (st : List Value) (h : hc_H) : Prop := (qi_push (nI 13) (qi_iret r hf)) lv st h
theorem sn_L_stationDue_36 {Ph : Nat → State → Prop} {h0 hf : hc_H} {r : Option Value} : qk Ph M_L_stationDue h0 hf r 36 (vc_L_stationDue_36 r hf (cx Ph M_L_stationDue h0 hf r)) := (qs_bipush d_L_stationDue_36 (by decide) (qs_iret d_L_stationDue_38 rfl))
def vc_L_stationDue_30 (r : Option Value) (hf : hc_H) (J : Nat → hc_K) (lv : hc_L) (st : List Value) (h : hc_H) : Prop := (qi_iinc 3 (nI 1) (J 11)) lv st h
theorem sn_L_stationDue_30 {Ph : Nat → State → Prop} {h0 hf : hc_H} {r : Option Value} : qk Ph M_L_stationDue h0 hf r 30 (vc_L_stationDue_30 r hf (cx Ph M_L_stationDue h0 hf r)) := (qs_iinc d_L_stationDue_30 (by decide) (by decide) (qs_goto (tgt := 11) d_L_stationDue_33 (by decide) (fun _ _ _ h9 => h9)))
def vc_L_stationDue_11 (r : Option Value) (hf : hc_H) (J : Nat → hc_K) (lv : hc_L) (st : List Value) (h : hc_H) : Prop := (qi_iload 3 (qi_push (nI 12) (qi_icmp_gt (vc_L_stationDue_36 r hf J) (qi_aload 0 (qi_get 0 11 (qi_iload 3 (qi_iald 0 (qi_iload 2 (qi_iand (qi_if_eq (vc_L_stationDue_30 r hf J) (qi_iload 3 (qi_iret r hf)))))))))))) lv st h
theorem sn_L_stationDue_11 {Ph : Nat → State → Prop} {h0 hf : hc_H} {r : Option Value} : qk Ph M_L_stationDue h0 hf r 11 (vc_L_stationDue_11 r hf (cx Ph M_L_stationDue h0 hf r)) := (qs_iload_n d_L_stationDue_11 rfl (qs_bipush d_L_stationDue_12 (by decide) (qs_icmp_gt (tgt := 36) d_L_stationDue_14 (by decide) sn_L_stationDue_36 (qs_aload_n d_L_stationDue_17 rfl (qs_get d_L_stationDue_18 ff_L_15 (qs_iload_n d_L_stationDue_21 rfl (qs_iaload d_L_stationDue_22 (qs_iload_n d_L_stationDue_23 rfl (qs_iand d_L_stationDue_24 (qs_if_eq (tgt := 30) d_L_stationDue_25 (by decide) sn_L_stationDue_30 (qs_iload_n d_L_stationDue_28 rfl (qs_iret d_L_stationDue_29 rfl))))))))))))
def vc_L_stationDue_0 (r : Option Value) (hf : hc_H) (J : Nat → hc_K) (lv : hc_L) (st : List Value) (h : hc_H) : Prop := (qi_aload 0 (qi_get 0 12 (qi_iload 1 (qi_push (-1) (qi_ixor (qi_iand (qi_istore 2 (qi_push (nI 1) (qi_istore 3 (J 11)))))))))) lv st h
theorem sn_L_stationDue_0 {Ph : Nat → State → Prop} {h0 hf : hc_H} {r : Option Value} : qk Ph M_L_stationDue h0 hf r 0 (vc_L_stationDue_0 r hf (cx Ph M_L_stationDue h0 hf r)) := (qs_aload_n d_L_stationDue_0 rfl (qs_get d_L_stationDue_1 ff_L_99 (qs_iload_n d_L_stationDue_4 rfl (qs_iconst d_L_stationDue_5 (by decide) (qs_ixor d_L_stationDue_6 (qs_iand d_L_stationDue_7 (qs_istore_n d_L_stationDue_8 rfl (by decide) (qs_iconst d_L_stationDue_9 (by decide) (qs_istore_n d_L_stationDue_10 rfl (by decide) (fun _ _ _ h9 => h9))))))))))
theorem zz_L_stationDue : hc_z M_L_stationDue 1 := ⟨wk_663, wk_64, by decide +kernel⟩
/-! BalancedLine$Lines.stepFrom(I)V -/
abbrev M_L_stepFrom : hc_M := (⟨"BalancedLine$Lines", "stepFrom", "(I)V"⟩, prog_2_method_12_code, 10, none, 1, 23)
theorem d_L_stepFrom_0 : decode (mC M_L_stepFrom) 0 = .ok (.aload_n 0, 1) := by decide +kernel
theorem d_L_stepFrom_1 : decode (mC M_L_stepFrom) 1 = .ok (.getfield 42, 3) := by decide +kernel
theorem d_L_stepFrom_4 : decode (mC M_L_stepFrom) 4 = .ok (.iload_n 1, 1) := by decide +kernel
theorem d_L_stepFrom_5 : decode (mC M_L_stepFrom) 5 = .ok (.iaload, 1) := by decide +kernel
theorem d_L_stepFrom_6 : decode (mC M_L_stepFrom) 6 = .ok (.iconst 1, 1) := by decide +kernel
theorem d_L_stepFrom_7 : decode (mC M_L_stepFrom) 7 = .ok (.iadd, 1) := by decide +kernel
theorem d_L_stepFrom_8 : decode (mC M_L_stepFrom) 8 = .ok (.istore_n 2, 1) := by decide +kernel
theorem d_L_stepFrom_9 : decode (mC M_L_stepFrom) 9 = .ok (.aload_n 0, 1) := by decide +kernel
theorem d_L_stepFrom_10 : decode (mC M_L_stepFrom) 10 = .ok (.iload_n 1, 1) := by decide +kernel
theorem d_L_stepFrom_11 : decode (mC M_L_stepFrom) 11 = .ok (.invokevirtual 125, 3) := by decide +kernel
theorem d_L_stepFrom_14 : decode (mC M_L_stepFrom) 14 = .ok (.istore_n 3, 1) := by decide +kernel
theorem d_L_stepFrom_15 : decode (mC M_L_stepFrom) 15 = .ok (.aload_n 0, 1) := by decide +kernel
theorem d_L_stepFrom_16 : decode (mC M_L_stepFrom) 16 = .ok (.getfield 15, 3) := by decide +kernel
theorem d_L_stepFrom_19 : decode (mC M_L_stepFrom) 19 = .ok (.iload_n 3, 1) := by decide +kernel
theorem d_L_stepFrom_20 : decode (mC M_L_stepFrom) 20 = .ok (.iaload, 1) := by decide +kernel
theorem d_L_stepFrom_21 : decode (mC M_L_stepFrom) 21 = .ok (.istore 4, 2) := by decide +kernel
theorem d_L_stepFrom_23 : decode (mC M_L_stepFrom) 23 = .ok (.aload_n 0, 1) := by decide +kernel
theorem d_L_stepFrom_24 : decode (mC M_L_stepFrom) 24 = .ok (.getfield 65, 3) := by decide +kernel
theorem d_L_stepFrom_27 : decode (mC M_L_stepFrom) 27 = .ok (.iload_n 1, 1) := by decide +kernel
theorem d_L_stepFrom_28 : decode (mC M_L_stepFrom) 28 = .ok (.iconst (-1), 1) := by decide +kernel
theorem d_L_stepFrom_29 : decode (mC M_L_stepFrom) 29 = .ok (.ixor, 1) := by decide +kernel
theorem d_L_stepFrom_30 : decode (mC M_L_stepFrom) 30 = .ok (.iand, 1) := by decide +kernel
theorem d_L_stepFrom_31 : decode (mC M_L_stepFrom) 31 = .ok (.aload_n 0, 1) := by decide +kernel
theorem d_L_stepFrom_32 : decode (mC M_L_stepFrom) 32 = .ok (.getfield 99, 3) := by decide +kernel
theorem d_L_stepFrom_35 : decode (mC M_L_stepFrom) 35 = .ok (.iload 4, 2) := by decide +kernel
theorem d_L_stepFrom_37 : decode (mC M_L_stepFrom) 37 = .ok (.iconst (-1), 1) := by decide +kernel
theorem d_L_stepFrom_38 : decode (mC M_L_stepFrom) 38 = .ok (.ixor, 1) := by decide +kernel
theorem d_L_stepFrom_39 : decode (mC M_L_stepFrom) 39 = .ok (.iand, 1) := by decide +kernel
theorem d_L_stepFrom_40 : decode (mC M_L_stepFrom) 40 = .ok (.iconst (-1), 1) := by decide +kernel
theorem d_L_stepFrom_41 : decode (mC M_L_stepFrom) 41 = .ok (.ixor, 1) := by decide +kernel
theorem d_L_stepFrom_42 : decode (mC M_L_stepFrom) 42 = .ok (.iand, 1) := by decide +kernel
theorem d_L_stepFrom_43 : decode (mC M_L_stepFrom) 43 = .ok (.istore 5, 2) := by decide +kernel
theorem d_L_stepFrom_45 : decode (mC M_L_stepFrom) 45 = .ok (.iload 5, 2) := by decide +kernel
theorem d_L_stepFrom_47 : decode (mC M_L_stepFrom) 47 = .ok (.istore 6, 2) := by decide +kernel
theorem d_L_stepFrom_49 : decode (mC M_L_stepFrom) 49 = .ok (.iload 6, 2) := by decide +kernel
theorem d_L_stepFrom_51 : decode (mC M_L_stepFrom) 51 = .ok (.ifCond .le 110, 3) := by decide +kernel
theorem d_L_stepFrom_54 : decode (mC M_L_stepFrom) 54 = .ok (.aload_n 0, 1) := by decide +kernel
theorem d_L_stepFrom_55 : decode (mC M_L_stepFrom) 55 = .ok (.getfield 39, 3) := by decide +kernel
theorem d_L_stepFrom_58 : decode (mC M_L_stepFrom) 58 = .ok (.iload 6, 2) := by decide +kernel
theorem d_L_stepFrom_60 : decode (mC M_L_stepFrom) 60 = .ok (.iaload, 1) := by decide +kernel
theorem d_L_stepFrom_61 : decode (mC M_L_stepFrom) 61 = .ok (.iload_n 1, 1) := by decide +kernel
theorem d_L_stepFrom_62 : decode (mC M_L_stepFrom) 62 = .ok (.iconst (-1), 1) := by decide +kernel
theorem d_L_stepFrom_63 : decode (mC M_L_stepFrom) 63 = .ok (.ixor, 1) := by decide +kernel
theorem d_L_stepFrom_64 : decode (mC M_L_stepFrom) 64 = .ok (.iand, 1) := by decide +kernel
theorem d_L_stepFrom_65 : decode (mC M_L_stepFrom) 65 = .ok (.ifCond .ne 84, 3) := by decide +kernel
theorem d_L_stepFrom_68 : decode (mC M_L_stepFrom) 68 = .ok (.iload 6, 2) := by decide +kernel
theorem d_L_stepFrom_70 : decode (mC M_L_stepFrom) 70 = .ok (.iload 4, 2) := by decide +kernel
theorem d_L_stepFrom_72 : decode (mC M_L_stepFrom) 72 = .ok (.iand, 1) := by decide +kernel
theorem d_L_stepFrom_73 : decode (mC M_L_stepFrom) 73 = .ok (.istore 7, 2) := by decide +kernel
theorem d_L_stepFrom_75 : decode (mC M_L_stepFrom) 75 = .ok (.iload 7, 2) := by decide +kernel
theorem d_L_stepFrom_77 : decode (mC M_L_stepFrom) 77 = .ok (.ifCond .ne 7, 3) := by decide +kernel
theorem d_L_stepFrom_80 : decode (mC M_L_stepFrom) 80 = .ok (.iload_n 2, 1) := by decide +kernel
theorem d_L_stepFrom_81 : decode (mC M_L_stepFrom) 81 = .ok (.goto 4, 3) := by decide +kernel
theorem d_L_stepFrom_84 : decode (mC M_L_stepFrom) 84 = .ok (.iload_n 3, 1) := by decide +kernel
theorem d_L_stepFrom_85 : decode (mC M_L_stepFrom) 85 = .ok (.istore 8, 2) := by decide +kernel
theorem d_L_stepFrom_87 : decode (mC M_L_stepFrom) 87 = .ok (.iload 7, 2) := by decide +kernel
theorem d_L_stepFrom_89 : decode (mC M_L_stepFrom) 89 = .ok (.ifCond .ne 16, 3) := by decide +kernel
theorem d_L_stepFrom_92 : decode (mC M_L_stepFrom) 92 = .ok (.iload_n 2, 1) := by decide +kernel
theorem d_L_stepFrom_93 : decode (mC M_L_stepFrom) 93 = .ok (.iload_n 3, 1) := by decide +kernel
theorem d_L_stepFrom_94 : decode (mC M_L_stepFrom) 94 = .ok (.if_icmp .ge 7, 3) := by decide +kernel
theorem d_L_stepFrom_97 : decode (mC M_L_stepFrom) 97 = .ok (.iconst 1, 1) := by decide +kernel
theorem d_L_stepFrom_98 : decode (mC M_L_stepFrom) 98 = .ok (.goto 19, 3) := by decide +kernel
theorem d_L_stepFrom_101 : decode (mC M_L_stepFrom) 101 = .ok (.iconst 0, 1) := by decide +kernel
theorem d_L_stepFrom_102 : decode (mC M_L_stepFrom) 102 = .ok (.goto 15, 3) := by decide +kernel
theorem d_L_stepFrom_105 : decode (mC M_L_stepFrom) 105 = .ok (.iload 7, 2) := by decide +kernel
theorem d_L_stepFrom_107 : decode (mC M_L_stepFrom) 107 = .ok (.iload 4, 2) := by decide +kernel
theorem d_L_stepFrom_109 : decode (mC M_L_stepFrom) 109 = .ok (.if_icmp .ne 7, 3) := by decide +kernel
theorem d_L_stepFrom_112 : decode (mC M_L_stepFrom) 112 = .ok (.iconst 1, 1) := by decide +kernel
theorem d_L_stepFrom_113 : decode (mC M_L_stepFrom) 113 = .ok (.goto 4, 3) := by decide +kernel
theorem d_L_stepFrom_116 : decode (mC M_L_stepFrom) 116 = .ok (.iconst 0, 1) := by decide +kernel
theorem d_L_stepFrom_117 : decode (mC M_L_stepFrom) 117 = .ok (.istore 9, 2) := by decide +kernel
theorem d_L_stepFrom_119 : decode (mC M_L_stepFrom) 119 = .ok (.iload 9, 2) := by decide +kernel
theorem d_L_stepFrom_121 : decode (mC M_L_stepFrom) 121 = .ok (.ifCond .eq 28, 3) := by decide +kernel
theorem d_L_stepFrom_124 : decode (mC M_L_stepFrom) 124 = .ok (.iload 8, 2) := by decide +kernel
theorem d_L_stepFrom_126 : decode (mC M_L_stepFrom) 126 = .ok (.aload_n 0, 1) := by decide +kernel
theorem d_L_stepFrom_127 : decode (mC M_L_stepFrom) 127 = .ok (.getfield 42, 3) := by decide +kernel
theorem d_L_stepFrom_130 : decode (mC M_L_stepFrom) 130 = .ok (.iload_n 1, 1) := by decide +kernel
theorem d_L_stepFrom_131 : decode (mC M_L_stepFrom) 131 = .ok (.iload 6, 2) := by decide +kernel
theorem d_L_stepFrom_133 : decode (mC M_L_stepFrom) 133 = .ok (.ior, 1) := by decide +kernel
theorem d_L_stepFrom_134 : decode (mC M_L_stepFrom) 134 = .ok (.iaload, 1) := by decide +kernel
theorem d_L_stepFrom_135 : decode (mC M_L_stepFrom) 135 = .ok (.if_icmp .ge 14, 3) := by decide +kernel
theorem d_L_stepFrom_138 : decode (mC M_L_stepFrom) 138 = .ok (.aload_n 0, 1) := by decide +kernel
theorem d_L_stepFrom_139 : decode (mC M_L_stepFrom) 139 = .ok (.getfield 42, 3) := by decide +kernel
theorem d_L_stepFrom_142 : decode (mC M_L_stepFrom) 142 = .ok (.iload_n 1, 1) := by decide +kernel
theorem d_L_stepFrom_143 : decode (mC M_L_stepFrom) 143 = .ok (.iload 6, 2) := by decide +kernel
theorem d_L_stepFrom_145 : decode (mC M_L_stepFrom) 145 = .ok (.ior, 1) := by decide +kernel
theorem d_L_stepFrom_146 : decode (mC M_L_stepFrom) 146 = .ok (.iload 8, 2) := by decide +kernel
theorem d_L_stepFrom_148 : decode (mC M_L_stepFrom) 148 = .ok (.iastore, 1) := by decide +kernel
theorem d_L_stepFrom_149 : decode (mC M_L_stepFrom) 149 = .ok (.iload 6, 2) := by decide +kernel
theorem d_L_stepFrom_151 : decode (mC M_L_stepFrom) 151 = .ok (.iconst 1, 1) := by decide +kernel
theorem d_L_stepFrom_152 : decode (mC M_L_stepFrom) 152 = .ok (.isub, 1) := by decide +kernel
theorem d_L_stepFrom_153 : decode (mC M_L_stepFrom) 153 = .ok (.iload 5, 2) := by decide +kernel
theorem d_L_stepFrom_155 : decode (mC M_L_stepFrom) 155 = .ok (.iand, 1) := by decide +kernel
theorem d_L_stepFrom_156 : decode (mC M_L_stepFrom) 156 = .ok (.istore 6, 2) := by decide +kernel
theorem d_L_stepFrom_158 : decode (mC M_L_stepFrom) 158 = .ok (.goto (-109), 3) := by decide +kernel
theorem d_L_stepFrom_161 : decode (mC M_L_stepFrom) 161 = .ok (.return_, 1) := by decide +kernel
def vc_L_stepFrom_161 (r : Option Value) (hf : hc_H) (J : Nat → hc_K) (lv : hc_L) (st : List Value) (h : hc_H) : Prop := (qi_vret r hf) lv st h
theorem sn_L_stepFrom_161 {Ph : Nat → State → Prop} {h0 hf : hc_H} {r : Option Value} : qk Ph M_L_stepFrom h0 hf r 161 (vc_L_stepFrom_161 r hf (cx Ph M_L_stepFrom h0 hf r)) := (qs_vret d_L_stepFrom_161 rfl)
def vc_L_stepFrom_149 (r : Option Value) (hf : hc_H) (J : Nat → hc_K) (lv : hc_L) (st : List Value) (h : hc_H) : Prop := (qi_iload 6 (qi_push (nI 1) (qi_isub (qi_iload 5 (qi_iand (qi_istore 6 (J 49))))))) lv st h
theorem sn_L_stepFrom_149 {Ph : Nat → State → Prop} {h0 hf : hc_H} {r : Option Value} : qk Ph M_L_stepFrom h0 hf r 149 (vc_L_stepFrom_149 r hf (cx Ph M_L_stepFrom h0 hf r)) := (qs_iload d_L_stepFrom_149 (qs_iconst d_L_stepFrom_151 (by decide) (qs_isub d_L_stepFrom_152 (qs_iload d_L_stepFrom_153 (qs_iand d_L_stepFrom_155 (qs_istore d_L_stepFrom_156 (by decide) (qs_goto (tgt := 49) d_L_stepFrom_158 (by decide) (fun _ _ _ h9 => h9))))))))
def vc_L_stepFrom_117 (r : Option Value) (hf : hc_H) (J : Nat → hc_K) (lv : hc_L) (st : List Value) (h : hc_H) : Prop := (qi_istore 9 (qi_iload 9 (qi_if_eq (vc_L_stepFrom_149 r hf J) (qi_iload 8 (qi_aload 0 (qi_get 0 5 (qi_iload 1 (qi_iload 6 (qi_ior (qi_iald 0 (qi_icmp_ge (vc_L_stepFrom_149 r hf J) (qi_aload 0 (qi_get 0 5 (qi_iload 1 (qi_iload 6 (qi_ior (qi_iload 8 (qi_iast (vc_L_stepFrom_149 r hf J))))))))))))))))))) lv st h
theorem sn_L_stepFrom_117 {Ph : Nat → State → Prop} {h0 hf : hc_H} {r : Option Value} : qk Ph M_L_stepFrom h0 hf r 117 (vc_L_stepFrom_117 r hf (cx Ph M_L_stepFrom h0 hf r)) := (qs_istore d_L_stepFrom_117 (by decide) (qs_iload d_L_stepFrom_119 (qs_if_eq (tgt := 149) d_L_stepFrom_121 (by decide) sn_L_stepFrom_149 (qs_iload d_L_stepFrom_124 (qs_aload_n d_L_stepFrom_126 rfl (qs_get d_L_stepFrom_127 ff_L_42 (qs_iload_n d_L_stepFrom_130 rfl (qs_iload d_L_stepFrom_131 (qs_ior d_L_stepFrom_133 (qs_iaload d_L_stepFrom_134 (qs_icmp_ge (tgt := 149) d_L_stepFrom_135 (by decide) sn_L_stepFrom_149 (qs_aload_n d_L_stepFrom_138 rfl (qs_get d_L_stepFrom_139 ff_L_42 (qs_iload_n d_L_stepFrom_142 rfl (qs_iload d_L_stepFrom_143 (qs_ior d_L_stepFrom_145 (qs_iload d_L_stepFrom_146 (qs_iastore d_L_stepFrom_148 sn_L_stepFrom_149))))))))))))))))))
def vc_L_stepFrom_116 (r : Option Value) (hf : hc_H) (J : Nat → hc_K) (lv : hc_L) (st : List Value) (h : hc_H) : Prop := (qi_push (nI 0) (vc_L_stepFrom_117 r hf J)) lv st h
theorem sn_L_stepFrom_116 {Ph : Nat → State → Prop} {h0 hf : hc_H} {r : Option Value} : qk Ph M_L_stepFrom h0 hf r 116 (vc_L_stepFrom_116 r hf (cx Ph M_L_stepFrom h0 hf r)) := (qs_iconst d_L_stepFrom_116 (by decide) sn_L_stepFrom_117)
def vc_L_stepFrom_105 (r : Option Value) (hf : hc_H) (J : Nat → hc_K) (lv : hc_L) (st : List Value) (h : hc_H) : Prop := (qi_iload 7 (qi_iload 4 (qi_icmp_ne (vc_L_stepFrom_116 r hf J) (qi_push (nI 1) (vc_L_stepFrom_117 r hf J))))) lv st h
theorem sn_L_stepFrom_105 {Ph : Nat → State → Prop} {h0 hf : hc_H} {r : Option Value} : qk Ph M_L_stepFrom h0 hf r 105 (vc_L_stepFrom_105 r hf (cx Ph M_L_stepFrom h0 hf r)) := (qs_iload d_L_stepFrom_105 (qs_iload d_L_stepFrom_107 (qs_icmp_ne (tgt := 116) d_L_stepFrom_109 (by decide) sn_L_stepFrom_116 (qs_iconst d_L_stepFrom_112 (by decide) (qs_goto (tgt := 117) d_L_stepFrom_113 (by decide) sn_L_stepFrom_117)))))
def vc_L_stepFrom_101 (r : Option Value) (hf : hc_H) (J : Nat → hc_K) (lv : hc_L) (st : List Value) (h : hc_H) : Prop := (qi_push (nI 0) (vc_L_stepFrom_117 r hf J)) lv st h
theorem sn_L_stepFrom_101 {Ph : Nat → State → Prop} {h0 hf : hc_H} {r : Option Value} : qk Ph M_L_stepFrom h0 hf r 101 (vc_L_stepFrom_101 r hf (cx Ph M_L_stepFrom h0 hf r)) := (qs_iconst d_L_stepFrom_101 (by decide) (qs_goto (tgt := 117) d_L_stepFrom_102 (by decide) sn_L_stepFrom_117))
def vc_L_stepFrom_85 (r : Option Value) (hf : hc_H) (J : Nat → hc_K) (lv : hc_L) (st : List Value) (h : hc_H) : Prop := (qi_istore 8 (qi_iload 7 (qi_if_ne (vc_L_stepFrom_105 r hf J) (qi_iload 2 (qi_iload 3 (qi_icmp_ge (vc_L_stepFrom_101 r hf J) (qi_push (nI 1) (vc_L_stepFrom_117 r hf J)))))))) lv st h
theorem sn_L_stepFrom_85 {Ph : Nat → State → Prop} {h0 hf : hc_H} {r : Option Value} : qk Ph M_L_stepFrom h0 hf r 85 (vc_L_stepFrom_85 r hf (cx Ph M_L_stepFrom h0 hf r)) := (qs_istore d_L_stepFrom_85 (by decide) (qs_iload d_L_stepFrom_87 (qs_if_ne (tgt := 105) d_L_stepFrom_89 (by decide) sn_L_stepFrom_105 (qs_iload_n d_L_stepFrom_92 rfl (qs_iload_n d_L_stepFrom_93 rfl (qs_icmp_ge (tgt := 101) d_L_stepFrom_94 (by decide) sn_L_stepFrom_101 (qs_iconst d_L_stepFrom_97 (by decide) (qs_goto (tgt := 117) d_L_stepFrom_98 (by decide) sn_L_stepFrom_117))))))))
def vc_L_stepFrom_84 (r : Option Value) (hf : hc_H) (J : Nat → hc_K) (lv : hc_L) (st : List Value) (h : hc_H) : Prop := (qi_iload 3 (vc_L_stepFrom_85 r hf J)) lv st h
theorem sn_L_stepFrom_84 {Ph : Nat → State → Prop} {h0 hf : hc_H} {r : Option Value} : qk Ph M_L_stepFrom h0 hf r 84 (vc_L_stepFrom_84 r hf (cx Ph M_L_stepFrom h0 hf r)) := (qs_iload_n d_L_stepFrom_84 rfl sn_L_stepFrom_85)
def vc_L_stepFrom_49 (r : Option Value) (hf : hc_H) (J : Nat → hc_K) (lv : hc_L) (st : List Value) (h : hc_H) : Prop := (qi_iload 6 (qi_if_le (vc_L_stepFrom_161 r hf J) (qi_aload 0 (qi_get 0 4 (qi_iload 6 (qi_iald 0 (qi_iload 1 (qi_push (-1) (qi_ixor (qi_iand (qi_if_ne (vc_L_stepFrom_149 r hf J) (qi_iload 6 (qi_iload 4 (qi_iand (qi_istore 7 (qi_iload 7 (qi_if_ne (vc_L_stepFrom_84 r hf J) (qi_iload 2 (vc_L_stepFrom_85 r hf J))))))))))))))))))) lv st h
theorem sn_L_stepFrom_49 {Ph : Nat → State → Prop} {h0 hf : hc_H} {r : Option Value} : qk Ph M_L_stepFrom h0 hf r 49 (vc_L_stepFrom_49 r hf (cx Ph M_L_stepFrom h0 hf r)) := (qs_iload d_L_stepFrom_49 (qs_if_le (tgt := 161) d_L_stepFrom_51 (by decide) sn_L_stepFrom_161 (qs_aload_n d_L_stepFrom_54 rfl (qs_get d_L_stepFrom_55 ff_L_39 (qs_iload d_L_stepFrom_58 (qs_iaload d_L_stepFrom_60 (qs_iload_n d_L_stepFrom_61 rfl (qs_iconst d_L_stepFrom_62 (by decide) (qs_ixor d_L_stepFrom_63 (qs_iand d_L_stepFrom_64 (qs_if_ne (tgt := 149) d_L_stepFrom_65 (by decide) sn_L_stepFrom_149 (qs_iload d_L_stepFrom_68 (qs_iload d_L_stepFrom_70 (qs_iand d_L_stepFrom_72 (qs_istore d_L_stepFrom_73 (by decide) (qs_iload d_L_stepFrom_75 (qs_if_ne (tgt := 84) d_L_stepFrom_77 (by decide) sn_L_stepFrom_84 (qs_iload_n d_L_stepFrom_80 rfl (qs_goto (tgt := 85) d_L_stepFrom_81 (by decide) sn_L_stepFrom_85)))))))))))))))))))
def vc_L_stepFrom_0 (r : Option Value) (hf : hc_H) (J : Nat → hc_K) (lv : hc_L) (st : List Value) (h : hc_H) : Prop := (qi_aload 0 (qi_get 0 5 (qi_iload 1 (qi_iald 0 (qi_push (nI 1) (qi_iadd (qi_istore 2 (qi_aload 0 (qi_iload 1 (qi_invV hc_tt M_L_stationDue 1 0 (qi_istore 3 (qi_aload 0 (qi_get 0 11 (qi_iload 3 (qi_iald 0 (qi_istore 4 (qi_aload 0 (qi_get 0 13 (qi_iload 1 (qi_push (-1) (qi_ixor (qi_iand (qi_aload 0 (qi_get 0 12 (qi_iload 4 (qi_push (-1) (qi_ixor (qi_iand (qi_push (-1) (qi_ixor (qi_iand (qi_istore 5 (qi_iload 5 (qi_istore 6 (J 49))))))))))))))))))))))))))))))))))) lv st h
theorem sn_L_stepFrom_0 {Ph : Nat → State → Prop} {h0 hf : hc_H} {r : Option Value} : qk Ph M_L_stepFrom h0 hf r 0 (vc_L_stepFrom_0 r hf (cx Ph M_L_stepFrom h0 hf r)) := (qs_aload_n d_L_stepFrom_0 rfl (qs_get d_L_stepFrom_1 ff_L_42 (qs_iload_n d_L_stepFrom_4 rfl (qs_iaload d_L_stepFrom_5 (qs_iconst d_L_stepFrom_6 (by decide) (qs_iadd d_L_stepFrom_7 (qs_istore_n d_L_stepFrom_8 rfl (by decide) (qs_aload_n d_L_stepFrom_9 rfl (qs_iload_n d_L_stepFrom_10 rfl (qs_invV hc_Ph_tt (fun _ _ _ => trivial) d_L_stepFrom_11 zz_L_stationDue wk_660 ⟨wk_662, wk_15⟩ ⟨_, rfl, rfl⟩ ⟨by decide, by decide⟩ (qs_istore_n d_L_stepFrom_14 rfl (by decide) (qs_aload_n d_L_stepFrom_15 rfl (qs_get d_L_stepFrom_16 ff_L_15 (qs_iload_n d_L_stepFrom_19 rfl (qs_iaload d_L_stepFrom_20 (qs_istore d_L_stepFrom_21 (by decide) (qs_aload_n d_L_stepFrom_23 rfl (qs_get d_L_stepFrom_24 ff_L_65 (qs_iload_n d_L_stepFrom_27 rfl (qs_iconst d_L_stepFrom_28 (by decide) (qs_ixor d_L_stepFrom_29 (qs_iand d_L_stepFrom_30 (qs_aload_n d_L_stepFrom_31 rfl (qs_get d_L_stepFrom_32 ff_L_99 (qs_iload d_L_stepFrom_35 (qs_iconst d_L_stepFrom_37 (by decide) (qs_ixor d_L_stepFrom_38 (qs_iand d_L_stepFrom_39 (qs_iconst d_L_stepFrom_40 (by decide) (qs_ixor d_L_stepFrom_41 (qs_iand d_L_stepFrom_42 (qs_istore d_L_stepFrom_43 (by decide) (qs_iload d_L_stepFrom_45 (qs_istore d_L_stepFrom_47 (by decide) (fun _ _ _ h9 => h9)))))))))))))))))))))))))))))))))))
theorem zz_L_canEndWithin : hc_z M_L_canEndWithin 2 := ⟨wk_655, wk_64, by decide +kernel⟩
theorem zz_L_stepFrom : hc_z M_L_stepFrom 1 := ⟨wk_659, wk_64, by decide +kernel⟩
/-! BalancedLine$Lines.reach(II)V -/
abbrev M_L_reach : hc_M := (⟨"BalancedLine$Lines", "reach", "(II)V"⟩, prog_2_method_10_code, 5, none, 2, 52)
theorem d_L_reach_0 : decode (mC M_L_reach) 0 = .ok (.aload_n 0, 1) := by decide +kernel
theorem d_L_reach_1 : decode (mC M_L_reach) 1 = .ok (.getfield 42, 3) := by decide +kernel
theorem d_L_reach_4 : decode (mC M_L_reach) 4 = .ok (.sipush 1000, 3) := by decide +kernel
theorem d_L_reach_7 : decode (mC M_L_reach) 7 = .ok (.invokestatic 102, 3) := by decide +kernel
theorem d_L_reach_10 : decode (mC M_L_reach) 10 = .ok (.aload_n 0, 1) := by decide +kernel
theorem d_L_reach_11 : decode (mC M_L_reach) 11 = .ok (.getfield 42, 3) := by decide +kernel
theorem d_L_reach_14 : decode (mC M_L_reach) 14 = .ok (.iconst 0, 1) := by decide +kernel
theorem d_L_reach_15 : decode (mC M_L_reach) 15 = .ok (.iconst 0, 1) := by decide +kernel
theorem d_L_reach_16 : decode (mC M_L_reach) 16 = .ok (.iastore, 1) := by decide +kernel
theorem d_L_reach_17 : decode (mC M_L_reach) 17 = .ok (.aload_n 0, 1) := by decide +kernel
theorem d_L_reach_18 : decode (mC M_L_reach) 18 = .ok (.getfield 96, 3) := by decide +kernel
theorem d_L_reach_21 : decode (mC M_L_reach) 21 = .ok (.aload_n 0, 1) := by decide +kernel
theorem d_L_reach_22 : decode (mC M_L_reach) 22 = .ok (.getfield 65, 3) := by decide +kernel
theorem d_L_reach_25 : decode (mC M_L_reach) 25 = .ok (.if_icmp .ne 10, 3) := by decide +kernel
theorem d_L_reach_28 : decode (mC M_L_reach) 28 = .ok (.aload_n 0, 1) := by decide +kernel
theorem d_L_reach_29 : decode (mC M_L_reach) 29 = .ok (.getfield 65, 3) := by decide +kernel
theorem d_L_reach_32 : decode (mC M_L_reach) 32 = .ok (.goto 4, 3) := by decide +kernel
theorem d_L_reach_35 : decode (mC M_L_reach) 35 = .ok (.iconst 0, 1) := by decide +kernel
theorem d_L_reach_36 : decode (mC M_L_reach) 36 = .ok (.istore_n 3, 1) := by decide +kernel
theorem d_L_reach_37 : decode (mC M_L_reach) 37 = .ok (.iconst 0, 1) := by decide +kernel
theorem d_L_reach_38 : decode (mC M_L_reach) 38 = .ok (.istore 4, 2) := by decide +kernel
theorem d_L_reach_40 : decode (mC M_L_reach) 40 = .ok (.iload 4, 2) := by decide +kernel
theorem d_L_reach_42 : decode (mC M_L_reach) 42 = .ok (.iload_n 3, 1) := by decide +kernel
theorem d_L_reach_43 : decode (mC M_L_reach) 43 = .ok (.if_icmp .ge 38, 3) := by decide +kernel
theorem d_L_reach_46 : decode (mC M_L_reach) 46 = .ok (.aload_n 0, 1) := by decide +kernel
theorem d_L_reach_47 : decode (mC M_L_reach) 47 = .ok (.getfield 42, 3) := by decide +kernel
theorem d_L_reach_50 : decode (mC M_L_reach) 50 = .ok (.aload_n 0, 1) := by decide +kernel
theorem d_L_reach_51 : decode (mC M_L_reach) 51 = .ok (.getfield 65, 3) := by decide +kernel
theorem d_L_reach_54 : decode (mC M_L_reach) 54 = .ok (.iaload, 1) := by decide +kernel
theorem d_L_reach_55 : decode (mC M_L_reach) 55 = .ok (.iload_n 2, 1) := by decide +kernel
theorem d_L_reach_56 : decode (mC M_L_reach) 56 = .ok (.if_icmp .le 25, 3) := by decide +kernel
theorem d_L_reach_59 : decode (mC M_L_reach) 59 = .ok (.aload_n 0, 1) := by decide +kernel
theorem d_L_reach_60 : decode (mC M_L_reach) 60 = .ok (.iload 4, 2) := by decide +kernel
theorem d_L_reach_62 : decode (mC M_L_reach) 62 = .ok (.iload_n 1, 1) := by decide +kernel
theorem d_L_reach_63 : decode (mC M_L_reach) 63 = .ok (.invokevirtual 118, 3) := by decide +kernel
theorem d_L_reach_66 : decode (mC M_L_reach) 66 = .ok (.ifCond .eq 9, 3) := by decide +kernel
theorem d_L_reach_69 : decode (mC M_L_reach) 69 = .ok (.aload_n 0, 1) := by decide +kernel
theorem d_L_reach_70 : decode (mC M_L_reach) 70 = .ok (.iload 4, 2) := by decide +kernel
theorem d_L_reach_72 : decode (mC M_L_reach) 72 = .ok (.invokevirtual 122, 3) := by decide +kernel
theorem d_L_reach_75 : decode (mC M_L_reach) 75 = .ok (.iinc 4 1, 3) := by decide +kernel
theorem d_L_reach_78 : decode (mC M_L_reach) 78 = .ok (.goto (-38), 3) := by decide +kernel
theorem d_L_reach_81 : decode (mC M_L_reach) 81 = .ok (.return_, 1) := by decide +kernel
def vc_L_reach_81 (r : Option Value) (hf : hc_H) (J : Nat → hc_K) (lv : hc_L) (st : List Value) (h : hc_H) : Prop := (qi_vret r hf) lv st h
theorem sn_L_reach_81 {Ph : Nat → State → Prop} {h0 hf : hc_H} {r : Option Value} : qk Ph M_L_reach h0 hf r 81 (vc_L_reach_81 r hf (cx Ph M_L_reach h0 hf r)) := (qs_vret d_L_reach_81 rfl)
def vc_L_reach_75 (r : Option Value) (hf : hc_H) (J : Nat → hc_K) (lv : hc_L) (st : List Value) (h : hc_H) : Prop := (qi_iinc 4 (nI 1) (J 40)) lv st h
theorem sn_L_reach_75 {Ph : Nat → State → Prop} {h0 hf : hc_H} {r : Option Value} : qk Ph M_L_reach h0 hf r 75 (vc_L_reach_75 r hf (cx Ph M_L_reach h0 hf r)) := (qs_iinc d_L_reach_75 (by decide) (by decide) (qs_goto (tgt := 40) d_L_reach_78 (by decide) (fun _ _ _ h9 => h9)))
def vc_L_reach_40 (r : Option Value) (hf : hc_H) (J : Nat → hc_K) (lv : hc_L) (st : List Value) (h : hc_H) : Prop := (qi_iload 4 (qi_iload 3 (qi_icmp_ge (vc_L_reach_81 r hf J) (qi_aload 0 (qi_get 0 5 (qi_aload 0 (qi_get 0 13 (qi_iald 0 (qi_iload 2 (qi_icmp_le (vc_L_reach_81 r hf J) (qi_aload 0 (qi_iload 4 (qi_iload 1 (qi_invV hc_tt M_L_canEndWithin 2 0 (qi_if_eq (vc_L_reach_75 r hf J) (qi_aload 0 (qi_iload 4 (qi_invV hc_tt M_L_stepFrom 1 0 (vc_L_reach_75 r hf J))))))))))))))))))) lv st h
theorem sn_L_reach_40 {Ph : Nat → State → Prop} {h0 hf : hc_H} {r : Option Value} : qk Ph M_L_reach h0 hf r 40 (vc_L_reach_40 r hf (cx Ph M_L_reach h0 hf r)) := (qs_iload d_L_reach_40 (qs_iload_n d_L_reach_42 rfl (qs_icmp_ge (tgt := 81) d_L_reach_43 (by decide) sn_L_reach_81 (qs_aload_n d_L_reach_46 rfl (qs_get d_L_reach_47 ff_L_42 (qs_aload_n d_L_reach_50 rfl (qs_get d_L_reach_51 ff_L_65 (qs_iaload d_L_reach_54 (qs_iload_n d_L_reach_55 rfl (qs_icmp_le (tgt := 81) d_L_reach_56 (by decide) sn_L_reach_81 (qs_aload_n d_L_reach_59 rfl (qs_iload d_L_reach_60 (qs_iload_n d_L_reach_62 rfl (qs_invV hc_Ph_tt (fun _ _ _ => trivial) d_L_reach_63 zz_L_canEndWithin wk_652 ⟨wk_654, wk_13⟩ ⟨_, rfl, rfl⟩ ⟨by decide, by decide⟩ (qs_if_eq (tgt := 75) d_L_reach_66 (by decide) sn_L_reach_75 (qs_aload_n d_L_reach_69 rfl (qs_iload d_L_reach_70 (qs_invV hc_Ph_tt (fun _ _ _ => trivial) d_L_reach_72 zz_L_stepFrom wk_656 ⟨wk_658, wk_14⟩ ⟨_, rfl, rfl⟩ ⟨by decide, by decide⟩ sn_L_reach_75))))))))))))))))))
def vc_L_reach_36 (r : Option Value) (hf : hc_H) (J : Nat → hc_K) (lv : hc_L) (st : List Value) (h : hc_H) : Prop := (qi_istore 3 (qi_push (nI 0) (qi_istore 4 (J 40)))) lv st h
theorem sn_L_reach_36 {Ph : Nat → State → Prop} {h0 hf : hc_H} {r : Option Value} : qk Ph M_L_reach h0 hf r 36 (vc_L_reach_36 r hf (cx Ph M_L_reach h0 hf r)) := (qs_istore_n d_L_reach_36 rfl (by decide) (qs_iconst d_L_reach_37 (by decide) (qs_istore d_L_reach_38 (by decide) (fun _ _ _ h9 => h9))))
def vc_L_reach_35 (r : Option Value) (hf : hc_H) (J : Nat → hc_K) (lv : hc_L) (st : List Value) (h : hc_H) : Prop := (qi_push (nI 0) (vc_L_reach_36 r hf J)) lv st h
theorem sn_L_reach_35 {Ph : Nat → State → Prop} {h0 hf : hc_H} {r : Option Value} : qk Ph M_L_reach h0 hf r 35 (vc_L_reach_35 r hf (cx Ph M_L_reach h0 hf r)) := (qs_iconst d_L_reach_35 (by decide) sn_L_reach_36)
def vc_L_reach_0 (r : Option Value) (hf : hc_H) (J : Nat → hc_K) (lv : hc_L) (st : List Value) (h : hc_H) : Prop := (qi_aload 0 (qi_get 0 5 (qi_push (nI 1000) (qi_invS hc_tt M_J_fill 2 (qi_aload 0 (qi_get 0 5 (qi_push (nI 0) (qi_push (nI 0) (qi_iast (qi_aload 0 (qi_get 0 15 (qi_aload 0 (qi_get 0 13 (qi_icmp_ne (vc_L_reach_35 r hf J) (qi_aload 0 (qi_get 0 13 (vc_L_reach_36 r hf J))))))))))))))))) lv st h
theorem sn_L_reach_0 {Ph : Nat → State → Prop} {h0 hf : hc_H} {r : Option Value} : qk Ph M_L_reach h0 hf r 0 (vc_L_reach_0 r hf (cx Ph M_L_reach h0 hf r)) := (qs_aload_n d_L_reach_0 rfl (qs_get d_L_reach_1 ff_L_42 (qs_sipush d_L_reach_4 (by decide) (qs_invS hc_Ph_tt (fun _ _ _ => trivial) d_L_reach_7 zz_J_fill wk_651 wk_217 ⟨by decide, by decide⟩ (qs_aload_n d_L_reach_10 rfl (qs_get d_L_reach_11 ff_L_42 (qs_iconst d_L_reach_14 (by decide) (qs_iconst d_L_reach_15 (by decide) (qs_iastore d_L_reach_16 (qs_aload_n d_L_reach_17 rfl (qs_get d_L_reach_18 ff_L_96 (qs_aload_n d_L_reach_21 rfl (qs_get d_L_reach_22 ff_L_65 (qs_icmp_ne (tgt := 35) d_L_reach_25 (by decide) sn_L_reach_35 (qs_aload_n d_L_reach_28 rfl (qs_get d_L_reach_29 ff_L_65 (qs_goto (tgt := 36) d_L_reach_32 (by decide) sn_L_reach_36)))))))))))))))))
theorem zz_L_reach : hc_z M_L_reach 2 := ⟨wk_650, wk_64, by decide +kernel⟩
/-! BalancedLine$Lines.search(II)I -/
abbrev M_L_search : hc_M := (⟨"BalancedLine$Lines", "search", "(II)I"⟩, prog_2_method_8_code, 4, (some .int), 3, 76)
theorem d_L_search_0 : decode (mC M_L_search) 0 = .ok (.iload_n 1, 1) := by decide +kernel
theorem d_L_search_1 : decode (mC M_L_search) 1 = .ok (.iload_n 2, 1) := by decide +kernel
theorem d_L_search_2 : decode (mC M_L_search) 2 = .ok (.invokestatic 18, 3) := by decide +kernel
theorem d_L_search_5 : decode (mC M_L_search) 5 = .ok (.istore_n 3, 1) := by decide +kernel
theorem d_L_search_6 : decode (mC M_L_search) 6 = .ok (.aload_n 0, 1) := by decide +kernel
theorem d_L_search_7 : decode (mC M_L_search) 7 = .ok (.iload_n 3, 1) := by decide +kernel
theorem d_L_search_8 : decode (mC M_L_search) 8 = .ok (.iconst 0, 1) := by decide +kernel
theorem d_L_search_9 : decode (mC M_L_search) 9 = .ok (.invokevirtual 114, 3) := by decide +kernel
theorem d_L_search_12 : decode (mC M_L_search) 12 = .ok (.aload_n 0, 1) := by decide +kernel
theorem d_L_search_13 : decode (mC M_L_search) 13 = .ok (.getfield 42, 3) := by decide +kernel
theorem d_L_search_16 : decode (mC M_L_search) 16 = .ok (.aload_n 0, 1) := by decide +kernel
theorem d_L_search_17 : decode (mC M_L_search) 17 = .ok (.getfield 65, 3) := by decide +kernel
theorem d_L_search_20 : decode (mC M_L_search) 20 = .ok (.iaload, 1) := by decide +kernel
theorem d_L_search_21 : decode (mC M_L_search) 21 = .ok (.iload_n 3, 1) := by decide +kernel
theorem d_L_search_22 : decode (mC M_L_search) 22 = .ok (.if_icmp .le 14, 3) := by decide +kernel
theorem d_L_search_25 : decode (mC M_L_search) 25 = .ok (.iload_n 3, 1) := by decide +kernel
theorem d_L_search_26 : decode (mC M_L_search) 26 = .ok (.iload_n 2, 1) := by decide +kernel
theorem d_L_search_27 : decode (mC M_L_search) 27 = .ok (.if_icmp .ge 9, 3) := by decide +kernel
theorem d_L_search_30 : decode (mC M_L_search) 30 = .ok (.aload_n 0, 1) := by decide +kernel
theorem d_L_search_31 : decode (mC M_L_search) 31 = .ok (.iload_n 2, 1) := by decide +kernel
theorem d_L_search_32 : decode (mC M_L_search) 32 = .ok (.iconst 0, 1) := by decide +kernel
theorem d_L_search_33 : decode (mC M_L_search) 33 = .ok (.invokevirtual 114, 3) := by decide +kernel
theorem d_L_search_36 : decode (mC M_L_search) 36 = .ok (.aload_n 0, 1) := by decide +kernel
theorem d_L_search_37 : decode (mC M_L_search) 37 = .ok (.getfield 42, 3) := by decide +kernel
theorem d_L_search_40 : decode (mC M_L_search) 40 = .ok (.aload_n 0, 1) := by decide +kernel
theorem d_L_search_41 : decode (mC M_L_search) 41 = .ok (.getfield 65, 3) := by decide +kernel
theorem d_L_search_44 : decode (mC M_L_search) 44 = .ok (.iaload, 1) := by decide +kernel
theorem d_L_search_45 : decode (mC M_L_search) 45 = .ok (.iload_n 2, 1) := by decide +kernel
theorem d_L_search_46 : decode (mC M_L_search) 46 = .ok (.if_icmp .gt 15, 3) := by decide +kernel
theorem d_L_search_49 : decode (mC M_L_search) 49 = .ok (.aload_n 0, 1) := by decide +kernel
theorem d_L_search_50 : decode (mC M_L_search) 50 = .ok (.getfield 42, 3) := by decide +kernel
theorem d_L_search_53 : decode (mC M_L_search) 53 = .ok (.aload_n 0, 1) := by decide +kernel
theorem d_L_search_54 : decode (mC M_L_search) 54 = .ok (.getfield 65, 3) := by decide +kernel
theorem d_L_search_57 : decode (mC M_L_search) 57 = .ok (.iaload, 1) := by decide +kernel
theorem d_L_search_58 : decode (mC M_L_search) 58 = .ok (.goto 5, 3) := by decide +kernel
theorem d_L_search_61 : decode (mC M_L_search) 61 = .ok (.bipush (-4), 2) := by decide +kernel
theorem d_L_search_63 : decode (mC M_L_search) 63 = .ok (.ireturn, 1) := by decide +kernel
def vc_L_search_63 (r : Option Value) (hf : hc_H) (J : Nat → hc_K) (lv : hc_L) (st : List Value) (h : hc_H) : Prop := (qi_iret r hf) lv st h
theorem sn_L_search_63 {Ph : Nat → State → Prop} {h0 hf : hc_H} {r : Option Value} : qk Ph M_L_search h0 hf r 63 (vc_L_search_63 r hf (cx Ph M_L_search h0 hf r)) := (qs_iret d_L_search_63 rfl)
def vc_L_search_61 (r : Option Value) (hf : hc_H) (J : Nat → hc_K) (lv : hc_L) (st : List Value) (h : hc_H) : Prop := (qi_push (-4) (vc_L_search_63 r hf J)) lv st h
theorem sn_L_search_61 {Ph : Nat → State → Prop} {h0 hf : hc_H} {r : Option Value} : qk Ph M_L_search h0 hf r 61 (vc_L_search_61 r hf (cx Ph M_L_search h0 hf r)) := (qs_bipush d_L_search_61 (by decide) sn_L_search_63)
def vc_L_search_36 (r : Option Value) (hf : hc_H) (J : Nat → hc_K) (lv : hc_L) (st : List Value) (h : hc_H) : Prop := (qi_aload 0 (qi_get 0 5 (qi_aload 0 (qi_get 0 13 (qi_iald 0 (qi_iload 2 (qi_icmp_gt (vc_L_search_61 r hf J) (qi_aload 0 (qi_get 0 5 (qi_aload 0 (qi_get 0 13 (qi_iald 0 (vc_L_search_63 r hf J))))))))))))) lv st h
theorem sn_L_search_36 {Ph : Nat → State → Prop} {h0 hf : hc_H} {r : Option Value} : qk Ph M_L_search h0 hf r 36 (vc_L_search_36 r hf (cx Ph M_L_search h0 hf r)) := (qs_aload_n d_L_search_36 rfl (qs_get d_L_search_37 ff_L_42 (qs_aload_n d_L_search_40 rfl (qs_get d_L_search_41 ff_L_65 (qs_iaload d_L_search_44 (qs_iload_n d_L_search_45 rfl (qs_icmp_gt (tgt := 61) d_L_search_46 (by decide) sn_L_search_61 (qs_aload_n d_L_search_49 rfl (qs_get d_L_search_50 ff_L_42 (qs_aload_n d_L_search_53 rfl (qs_get d_L_search_54 ff_L_65 (qs_iaload d_L_search_57 (qs_goto (tgt := 63) d_L_search_58 (by decide) sn_L_search_63)))))))))))))
def vc_L_search_0 (r : Option Value) (hf : hc_H) (J : Nat → hc_K) (lv : hc_L) (st : List Value) (h : hc_H) : Prop := (qi_iload 1 (qi_iload 2 (qi_min (qi_istore 3 (qi_aload 0 (qi_iload 3 (qi_push (nI 0) (qi_invV hc_tt M_L_reach 2 0 (qi_aload 0 (qi_get 0 5 (qi_aload 0 (qi_get 0 13 (qi_iald 0 (qi_iload 3 (qi_icmp_le (vc_L_search_36 r hf J) (qi_iload 3 (qi_iload 2 (qi_icmp_ge (vc_L_search_36 r hf J) (qi_aload 0 (qi_iload 2 (qi_push (nI 0) (qi_invV hc_tt M_L_reach 2 0 (vc_L_search_36 r hf J))))))))))))))))))))))) lv st h
theorem sn_L_search_0 {Ph : Nat → State → Prop} {h0 hf : hc_H} {r : Option Value} : qk Ph M_L_search h0 hf r 0 (vc_L_search_0 r hf (cx Ph M_L_search h0 hf r)) := (qs_iload_n d_L_search_0 rfl (qs_iload_n d_L_search_1 rfl (qs_min d_L_search_2 wk_305 (by decide) (by decide) (qs_istore_n d_L_search_5 rfl (by decide) (qs_aload_n d_L_search_6 rfl (qs_iload_n d_L_search_7 rfl (qs_iconst d_L_search_8 (by decide) (qs_invV hc_Ph_tt (fun _ _ _ => trivial) d_L_search_9 zz_L_reach wk_647 ⟨wk_649, wk_12⟩ ⟨_, rfl, rfl⟩ ⟨by decide, by decide⟩ (qs_aload_n d_L_search_12 rfl (qs_get d_L_search_13 ff_L_42 (qs_aload_n d_L_search_16 rfl (qs_get d_L_search_17 ff_L_65 (qs_iaload d_L_search_20 (qs_iload_n d_L_search_21 rfl (qs_icmp_le (tgt := 36) d_L_search_22 (by decide) sn_L_search_36 (qs_iload_n d_L_search_25 rfl (qs_iload_n d_L_search_26 rfl (qs_icmp_ge (tgt := 36) d_L_search_27 (by decide) sn_L_search_36 (qs_aload_n d_L_search_30 rfl (qs_iload_n d_L_search_31 rfl (qs_iconst d_L_search_32 (by decide) (qs_invV hc_Ph_tt (fun _ _ _ => trivial) d_L_search_33 zz_L_reach wk_647 ⟨wk_649, wk_12⟩ ⟨_, rfl, rfl⟩ ⟨by decide, by decide⟩ sn_L_search_36))))))))))))))))))))))
/-! BalancedLine$Lines.hasLine(I)Z -/
abbrev M_L_hasLine : hc_M := (⟨"BalancedLine$Lines", "hasLine", "(I)Z"⟩, prog_2_method_9_code, 2, (some .boolean), 3, 76)
theorem d_L_hasLine_0 : decode (mC M_L_hasLine) 0 = .ok (.aload_n 0, 1) := by decide +kernel
theorem d_L_hasLine_1 : decode (mC M_L_hasLine) 1 = .ok (.iload_n 1, 1) := by decide +kernel
theorem d_L_hasLine_2 : decode (mC M_L_hasLine) 2 = .ok (.iload_n 1, 1) := by decide +kernel
theorem d_L_hasLine_3 : decode (mC M_L_hasLine) 3 = .ok (.invokevirtual 114, 3) := by decide +kernel
theorem d_L_hasLine_6 : decode (mC M_L_hasLine) 6 = .ok (.aload_n 0, 1) := by decide +kernel
theorem d_L_hasLine_7 : decode (mC M_L_hasLine) 7 = .ok (.getfield 42, 3) := by decide +kernel
theorem d_L_hasLine_10 : decode (mC M_L_hasLine) 10 = .ok (.aload_n 0, 1) := by decide +kernel
theorem d_L_hasLine_11 : decode (mC M_L_hasLine) 11 = .ok (.getfield 65, 3) := by decide +kernel
theorem d_L_hasLine_14 : decode (mC M_L_hasLine) 14 = .ok (.iaload, 1) := by decide +kernel
theorem d_L_hasLine_15 : decode (mC M_L_hasLine) 15 = .ok (.iload_n 1, 1) := by decide +kernel
theorem d_L_hasLine_16 : decode (mC M_L_hasLine) 16 = .ok (.if_icmp .gt 7, 3) := by decide +kernel
theorem d_L_hasLine_19 : decode (mC M_L_hasLine) 19 = .ok (.iconst 1, 1) := by decide +kernel
theorem d_L_hasLine_20 : decode (mC M_L_hasLine) 20 = .ok (.goto 4, 3) := by decide +kernel
theorem d_L_hasLine_23 : decode (mC M_L_hasLine) 23 = .ok (.iconst 0, 1) := by decide +kernel
theorem d_L_hasLine_24 : decode (mC M_L_hasLine) 24 = .ok (.ireturn, 1) := by decide +kernel
def vc_L_hasLine_24 (r : Option Value) (hf : hc_H) (J : Nat → hc_K) (lv : hc_L) (st : List Value) (h : hc_H) : Prop := (qi_zret r hf) lv st h
theorem sn_L_hasLine_24 {Ph : Nat → State → Prop} {h0 hf : hc_H} {r : Option Value} : qk Ph M_L_hasLine h0 hf r 24 (vc_L_hasLine_24 r hf (cx Ph M_L_hasLine h0 hf r)) := (qs_zret d_L_hasLine_24 rfl)
def vc_L_hasLine_23 (r : Option Value) (hf : hc_H) (J : Nat → hc_K) (lv : hc_L) (st : List Value) (h : hc_H) : Prop := (qi_push (nI 0) (vc_L_hasLine_24 r hf J)) lv st h
theorem sn_L_hasLine_23 {Ph : Nat → State → Prop} {h0 hf : hc_H} {r : Option Value} : qk Ph M_L_hasLine h0 hf r 23 (vc_L_hasLine_23 r hf (cx Ph M_L_hasLine h0 hf r)) := (qs_iconst d_L_hasLine_23 (by decide) sn_L_hasLine_24)
def vc_L_hasLine_0 (r : Option Value) (hf : hc_H) (J : Nat → hc_K) (lv : hc_L) (st : List Value) (h : hc_H) : Prop := (qi_aload 0 (qi_iload 1 (qi_iload 1 (qi_invV hc_tt M_L_reach 2 0 (qi_aload 0 (qi_get 0 5 (qi_aload 0 (qi_get 0 13 (qi_iald 0 (qi_iload 1 (qi_icmp_gt (vc_L_hasLine_23 r hf J) (qi_push (nI 1) (vc_L_hasLine_24 r hf J))))))))))))) lv st h
theorem sn_L_hasLine_0 {Ph : Nat → State → Prop} {h0 hf : hc_H} {r : Option Value} : qk Ph M_L_hasLine h0 hf r 0 (vc_L_hasLine_0 r hf (cx Ph M_L_hasLine h0 hf r)) := (qs_aload_n d_L_hasLine_0 rfl (qs_iload_n d_L_hasLine_1 rfl (qs_iload_n d_L_hasLine_2 rfl (qs_invV hc_Ph_tt (fun _ _ _ => trivial) d_L_hasLine_3 zz_L_reach wk_647 ⟨wk_649, wk_12⟩ ⟨_, rfl, rfl⟩ ⟨by decide, by decide⟩ (qs_aload_n d_L_hasLine_6 rfl (qs_get d_L_hasLine_7 ff_L_42 (qs_aload_n d_L_hasLine_10 rfl (qs_get d_L_hasLine_11 ff_L_65 (qs_iaload d_L_hasLine_14 (qs_iload_n d_L_hasLine_15 rfl (qs_icmp_gt (tgt := 23) d_L_hasLine_16 (by decide) sn_L_hasLine_23 (qs_iconst d_L_hasLine_19 (by decide) (qs_goto (tgt := 24) d_L_hasLine_20 (by decide) sn_L_hasLine_24)))))))))))))
/-! BalancedLine$Lines.traceStep(III)V -/
abbrev M_L_traceStep : hc_M := (⟨"BalancedLine$Lines", "traceStep", "(III)V"⟩, prog_2_method_16_code, 7, none, 1, 21)
theorem d_L_traceStep_0 : decode (mC M_L_traceStep) 0 = .ok (.iload_n 1, 1) := by decide +kernel
theorem d_L_traceStep_1 : decode (mC M_L_traceStep) 1 = .ok (.iload_n 2, 1) := by decide +kernel
theorem d_L_traceStep_2 : decode (mC M_L_traceStep) 2 = .ok (.ior, 1) := by decide +kernel
theorem d_L_traceStep_3 : decode (mC M_L_traceStep) 3 = .ok (.istore 4, 2) := by decide +kernel
theorem d_L_traceStep_5 : decode (mC M_L_traceStep) 5 = .ok (.aload_n 0, 1) := by decide +kernel
theorem d_L_traceStep_6 : decode (mC M_L_traceStep) 6 = .ok (.getfield 52, 3) := by decide +kernel
theorem d_L_traceStep_9 : decode (mC M_L_traceStep) 9 = .ok (.iload 4, 2) := by decide +kernel
theorem d_L_traceStep_11 : decode (mC M_L_traceStep) 11 = .ok (.laload, 1) := by decide +kernel
theorem d_L_traceStep_12 : decode (mC M_L_traceStep) 12 = .ok (.aload_n 0, 1) := by decide +kernel
theorem d_L_traceStep_13 : decode (mC M_L_traceStep) 13 = .ok (.getfield 56, 3) := by decide +kernel
theorem d_L_traceStep_16 : decode (mC M_L_traceStep) 16 = .ok (.iload_n 2, 1) := by decide +kernel
theorem d_L_traceStep_17 : decode (mC M_L_traceStep) 17 = .ok (.laload, 1) := by decide +kernel
theorem d_L_traceStep_18 : decode (mC M_L_traceStep) 18 = .ok (.iload_n 3, 1) := by decide +kernel
theorem d_L_traceStep_19 : decode (mC M_L_traceStep) 19 = .ok (.i2l, 1) := by decide +kernel
theorem d_L_traceStep_20 : decode (mC M_L_traceStep) 20 = .ok (.lmul, 1) := by decide +kernel
theorem d_L_traceStep_21 : decode (mC M_L_traceStep) 21 = .ok (.lor, 1) := by decide +kernel
theorem d_L_traceStep_22 : decode (mC M_L_traceStep) 22 = .ok (.lstore 5, 2) := by decide +kernel
theorem d_L_traceStep_24 : decode (mC M_L_traceStep) 24 = .ok (.aload_n 0, 1) := by decide +kernel
theorem d_L_traceStep_25 : decode (mC M_L_traceStep) 25 = .ok (.getfield 45, 3) := by decide +kernel
theorem d_L_traceStep_28 : decode (mC M_L_traceStep) 28 = .ok (.iload_n 1, 1) := by decide +kernel
theorem d_L_traceStep_29 : decode (mC M_L_traceStep) 29 = .ok (.iaload, 1) := by decide +kernel
theorem d_L_traceStep_30 : decode (mC M_L_traceStep) 30 = .ok (.ifCond .eq 15, 3) := by decide +kernel
theorem d_L_traceStep_33 : decode (mC M_L_traceStep) 33 = .ok (.lload 5, 2) := by decide +kernel
theorem d_L_traceStep_35 : decode (mC M_L_traceStep) 35 = .ok (.aload_n 0, 1) := by decide +kernel
theorem d_L_traceStep_36 : decode (mC M_L_traceStep) 36 = .ok (.getfield 52, 3) := by decide +kernel
theorem d_L_traceStep_39 : decode (mC M_L_traceStep) 39 = .ok (.iload_n 1, 1) := by decide +kernel
theorem d_L_traceStep_40 : decode (mC M_L_traceStep) 40 = .ok (.laload, 1) := by decide +kernel
theorem d_L_traceStep_41 : decode (mC M_L_traceStep) 41 = .ok (.lcmp, 1) := by decide +kernel
theorem d_L_traceStep_42 : decode (mC M_L_traceStep) 42 = .ok (.ifCond .ge 11, 3) := by decide +kernel
theorem d_L_traceStep_45 : decode (mC M_L_traceStep) 45 = .ok (.aload_n 0, 1) := by decide +kernel
theorem d_L_traceStep_46 : decode (mC M_L_traceStep) 46 = .ok (.getfield 52, 3) := by decide +kernel
theorem d_L_traceStep_49 : decode (mC M_L_traceStep) 49 = .ok (.iload_n 1, 1) := by decide +kernel
theorem d_L_traceStep_50 : decode (mC M_L_traceStep) 50 = .ok (.lload 5, 2) := by decide +kernel
theorem d_L_traceStep_52 : decode (mC M_L_traceStep) 52 = .ok (.lastore, 1) := by decide +kernel
theorem d_L_traceStep_53 : decode (mC M_L_traceStep) 53 = .ok (.aload_n 0, 1) := by decide +kernel
theorem d_L_traceStep_54 : decode (mC M_L_traceStep) 54 = .ok (.getfield 45, 3) := by decide +kernel
theorem d_L_traceStep_57 : decode (mC M_L_traceStep) 57 = .ok (.iload_n 1, 1) := by decide +kernel
theorem d_L_traceStep_58 : decode (mC M_L_traceStep) 58 = .ok (.ldc 139, 2) := by decide +kernel
theorem d_L_traceStep_60 : decode (mC M_L_traceStep) 60 = .ok (.aload_n 0, 1) := by decide +kernel
theorem d_L_traceStep_61 : decode (mC M_L_traceStep) 61 = .ok (.getfield 45, 3) := by decide +kernel
theorem d_L_traceStep_64 : decode (mC M_L_traceStep) 64 = .ok (.iload_n 1, 1) := by decide +kernel
theorem d_L_traceStep_65 : decode (mC M_L_traceStep) 65 = .ok (.iaload, 1) := by decide +kernel
theorem d_L_traceStep_66 : decode (mC M_L_traceStep) 66 = .ok (.aload_n 0, 1) := by decide +kernel
theorem d_L_traceStep_67 : decode (mC M_L_traceStep) 67 = .ok (.getfield 45, 3) := by decide +kernel
theorem d_L_traceStep_70 : decode (mC M_L_traceStep) 70 = .ok (.iload 4, 2) := by decide +kernel
theorem d_L_traceStep_72 : decode (mC M_L_traceStep) 72 = .ok (.iaload, 1) := by decide +kernel
theorem d_L_traceStep_73 : decode (mC M_L_traceStep) 73 = .ok (.iadd, 1) := by decide +kernel
theorem d_L_traceStep_74 : decode (mC M_L_traceStep) 74 = .ok (.invokestatic 18, 3) := by decide +kernel
theorem d_L_traceStep_77 : decode (mC M_L_traceStep) 77 = .ok (.iastore, 1) := by decide +kernel
theorem d_L_traceStep_78 : decode (mC M_L_traceStep) 78 = .ok (.aload_n 0, 1) := by decide +kernel
theorem d_L_traceStep_79 : decode (mC M_L_traceStep) 79 = .ok (.getfield 9, 3) := by decide +kernel
theorem d_L_traceStep_82 : decode (mC M_L_traceStep) 82 = .ok (.iload_n 3, 1) := by decide +kernel
theorem d_L_traceStep_83 : decode (mC M_L_traceStep) 83 = .ok (.dup2, 1) := by decide +kernel
theorem d_L_traceStep_84 : decode (mC M_L_traceStep) 84 = .ok (.iaload, 1) := by decide +kernel
theorem d_L_traceStep_85 : decode (mC M_L_traceStep) 85 = .ok (.iload_n 2, 1) := by decide +kernel
theorem d_L_traceStep_86 : decode (mC M_L_traceStep) 86 = .ok (.ior, 1) := by decide +kernel
theorem d_L_traceStep_87 : decode (mC M_L_traceStep) 87 = .ok (.iastore, 1) := by decide +kernel
theorem d_L_traceStep_88 : decode (mC M_L_traceStep) 88 = .ok (.return_, 1) := by decide +kernel
def vc_L_traceStep_53 (r : Option Value) (hf : hc_H) (J : Nat → hc_K) (lv : hc_L) (st : List Value) (h : hc_H) : Prop := (qi_aload 0 (qi_get 0 6 (qi_iload 1 (qi_push (nI 1000000) (qi_aload 0 (qi_get 0 6 (qi_iload 1 (qi_iald 0 (qi_aload 0 (qi_get 0 6 (qi_iload 4 (qi_iald 0 (qi_iadd (qi_min (qi_iast (qi_aload 0 (qi_get 0 10 (qi_iload 3 (qi_dup2 (qi_iald 0 (qi_iload 2 (qi_ior (qi_iast (qi_vret r hf)))))))))))))))))))))))) lv st h
theorem sn_L_traceStep_53 {Ph : Nat → State → Prop} {h0 hf : hc_H} {r : Option Value} : qk Ph M_L_traceStep h0 hf r 53 (vc_L_traceStep_53 r hf (cx Ph M_L_traceStep h0 hf r)) := (qs_aload_n d_L_traceStep_53 rfl (qs_get d_L_traceStep_54 ff_L_45 (qs_iload_n d_L_traceStep_57 rfl (qs_ldc d_L_traceStep_58 (by first | exact wk_689 | exact (show _ ∈ lw_g from wk_689)) (qs_aload_n d_L_traceStep_60 rfl (qs_get d_L_traceStep_61 ff_L_45 (qs_iload_n d_L_traceStep_64 rfl (qs_iaload d_L_traceStep_65 (qs_aload_n d_L_traceStep_66 rfl (qs_get d_L_traceStep_67 ff_L_45 (qs_iload d_L_traceStep_70 (qs_iaload d_L_traceStep_72 (qs_iadd d_L_traceStep_73 (qs_min d_L_traceStep_74 wk_305 (by decide) (by decide) (qs_iastore d_L_traceStep_77 (qs_aload_n d_L_traceStep_78 rfl (qs_get d_L_traceStep_79 ff_L_9 (qs_iload_n d_L_traceStep_82 rfl (qs_dup2 d_L_traceStep_83 (qs_iaload d_L_traceStep_84 (qs_iload_n d_L_traceStep_85 rfl (qs_ior d_L_traceStep_86 (qs_iastore d_L_traceStep_87 (qs_vret d_L_traceStep_88 rfl))))))))))))))))))))))))
def vc_L_traceStep_45 (r : Option Value) (hf : hc_H) (J : Nat → hc_K) (lv : hc_L) (st : List Value) (h : hc_H) : Prop := (qi_aload 0 (qi_get 0 8 (qi_iload 1 (qi_lload 5 (qi_last (vc_L_traceStep_53 r hf J)))))) lv st h
theorem sn_L_traceStep_45 {Ph : Nat → State → Prop} {h0 hf : hc_H} {r : Option Value} : qk Ph M_L_traceStep h0 hf r 45 (vc_L_traceStep_45 r hf (cx Ph M_L_traceStep h0 hf r)) := (qs_aload_n d_L_traceStep_45 rfl (qs_get d_L_traceStep_46 ff_L_52 (qs_iload_n d_L_traceStep_49 rfl (qs_lload d_L_traceStep_50 (qs_lastore d_L_traceStep_52 sn_L_traceStep_53)))))
def vc_L_traceStep_0 (r : Option Value) (hf : hc_H) (J : Nat → hc_K) (lv : hc_L) (st : List Value) (h : hc_H) : Prop := (qi_iload 1 (qi_iload 2 (qi_ior (qi_istore 4 (qi_aload 0 (qi_get 0 8 (qi_iload 4 (qi_lald (qi_aload 0 (qi_get 0 9 (qi_iload 2 (qi_lald (qi_iload 3 (qi_i2l (qi_lmul (qi_lor (qi_lstore 5 (qi_aload 0 (qi_get 0 6 (qi_iload 1 (qi_iald 0 (qi_if_eq (vc_L_traceStep_45 r hf J) (qi_lload 5 (qi_aload 0 (qi_get 0 8 (qi_iload 1 (qi_lald (qi_lcmp (qi_if_ge (vc_L_traceStep_53 r hf J) (vc_L_traceStep_45 r hf J)))))))))))))))))))))))))))))) lv st h
theorem sn_L_traceStep_0 {Ph : Nat → State → Prop} {h0 hf : hc_H} {r : Option Value} : qk Ph M_L_traceStep h0 hf r 0 (vc_L_traceStep_0 r hf (cx Ph M_L_traceStep h0 hf r)) := (qs_iload_n d_L_traceStep_0 rfl (qs_iload_n d_L_traceStep_1 rfl (qs_ior d_L_traceStep_2 (qs_istore d_L_traceStep_3 (by decide) (qs_aload_n d_L_traceStep_5 rfl (qs_get d_L_traceStep_6 ff_L_52 (qs_iload d_L_traceStep_9 (qs_laload d_L_traceStep_11 (qs_aload_n d_L_traceStep_12 rfl (qs_get d_L_traceStep_13 ff_L_56 (qs_iload_n d_L_traceStep_16 rfl (qs_laload d_L_traceStep_17 (qs_iload_n d_L_traceStep_18 rfl (qs_i2l d_L_traceStep_19 (qs_lmul d_L_traceStep_20 (qs_lor d_L_traceStep_21 (qs_lstore d_L_traceStep_22 (by decide) (qs_aload_n d_L_traceStep_24 rfl (qs_get d_L_traceStep_25 ff_L_45 (qs_iload_n d_L_traceStep_28 rfl (qs_iaload d_L_traceStep_29 (qs_if_eq (tgt := 45) d_L_traceStep_30 (by decide) sn_L_traceStep_45 (qs_lload d_L_traceStep_33 (qs_aload_n d_L_traceStep_35 rfl (qs_get d_L_traceStep_36 ff_L_52 (qs_iload_n d_L_traceStep_39 rfl (qs_laload d_L_traceStep_40 (qs_lcmp d_L_traceStep_41 (qs_if_ge (tgt := 53) d_L_traceStep_42 (by decide) sn_L_traceStep_53 sn_L_traceStep_45)))))))))))))))))))))))))))))
theorem zz_L_traceStep : hc_z M_L_traceStep 3 := ⟨wk_688, wk_64, by decide +kernel⟩
theorem zz_B_isStation : hc_z M_B_isStation 1 := ⟨wk_537, wk_54, by decide +kernel⟩
/-! BalancedLine$Lines.traceFrom(I)V -/
abbrev M_L_traceFrom : hc_M := (⟨"BalancedLine$Lines", "traceFrom", "(I)V"⟩, prog_2_method_15_code, 5, none, 2, 47)
theorem d_L_traceFrom_0 : decode (mC M_L_traceFrom) 0 = .ok (.aload_n 0, 1) := by decide +kernel
theorem d_L_traceFrom_1 : decode (mC M_L_traceFrom) 1 = .ok (.getfield 42, 3) := by decide +kernel
theorem d_L_traceFrom_4 : decode (mC M_L_traceFrom) 4 = .ok (.iload_n 1, 1) := by decide +kernel
theorem d_L_traceFrom_5 : decode (mC M_L_traceFrom) 5 = .ok (.iaload, 1) := by decide +kernel
theorem d_L_traceFrom_6 : decode (mC M_L_traceFrom) 6 = .ok (.istore_n 2, 1) := by decide +kernel
theorem d_L_traceFrom_7 : decode (mC M_L_traceFrom) 7 = .ok (.iload_n 2, 1) := by decide +kernel
theorem d_L_traceFrom_8 : decode (mC M_L_traceFrom) 8 = .ok (.invokestatic 131, 3) := by decide +kernel
theorem d_L_traceFrom_11 : decode (mC M_L_traceFrom) 11 = .ok (.ifCond .ne 4, 3) := by decide +kernel
theorem d_L_traceFrom_14 : decode (mC M_L_traceFrom) 14 = .ok (.return_, 1) := by decide +kernel
theorem d_L_traceFrom_15 : decode (mC M_L_traceFrom) 15 = .ok (.iload_n 1, 1) := by decide +kernel
theorem d_L_traceFrom_16 : decode (mC M_L_traceFrom) 16 = .ok (.istore_n 3, 1) := by decide +kernel
theorem d_L_traceFrom_17 : decode (mC M_L_traceFrom) 17 = .ok (.iload_n 3, 1) := by decide +kernel
theorem d_L_traceFrom_18 : decode (mC M_L_traceFrom) 18 = .ok (.ifCond .le 54, 3) := by decide +kernel
theorem d_L_traceFrom_21 : decode (mC M_L_traceFrom) 21 = .ok (.iload_n 1, 1) := by decide +kernel
theorem d_L_traceFrom_22 : decode (mC M_L_traceFrom) 22 = .ok (.iload_n 3, 1) := by decide +kernel
theorem d_L_traceFrom_23 : decode (mC M_L_traceFrom) 23 = .ok (.iconst (-1), 1) := by decide +kernel
theorem d_L_traceFrom_24 : decode (mC M_L_traceFrom) 24 = .ok (.ixor, 1) := by decide +kernel
theorem d_L_traceFrom_25 : decode (mC M_L_traceFrom) 25 = .ok (.iand, 1) := by decide +kernel
theorem d_L_traceFrom_26 : decode (mC M_L_traceFrom) 26 = .ok (.istore 4, 2) := by decide +kernel
theorem d_L_traceFrom_28 : decode (mC M_L_traceFrom) 28 = .ok (.aload_n 0, 1) := by decide +kernel
theorem d_L_traceFrom_29 : decode (mC M_L_traceFrom) 29 = .ok (.getfield 42, 3) := by decide +kernel
theorem d_L_traceFrom_32 : decode (mC M_L_traceFrom) 32 = .ok (.iload 4, 2) := by decide +kernel
theorem d_L_traceFrom_34 : decode (mC M_L_traceFrom) 34 = .ok (.iaload, 1) := by decide +kernel
theorem d_L_traceFrom_35 : decode (mC M_L_traceFrom) 35 = .ok (.iload_n 2, 1) := by decide +kernel
theorem d_L_traceFrom_36 : decode (mC M_L_traceFrom) 36 = .ok (.iconst 1, 1) := by decide +kernel
theorem d_L_traceFrom_37 : decode (mC M_L_traceFrom) 37 = .ok (.isub, 1) := by decide +kernel
theorem d_L_traceFrom_38 : decode (mC M_L_traceFrom) 38 = .ok (.if_icmp .ne 25, 3) := by decide +kernel
theorem d_L_traceFrom_41 : decode (mC M_L_traceFrom) 41 = .ok (.aload_n 0, 1) := by decide +kernel
theorem d_L_traceFrom_42 : decode (mC M_L_traceFrom) 42 = .ok (.getfield 39, 3) := by decide +kernel
theorem d_L_traceFrom_45 : decode (mC M_L_traceFrom) 45 = .ok (.iload_n 3, 1) := by decide +kernel
theorem d_L_traceFrom_46 : decode (mC M_L_traceFrom) 46 = .ok (.iaload, 1) := by decide +kernel
theorem d_L_traceFrom_47 : decode (mC M_L_traceFrom) 47 = .ok (.iload 4, 2) := by decide +kernel
theorem d_L_traceFrom_49 : decode (mC M_L_traceFrom) 49 = .ok (.iconst (-1), 1) := by decide +kernel
theorem d_L_traceFrom_50 : decode (mC M_L_traceFrom) 50 = .ok (.ixor, 1) := by decide +kernel
theorem d_L_traceFrom_51 : decode (mC M_L_traceFrom) 51 = .ok (.iand, 1) := by decide +kernel
theorem d_L_traceFrom_52 : decode (mC M_L_traceFrom) 52 = .ok (.ifCond .ne 11, 3) := by decide +kernel
theorem d_L_traceFrom_55 : decode (mC M_L_traceFrom) 55 = .ok (.aload_n 0, 1) := by decide +kernel
theorem d_L_traceFrom_56 : decode (mC M_L_traceFrom) 56 = .ok (.iload 4, 2) := by decide +kernel
theorem d_L_traceFrom_58 : decode (mC M_L_traceFrom) 58 = .ok (.iload_n 3, 1) := by decide +kernel
theorem d_L_traceFrom_59 : decode (mC M_L_traceFrom) 59 = .ok (.iload_n 2, 1) := by decide +kernel
theorem d_L_traceFrom_60 : decode (mC M_L_traceFrom) 60 = .ok (.invokevirtual 135, 3) := by decide +kernel
theorem d_L_traceFrom_63 : decode (mC M_L_traceFrom) 63 = .ok (.iload_n 3, 1) := by decide +kernel
theorem d_L_traceFrom_64 : decode (mC M_L_traceFrom) 64 = .ok (.iconst 1, 1) := by decide +kernel
theorem d_L_traceFrom_65 : decode (mC M_L_traceFrom) 65 = .ok (.isub, 1) := by decide +kernel
theorem d_L_traceFrom_66 : decode (mC M_L_traceFrom) 66 = .ok (.iload_n 1, 1) := by decide +kernel
theorem d_L_traceFrom_67 : decode (mC M_L_traceFrom) 67 = .ok (.iand, 1) := by decide +kernel
theorem d_L_traceFrom_68 : decode (mC M_L_traceFrom) 68 = .ok (.istore_n 3, 1) := by decide +kernel
theorem d_L_traceFrom_69 : decode (mC M_L_traceFrom) 69 = .ok (.goto (-52), 3) := by decide +kernel
theorem d_L_traceFrom_72 : decode (mC M_L_traceFrom) 72 = .ok (.return_, 1) := by decide +kernel
def vc_L_traceFrom_72 (r : Option Value) (hf : hc_H) (J : Nat → hc_K) (lv : hc_L) (st : List Value) (h : hc_H) : Prop := (qi_vret r hf) lv st h
theorem sn_L_traceFrom_72 {Ph : Nat → State → Prop} {h0 hf : hc_H} {r : Option Value} : qk Ph M_L_traceFrom h0 hf r 72 (vc_L_traceFrom_72 r hf (cx Ph M_L_traceFrom h0 hf r)) := (qs_vret d_L_traceFrom_72 rfl)
def vc_L_traceFrom_63 (r : Option Value) (hf : hc_H) (J : Nat → hc_K) (lv : hc_L) (st : List Value) (h : hc_H) : Prop := (qi_iload 3 (qi_push (nI 1) (qi_isub (qi_iload 1 (qi_iand (qi_istore 3 (J 17))))))) lv st h
theorem sn_L_traceFrom_63 {Ph : Nat → State → Prop} {h0 hf : hc_H} {r : Option Value} : qk Ph M_L_traceFrom h0 hf r 63 (vc_L_traceFrom_63 r hf (cx Ph M_L_traceFrom h0 hf r)) := (qs_iload_n d_L_traceFrom_63 rfl (qs_iconst d_L_traceFrom_64 (by decide) (qs_isub d_L_traceFrom_65 (qs_iload_n d_L_traceFrom_66 rfl (qs_iand d_L_traceFrom_67 (qs_istore_n d_L_traceFrom_68 rfl (by decide) (qs_goto (tgt := 17) d_L_traceFrom_69 (by decide) (fun _ _ _ h9 => h9))))))))
def vc_L_traceFrom_17 (r : Option Value) (hf : hc_H) (J : Nat → hc_K) (lv : hc_L) (st : List Value) (h : hc_H) : Prop := (qi_iload 3 (qi_if_le (vc_L_traceFrom_72 r hf J) (qi_iload 1 (qi_iload 3 (qi_push (-1) (qi_ixor (qi_iand (qi_istore 4 (qi_aload 0 (qi_get 0 5 (qi_iload 4 (qi_iald 0 (qi_iload 2 (qi_push (nI 1) (qi_isub (qi_icmp_ne (vc_L_traceFrom_63 r hf J) (qi_aload 0 (qi_get 0 4 (qi_iload 3 (qi_iald 0 (qi_iload 4 (qi_push (-1) (qi_ixor (qi_iand (qi_if_ne (vc_L_traceFrom_63 r hf J) (qi_aload 0 (qi_iload 4 (qi_iload 3 (qi_iload 2 (qi_invV hc_tt M_L_traceStep 3 0 (vc_L_traceFrom_63 r hf J))))))))))))))))))))))))))))))) lv st h
theorem sn_L_traceFrom_17 {Ph : Nat → State → Prop} {h0 hf : hc_H} {r : Option Value} : qk Ph M_L_traceFrom h0 hf r 17 (vc_L_traceFrom_17 r hf (cx Ph M_L_traceFrom h0 hf r)) := (qs_iload_n d_L_traceFrom_17 rfl (qs_if_le (tgt := 72) d_L_traceFrom_18 (by decide) sn_L_traceFrom_72 (qs_iload_n d_L_traceFrom_21 rfl (qs_iload_n d_L_traceFrom_22 rfl (qs_iconst d_L_traceFrom_23 (by decide) (qs_ixor d_L_traceFrom_24 (qs_iand d_L_traceFrom_25 (qs_istore d_L_traceFrom_26 (by decide) (qs_aload_n d_L_traceFrom_28 rfl (qs_get d_L_traceFrom_29 ff_L_42 (qs_iload d_L_traceFrom_32 (qs_iaload d_L_traceFrom_34 (qs_iload_n d_L_traceFrom_35 rfl (qs_iconst d_L_traceFrom_36 (by decide) (qs_isub d_L_traceFrom_37 (qs_icmp_ne (tgt := 63) d_L_traceFrom_38 (by decide) sn_L_traceFrom_63 (qs_aload_n d_L_traceFrom_41 rfl (qs_get d_L_traceFrom_42 ff_L_39 (qs_iload_n d_L_traceFrom_45 rfl (qs_iaload d_L_traceFrom_46 (qs_iload d_L_traceFrom_47 (qs_iconst d_L_traceFrom_49 (by decide) (qs_ixor d_L_traceFrom_50 (qs_iand d_L_traceFrom_51 (qs_if_ne (tgt := 63) d_L_traceFrom_52 (by decide) sn_L_traceFrom_63 (qs_aload_n d_L_traceFrom_55 rfl (qs_iload d_L_traceFrom_56 (qs_iload_n d_L_traceFrom_58 rfl (qs_iload_n d_L_traceFrom_59 rfl (qs_invV hc_Ph_tt (fun _ _ _ => trivial) d_L_traceFrom_60 zz_L_traceStep wk_685 ⟨wk_687, wk_17⟩ ⟨_, rfl, rfl⟩ ⟨by decide, by decide⟩ sn_L_traceFrom_63))))))))))))))))))))))))))))))
def vc_L_traceFrom_15 (r : Option Value) (hf : hc_H) (J : Nat → hc_K) (lv : hc_L) (st : List Value) (h : hc_H) : Prop := (qi_iload 1 (qi_istore 3 (J 17))) lv st h
theorem sn_L_traceFrom_15 {Ph : Nat → State → Prop} {h0 hf : hc_H} {r : Option Value} : qk Ph M_L_traceFrom h0 hf r 15 (vc_L_traceFrom_15 r hf (cx Ph M_L_traceFrom h0 hf r)) := (qs_iload_n d_L_traceFrom_15 rfl (qs_istore_n d_L_traceFrom_16 rfl (by decide) (fun _ _ _ h9 => h9)))
def vc_L_traceFrom_0 (r : Option Value) (hf : hc_H) (J : Nat → hc_K) (lv : hc_L) (st : List Value) (h : hc_H) : Prop := (qi_aload 0 (qi_get 0 5 (qi_iload 1 (qi_iald 0 (qi_istore 2 (qi_iload 2 (qi_invS hc_tt M_B_isStation 1 (qi_if_ne (vc_L_traceFrom_15 r hf J) (qi_vret r hf))))))))) lv st h
theorem sn_L_traceFrom_0 {Ph : Nat → State → Prop} {h0 hf : hc_H} {r : Option Value} : qk Ph M_L_traceFrom h0 hf r 0 (vc_L_traceFrom_0 r hf (cx Ph M_L_traceFrom h0 hf r)) := (qs_aload_n d_L_traceFrom_0 rfl (qs_get d_L_traceFrom_1 ff_L_42 (qs_iload_n d_L_traceFrom_4 rfl (qs_iaload d_L_traceFrom_5 (qs_istore_n d_L_traceFrom_6 rfl (by decide) (qs_iload_n d_L_traceFrom_7 rfl (qs_invSN hc_Ph_tt (fun _ _ _ => trivial) d_L_traceFrom_8 zz_B_isStation (fun U hN => hN.2.2.2.2.1) wk_536 ⟨by decide, by decide⟩ (qs_if_ne (tgt := 15) d_L_traceFrom_11 (by decide) sn_L_traceFrom_15 (qs_vret d_L_traceFrom_14 rfl)))))))))
theorem zz_L_traceFrom : hc_z M_L_traceFrom 1 := ⟨wk_683, wk_64, by decide +kernel⟩
/-! BalancedLine$Lines.traceBest()V -/
abbrev M_L_traceBest : hc_M := (⟨"BalancedLine$Lines", "traceBest", "()V"⟩, prog_2_method_14_code, 2, none, 3, 71)
theorem d_L_traceBest_0 : decode (mC M_L_traceBest) 0 = .ok (.aload_n 0, 1) := by decide +kernel
theorem d_L_traceBest_1 : decode (mC M_L_traceBest) 1 = .ok (.getfield 45, 3) := by decide +kernel
theorem d_L_traceBest_4 : decode (mC M_L_traceBest) 4 = .ok (.iconst 0, 1) := by decide +kernel
theorem d_L_traceBest_5 : decode (mC M_L_traceBest) 5 = .ok (.invokestatic 102, 3) := by decide +kernel
theorem d_L_traceBest_8 : decode (mC M_L_traceBest) 8 = .ok (.aload_n 0, 1) := by decide +kernel
theorem d_L_traceBest_9 : decode (mC M_L_traceBest) 9 = .ok (.getfield 9, 3) := by decide +kernel
theorem d_L_traceBest_12 : decode (mC M_L_traceBest) 12 = .ok (.iconst 0, 1) := by decide +kernel
theorem d_L_traceBest_13 : decode (mC M_L_traceBest) 13 = .ok (.invokestatic 102, 3) := by decide +kernel
theorem d_L_traceBest_16 : decode (mC M_L_traceBest) 16 = .ok (.aload_n 0, 1) := by decide +kernel
theorem d_L_traceBest_17 : decode (mC M_L_traceBest) 17 = .ok (.getfield 45, 3) := by decide +kernel
theorem d_L_traceBest_20 : decode (mC M_L_traceBest) 20 = .ok (.aload_n 0, 1) := by decide +kernel
theorem d_L_traceBest_21 : decode (mC M_L_traceBest) 21 = .ok (.getfield 65, 3) := by decide +kernel
theorem d_L_traceBest_24 : decode (mC M_L_traceBest) 24 = .ok (.iconst 1, 1) := by decide +kernel
theorem d_L_traceBest_25 : decode (mC M_L_traceBest) 25 = .ok (.iastore, 1) := by decide +kernel
theorem d_L_traceBest_26 : decode (mC M_L_traceBest) 26 = .ok (.aload_n 0, 1) := by decide +kernel
theorem d_L_traceBest_27 : decode (mC M_L_traceBest) 27 = .ok (.getfield 52, 3) := by decide +kernel
theorem d_L_traceBest_30 : decode (mC M_L_traceBest) 30 = .ok (.aload_n 0, 1) := by decide +kernel
theorem d_L_traceBest_31 : decode (mC M_L_traceBest) 31 = .ok (.getfield 65, 3) := by decide +kernel
theorem d_L_traceBest_34 : decode (mC M_L_traceBest) 34 = .ok (.lconst 0, 1) := by decide +kernel
theorem d_L_traceBest_35 : decode (mC M_L_traceBest) 35 = .ok (.lastore, 1) := by decide +kernel
theorem d_L_traceBest_36 : decode (mC M_L_traceBest) 36 = .ok (.aload_n 0, 1) := by decide +kernel
theorem d_L_traceBest_37 : decode (mC M_L_traceBest) 37 = .ok (.getfield 65, 3) := by decide +kernel
theorem d_L_traceBest_40 : decode (mC M_L_traceBest) 40 = .ok (.istore_n 1, 1) := by decide +kernel
theorem d_L_traceBest_41 : decode (mC M_L_traceBest) 41 = .ok (.iload_n 1, 1) := by decide +kernel
theorem d_L_traceBest_42 : decode (mC M_L_traceBest) 42 = .ok (.ifCond .le 23, 3) := by decide +kernel
theorem d_L_traceBest_45 : decode (mC M_L_traceBest) 45 = .ok (.aload_n 0, 1) := by decide +kernel
theorem d_L_traceBest_46 : decode (mC M_L_traceBest) 46 = .ok (.getfield 45, 3) := by decide +kernel
theorem d_L_traceBest_49 : decode (mC M_L_traceBest) 49 = .ok (.iload_n 1, 1) := by decide +kernel
theorem d_L_traceBest_50 : decode (mC M_L_traceBest) 50 = .ok (.iaload, 1) := by decide +kernel
theorem d_L_traceBest_51 : decode (mC M_L_traceBest) 51 = .ok (.ifCond .le 8, 3) := by decide +kernel
theorem d_L_traceBest_54 : decode (mC M_L_traceBest) 54 = .ok (.aload_n 0, 1) := by decide +kernel
theorem d_L_traceBest_55 : decode (mC M_L_traceBest) 55 = .ok (.iload_n 1, 1) := by decide +kernel
theorem d_L_traceBest_56 : decode (mC M_L_traceBest) 56 = .ok (.invokevirtual 128, 3) := by decide +kernel
theorem d_L_traceBest_59 : decode (mC M_L_traceBest) 59 = .ok (.iinc 1 (-1), 3) := by decide +kernel
theorem d_L_traceBest_62 : decode (mC M_L_traceBest) 62 = .ok (.goto (-21), 3) := by decide +kernel
theorem d_L_traceBest_65 : decode (mC M_L_traceBest) 65 = .ok (.return_, 1) := by decide +kernel
def vc_L_traceBest_65 (r : Option Value) (hf : hc_H) (J : Nat → hc_K) (lv : hc_L) (st : List Value) (h : hc_H) : Prop := (qi_vret r hf) lv st h
theorem sn_L_traceBest_65 {Ph : Nat → State → Prop} {h0 hf : hc_H} {r : Option Value} : qk Ph M_L_traceBest h0 hf r 65 (vc_L_traceBest_65 r hf (cx Ph M_L_traceBest h0 hf r)) := (qs_vret d_L_traceBest_65 rfl)
def vc_L_traceBest_59 (r : Option Value) (hf : hc_H) (J : Nat → hc_K) (lv : hc_L) (st : List Value) (h : hc_H) : Prop := (qi_iinc 1 (-1) (J 41)) lv st h
theorem sn_L_traceBest_59 {Ph : Nat → State → Prop} {h0 hf : hc_H} {r : Option Value} : qk Ph M_L_traceBest h0 hf r 59 (vc_L_traceBest_59 r hf (cx Ph M_L_traceBest h0 hf r)) := (qs_iinc d_L_traceBest_59 (by decide) (by decide) (qs_goto (tgt := 41) d_L_traceBest_62 (by decide) (fun _ _ _ h9 => h9)))
def vc_L_traceBest_41 (r : Option Value) (hf : hc_H) (J : Nat → hc_K) (lv : hc_L) (st : List Value) (h : hc_H) : Prop := (qi_iload 1 (qi_if_le (vc_L_traceBest_65 r hf J) (qi_aload 0 (qi_get 0 6 (qi_iload 1 (qi_iald 0 (qi_if_le (vc_L_traceBest_59 r hf J) (qi_aload 0 (qi_iload 1 (qi_invV hc_tt M_L_traceFrom 1 0 (vc_L_traceBest_59 r hf J))))))))))) lv st h
theorem sn_L_traceBest_41 {Ph : Nat → State → Prop} {h0 hf : hc_H} {r : Option Value} : qk Ph M_L_traceBest h0 hf r 41 (vc_L_traceBest_41 r hf (cx Ph M_L_traceBest h0 hf r)) := (qs_iload_n d_L_traceBest_41 rfl (qs_if_le (tgt := 65) d_L_traceBest_42 (by decide) sn_L_traceBest_65 (qs_aload_n d_L_traceBest_45 rfl (qs_get d_L_traceBest_46 ff_L_45 (qs_iload_n d_L_traceBest_49 rfl (qs_iaload d_L_traceBest_50 (qs_if_le (tgt := 59) d_L_traceBest_51 (by decide) sn_L_traceBest_59 (qs_aload_n d_L_traceBest_54 rfl (qs_iload_n d_L_traceBest_55 rfl (qs_invV hc_Ph_tt (fun _ _ _ => trivial) d_L_traceBest_56 zz_L_traceFrom wk_680 ⟨wk_682, wk_16⟩ ⟨_, rfl, rfl⟩ ⟨by decide, by decide⟩ sn_L_traceBest_59))))))))))
def vc_L_traceBest_0 (r : Option Value) (hf : hc_H) (J : Nat → hc_K) (lv : hc_L) (st : List Value) (h : hc_H) : Prop := (qi_aload 0 (qi_get 0 6 (qi_push (nI 0) (qi_invS hc_tt M_J_fill 2 (qi_aload 0 (qi_get 0 10 (qi_push (nI 0) (qi_invS hc_tt M_J_fill 2 (qi_aload 0 (qi_get 0 6 (qi_aload 0 (qi_get 0 13 (qi_push (nI 1) (qi_iast (qi_aload 0 (qi_get 0 8 (qi_aload 0 (qi_get 0 13 (qi_pushl (lN 0) (qi_last (qi_aload 0 (qi_get 0 13 (qi_istore 1 (J 41)))))))))))))))))))))))) lv st h
theorem sn_L_traceBest_0 {Ph : Nat → State → Prop} {h0 hf : hc_H} {r : Option Value} : qk Ph M_L_traceBest h0 hf r 0 (vc_L_traceBest_0 r hf (cx Ph M_L_traceBest h0 hf r)) := (qs_aload_n d_L_traceBest_0 rfl (qs_get d_L_traceBest_1 ff_L_45 (qs_iconst d_L_traceBest_4 (by decide) (qs_invS hc_Ph_tt (fun _ _ _ => trivial) d_L_traceBest_5 zz_J_fill wk_651 wk_217 ⟨by decide, by decide⟩ (qs_aload_n d_L_traceBest_8 rfl (qs_get d_L_traceBest_9 ff_L_9 (qs_iconst d_L_traceBest_12 (by decide) (qs_invS hc_Ph_tt (fun _ _ _ => trivial) d_L_traceBest_13 zz_J_fill wk_651 wk_217 ⟨by decide, by decide⟩ (qs_aload_n d_L_traceBest_16 rfl (qs_get d_L_traceBest_17 ff_L_45 (qs_aload_n d_L_traceBest_20 rfl (qs_get d_L_traceBest_21 ff_L_65 (qs_iconst d_L_traceBest_24 (by decide) (qs_iastore d_L_traceBest_25 (qs_aload_n d_L_traceBest_26 rfl (qs_get d_L_traceBest_27 ff_L_52 (qs_aload_n d_L_traceBest_30 rfl (qs_get d_L_traceBest_31 ff_L_65 (qs_lconst d_L_traceBest_34 rfl (qs_lastore d_L_traceBest_35 (qs_aload_n d_L_traceBest_36 rfl (qs_get d_L_traceBest_37 ff_L_65 (qs_istore_n d_L_traceBest_40 rfl (by decide) (fun _ _ _ h9 => h9))))))))))))))))))))))))
/-! BalancedLine$Lines.lineCount()I -/
abbrev M_L_lineCount : hc_M := (⟨"BalancedLine$Lines", "lineCount", "()I"⟩, prog_2_method_17_code, 1, (some .int), 0, 0)
theorem d_L_lineCount_0 : decode (mC M_L_lineCount) 0 = .ok (.aload_n 0, 1) := by decide +kernel
theorem d_L_lineCount_1 : decode (mC M_L_lineCount) 1 = .ok (.getfield 45, 3) := by decide +kernel
theorem d_L_lineCount_4 : decode (mC M_L_lineCount) 4 = .ok (.iconst 0, 1) := by decide +kernel
theorem d_L_lineCount_5 : decode (mC M_L_lineCount) 5 = .ok (.iaload, 1) := by decide +kernel
theorem d_L_lineCount_6 : decode (mC M_L_lineCount) 6 = .ok (.ireturn, 1) := by decide +kernel
def vc_L_lineCount_0 (r : Option Value) (hf : hc_H) (J : Nat → hc_K) (lv : hc_L) (st : List Value) (h : hc_H) : Prop := (qi_aload 0 (qi_get 0 6 (qi_push (nI 0) (qi_iald 0 (qi_iret r hf))))) lv st h
theorem sn_L_lineCount_0 {Ph : Nat → State → Prop} {h0 hf : hc_H} {r : Option Value} : qk Ph M_L_lineCount h0 hf r 0 (vc_L_lineCount_0 r hf (cx Ph M_L_lineCount h0 hf r)) := (qs_aload_n d_L_lineCount_0 rfl (qs_get d_L_lineCount_1 ff_L_45 (qs_iconst d_L_lineCount_4 (by decide) (qs_iaload d_L_lineCount_5 (qs_iret d_L_lineCount_6 rfl)))))
/-! BalancedLine$Lines.bestPlaces()J -/
abbrev M_L_bestPlaces : hc_M := (⟨"BalancedLine$Lines", "bestPlaces", "()J"⟩, prog_2_method_18_code, 1, (some .long), 0, 0)
theorem d_L_bestPlaces_0 : decode (mC M_L_bestPlaces) 0 = .ok (.aload_n 0, 1) := by decide +kernel
theorem d_L_bestPlaces_1 : decode (mC M_L_bestPlaces) 1 = .ok (.getfield 52, 3) := by decide +kernel
theorem d_L_bestPlaces_4 : decode (mC M_L_bestPlaces) 4 = .ok (.iconst 0, 1) := by decide +kernel
theorem d_L_bestPlaces_5 : decode (mC M_L_bestPlaces) 5 = .ok (.laload, 1) := by decide +kernel
theorem d_L_bestPlaces_6 : decode (mC M_L_bestPlaces) 6 = .ok (.lreturn, 1) := by decide +kernel
def vc_L_bestPlaces_0 (r : Option Value) (hf : hc_H) (J : Nat → hc_K) (lv : hc_L) (st : List Value) (h : hc_H) : Prop := (qi_aload 0 (qi_get 0 8 (qi_push (nI 0) (qi_lald (qi_lret r hf))))) lv st h
theorem sn_L_bestPlaces_0 {Ph : Nat → State → Prop} {h0 hf : hc_H} {r : Option Value} : qk Ph M_L_bestPlaces h0 hf r 0 (vc_L_bestPlaces_0 r hf (cx Ph M_L_bestPlaces h0 hf r)) := (qs_aload_n d_L_bestPlaces_0 rfl (qs_get d_L_bestPlaces_1 ff_L_52 (qs_iconst d_L_bestPlaces_4 (by decide) (qs_laload d_L_bestPlaces_5 (qs_lret d_L_bestPlaces_6 rfl)))))
/-! BalancedLine$Lines.copyHeldAt([I)V -/
abbrev M_L_copyHeldAt : hc_M := (⟨"BalancedLine$Lines", "copyHeldAt", "([I)V"⟩, prog_2_method_19_code, 2, none, 1, 26)
theorem d_L_copyHeldAt_0 : decode (mC M_L_copyHeldAt) 0 = .ok (.aload_n 0, 1) := by decide +kernel
theorem d_L_copyHeldAt_1 : decode (mC M_L_copyHeldAt) 1 = .ok (.getfield 9, 3) := by decide +kernel
theorem d_L_copyHeldAt_4 : decode (mC M_L_copyHeldAt) 4 = .ok (.iconst 0, 1) := by decide +kernel
theorem d_L_copyHeldAt_5 : decode (mC M_L_copyHeldAt) 5 = .ok (.aload_n 1, 1) := by decide +kernel
theorem d_L_copyHeldAt_6 : decode (mC M_L_copyHeldAt) 6 = .ok (.iconst 0, 1) := by decide +kernel
theorem d_L_copyHeldAt_7 : decode (mC M_L_copyHeldAt) 7 = .ok (.aload_n 1, 1) := by decide +kernel
theorem d_L_copyHeldAt_8 : decode (mC M_L_copyHeldAt) 8 = .ok (.arraylength, 1) := by decide +kernel
theorem d_L_copyHeldAt_9 : decode (mC M_L_copyHeldAt) 9 = .ok (.aload_n 0, 1) := by decide +kernel
theorem d_L_copyHeldAt_10 : decode (mC M_L_copyHeldAt) 10 = .ok (.getfield 9, 3) := by decide +kernel
theorem d_L_copyHeldAt_13 : decode (mC M_L_copyHeldAt) 13 = .ok (.arraylength, 1) := by decide +kernel
theorem d_L_copyHeldAt_14 : decode (mC M_L_copyHeldAt) 14 = .ok (.invokestatic 18, 3) := by decide +kernel
theorem d_L_copyHeldAt_17 : decode (mC M_L_copyHeldAt) 17 = .ok (.invokestatic 140, 3) := by decide +kernel
theorem d_L_copyHeldAt_20 : decode (mC M_L_copyHeldAt) 20 = .ok (.return_, 1) := by decide +kernel
def vc_L_copyHeldAt_0 (r : Option Value) (hf : hc_H) (J : Nat → hc_K) (lv : hc_L) (st : List Value) (h : hc_H) : Prop := (qi_aload 0 (qi_get 0 10 (qi_push (nI 0) (qi_aload 1 (qi_push (nI 0) (qi_aload 1 (qi_alen (qi_aload 0 (qi_get 0 10 (qi_alen (qi_min (qi_acopy (qi_vret r hf))))))))))))) lv st h
theorem sn_L_copyHeldAt_0 {Ph : Nat → State → Prop} {h0 hf : hc_H} {r : Option Value} : qk Ph M_L_copyHeldAt h0 hf r 0 (vc_L_copyHeldAt_0 r hf (cx Ph M_L_copyHeldAt h0 hf r)) := (qs_aload_n d_L_copyHeldAt_0 rfl (qs_get d_L_copyHeldAt_1 ff_L_9 (qs_iconst d_L_copyHeldAt_4 (by decide) (qs_aload_n d_L_copyHeldAt_5 rfl (qs_iconst d_L_copyHeldAt_6 (by decide) (qs_aload_n d_L_copyHeldAt_7 rfl (qs_alen d_L_copyHeldAt_8 (qs_aload_n d_L_copyHeldAt_9 rfl (qs_get d_L_copyHeldAt_10 ff_L_9 (qs_alen d_L_copyHeldAt_13 (qs_min d_L_copyHeldAt_14 wk_305 (by decide) (by decide) (qs_acopy d_L_copyHeldAt_17 wk_702 wk_441 wk_440 wk_67 (by decide) (by decide) (qs_vret d_L_copyHeldAt_20 rfl)))))))))))))
/-! BalancedLine$Lines.findCovered()V -/
abbrev M_L_findCovered : hc_M := (⟨"BalancedLine$Lines", "findCovered", "()V"⟩, prog_2_method_21_code, 4, none, 0, 0)
theorem d_L_findCovered_0 : decode (mC M_L_findCovered) 0 = .ok (.aload_n 0, 1) := by decide +kernel
theorem d_L_findCovered_1 : decode (mC M_L_findCovered) 1 = .ok (.getfield 65, 3) := by decide +kernel
theorem d_L_findCovered_4 : decode (mC M_L_findCovered) 4 = .ok (.istore_n 1, 1) := by decide +kernel
theorem d_L_findCovered_5 : decode (mC M_L_findCovered) 5 = .ok (.iload_n 1, 1) := by decide +kernel
theorem d_L_findCovered_6 : decode (mC M_L_findCovered) 6 = .ok (.ifCond .le 67, 3) := by decide +kernel
theorem d_L_findCovered_9 : decode (mC M_L_findCovered) 9 = .ok (.aload_n 0, 1) := by decide +kernel
theorem d_L_findCovered_10 : decode (mC M_L_findCovered) 10 = .ok (.getfield 48, 3) := by decide +kernel
theorem d_L_findCovered_13 : decode (mC M_L_findCovered) 13 = .ok (.iload_n 1, 1) := by decide +kernel
theorem d_L_findCovered_14 : decode (mC M_L_findCovered) 14 = .ok (.iconst 0, 1) := by decide +kernel
theorem d_L_findCovered_15 : decode (mC M_L_findCovered) 15 = .ok (.bastore, 1) := by decide +kernel
theorem d_L_findCovered_16 : decode (mC M_L_findCovered) 16 = .ok (.iconst 1, 1) := by decide +kernel
theorem d_L_findCovered_17 : decode (mC M_L_findCovered) 17 = .ok (.istore_n 2, 1) := by decide +kernel
theorem d_L_findCovered_18 : decode (mC M_L_findCovered) 18 = .ok (.iload_n 2, 1) := by decide +kernel
theorem d_L_findCovered_19 : decode (mC M_L_findCovered) 19 = .ok (.aload_n 0, 1) := by decide +kernel
theorem d_L_findCovered_20 : decode (mC M_L_findCovered) 20 = .ok (.getfield 65, 3) := by decide +kernel
theorem d_L_findCovered_23 : decode (mC M_L_findCovered) 23 = .ok (.if_icmp .gt 44, 3) := by decide +kernel
theorem d_L_findCovered_26 : decode (mC M_L_findCovered) 26 = .ok (.iload_n 1, 1) := by decide +kernel
theorem d_L_findCovered_27 : decode (mC M_L_findCovered) 27 = .ok (.iload_n 2, 1) := by decide +kernel
theorem d_L_findCovered_28 : decode (mC M_L_findCovered) 28 = .ok (.ior, 1) := by decide +kernel
theorem d_L_findCovered_29 : decode (mC M_L_findCovered) 29 = .ok (.istore_n 3, 1) := by decide +kernel
theorem d_L_findCovered_30 : decode (mC M_L_findCovered) 30 = .ok (.iload_n 3, 1) := by decide +kernel
theorem d_L_findCovered_31 : decode (mC M_L_findCovered) 31 = .ok (.iload_n 1, 1) := by decide +kernel
theorem d_L_findCovered_32 : decode (mC M_L_findCovered) 32 = .ok (.if_icmp .eq 28, 3) := by decide +kernel
theorem d_L_findCovered_35 : decode (mC M_L_findCovered) 35 = .ok (.aload_n 0, 1) := by decide +kernel
theorem d_L_findCovered_36 : decode (mC M_L_findCovered) 36 = .ok (.getfield 39, 3) := by decide +kernel
theorem d_L_findCovered_39 : decode (mC M_L_findCovered) 39 = .ok (.iload_n 3, 1) := by decide +kernel
theorem d_L_findCovered_40 : decode (mC M_L_findCovered) 40 = .ok (.iaload, 1) := by decide +kernel
theorem d_L_findCovered_41 : decode (mC M_L_findCovered) 41 = .ok (.ifCond .eq 12, 3) := by decide +kernel
theorem d_L_findCovered_44 : decode (mC M_L_findCovered) 44 = .ok (.aload_n 0, 1) := by decide +kernel
theorem d_L_findCovered_45 : decode (mC M_L_findCovered) 45 = .ok (.getfield 48, 3) := by decide +kernel
theorem d_L_findCovered_48 : decode (mC M_L_findCovered) 48 = .ok (.iload_n 3, 1) := by decide +kernel
theorem d_L_findCovered_49 : decode (mC M_L_findCovered) 49 = .ok (.baload, 1) := by decide +kernel
theorem d_L_findCovered_50 : decode (mC M_L_findCovered) 50 = .ok (.ifCond .eq 10, 3) := by decide +kernel
theorem d_L_findCovered_53 : decode (mC M_L_findCovered) 53 = .ok (.aload_n 0, 1) := by decide +kernel
theorem d_L_findCovered_54 : decode (mC M_L_findCovered) 54 = .ok (.getfield 48, 3) := by decide +kernel
theorem d_L_findCovered_57 : decode (mC M_L_findCovered) 57 = .ok (.iload_n 1, 1) := by decide +kernel
theorem d_L_findCovered_58 : decode (mC M_L_findCovered) 58 = .ok (.iconst 1, 1) := by decide +kernel
theorem d_L_findCovered_59 : decode (mC M_L_findCovered) 59 = .ok (.bastore, 1) := by decide +kernel
theorem d_L_findCovered_60 : decode (mC M_L_findCovered) 60 = .ok (.iload_n 2, 1) := by decide +kernel
theorem d_L_findCovered_61 : decode (mC M_L_findCovered) 61 = .ok (.iconst 1, 1) := by decide +kernel
theorem d_L_findCovered_62 : decode (mC M_L_findCovered) 62 = .ok (.ishl, 1) := by decide +kernel
theorem d_L_findCovered_63 : decode (mC M_L_findCovered) 63 = .ok (.istore_n 2, 1) := by decide +kernel
theorem d_L_findCovered_64 : decode (mC M_L_findCovered) 64 = .ok (.goto (-46), 3) := by decide +kernel
theorem d_L_findCovered_67 : decode (mC M_L_findCovered) 67 = .ok (.iinc 1 (-1), 3) := by decide +kernel
theorem d_L_findCovered_70 : decode (mC M_L_findCovered) 70 = .ok (.goto (-65), 3) := by decide +kernel
theorem d_L_findCovered_73 : decode (mC M_L_findCovered) 73 = .ok (.return_, 1) := by decide +kernel
def vc_L_findCovered_73 (r : Option Value) (hf : hc_H) (J : Nat → hc_K) (lv : hc_L) (st : List Value) (h : hc_H) : Prop := (qi_vret r hf) lv st h
theorem sn_L_findCovered_73 {Ph : Nat → State → Prop} {h0 hf : hc_H} {r : Option Value} : qk Ph M_L_findCovered h0 hf r 73 (vc_L_findCovered_73 r hf (cx Ph M_L_findCovered h0 hf r)) := (qs_vret d_L_findCovered_73 rfl)
def vc_L_findCovered_67 (r : Option Value) (hf : hc_H) (J : Nat → hc_K) (lv : hc_L) (st : List Value) (h : hc_H) : Prop := (qi_iinc 1 (-1) (J 5)) lv st h
theorem sn_L_findCovered_67 {Ph : Nat → State → Prop} {h0 hf : hc_H} {r : Option Value} : qk Ph M_L_findCovered h0 hf r 67 (vc_L_findCovered_67 r hf (cx Ph M_L_findCovered h0 hf r)) := (qs_iinc d_L_findCovered_67 (by decide) (by decide) (qs_goto (tgt := 5) d_L_findCovered_70 (by decide) (fun _ _ _ h9 => h9)))
def vc_L_findCovered_60 (r : Option Value) (hf : hc_H) (J : Nat → hc_K) (lv : hc_L) (st : List Value) (h : hc_H) : Prop := (qi_iload 2 (qi_push (nI 1) (qi_ishl (qi_istore 2 (J 18))))) lv st h
theorem sn_L_findCovered_60 {Ph : Nat → State → Prop} {h0 hf : hc_H} {r : Option Value} : qk Ph M_L_findCovered h0 hf r 60 (vc_L_findCovered_60 r hf (cx Ph M_L_findCovered h0 hf r)) := (qs_iload_n d_L_findCovered_60 rfl (qs_iconst d_L_findCovered_61 (by decide) (qs_ishl d_L_findCovered_62 (qs_istore_n d_L_findCovered_63 rfl (by decide) (qs_goto (tgt := 18) d_L_findCovered_64 (by decide) (fun _ _ _ h9 => h9))))))
def vc_L_findCovered_53 (r : Option Value) (hf : hc_H) (J : Nat → hc_K) (lv : hc_L) (st : List Value) (h : hc_H) : Prop := (qi_aload 0 (qi_get 0 7 (qi_iload 1 (qi_push (nI 1) (qi_zast (vc_L_findCovered_60 r hf J)))))) lv st h
theorem sn_L_findCovered_53 {Ph : Nat → State → Prop} {h0 hf : hc_H} {r : Option Value} : qk Ph M_L_findCovered h0 hf r 53 (vc_L_findCovered_53 r hf (cx Ph M_L_findCovered h0 hf r)) := (qs_aload_n d_L_findCovered_53 rfl (qs_get d_L_findCovered_54 ff_L_48 (qs_iload_n d_L_findCovered_57 rfl (qs_iconst d_L_findCovered_58 (by decide) (qs_bastore d_L_findCovered_59 sn_L_findCovered_60)))))
def vc_L_findCovered_18 (r : Option Value) (hf : hc_H) (J : Nat → hc_K) (lv : hc_L) (st : List Value) (h : hc_H) : Prop := (qi_iload 2 (qi_aload 0 (qi_get 0 13 (qi_icmp_gt (vc_L_findCovered_67 r hf J) (qi_iload 1 (qi_iload 2 (qi_ior (qi_istore 3 (qi_iload 3 (qi_iload 1 (qi_icmp_eq (vc_L_findCovered_60 r hf J) (qi_aload 0 (qi_get 0 4 (qi_iload 3 (qi_iald 0 (qi_if_eq (vc_L_findCovered_53 r hf J) (qi_aload 0 (qi_get 0 7 (qi_iload 3 (qi_iald 1 (qi_if_eq (vc_L_findCovered_60 r hf J) (vc_L_findCovered_53 r hf J)))))))))))))))))))))) lv st h
theorem sn_L_findCovered_18 {Ph : Nat → State → Prop} {h0 hf : hc_H} {r : Option Value} : qk Ph M_L_findCovered h0 hf r 18 (vc_L_findCovered_18 r hf (cx Ph M_L_findCovered h0 hf r)) := (qs_iload_n d_L_findCovered_18 rfl (qs_aload_n d_L_findCovered_19 rfl (qs_get d_L_findCovered_20 ff_L_65 (qs_icmp_gt (tgt := 67) d_L_findCovered_23 (by decide) sn_L_findCovered_67 (qs_iload_n d_L_findCovered_26 rfl (qs_iload_n d_L_findCovered_27 rfl (qs_ior d_L_findCovered_28 (qs_istore_n d_L_findCovered_29 rfl (by decide) (qs_iload_n d_L_findCovered_30 rfl (qs_iload_n d_L_findCovered_31 rfl (qs_icmp_eq (tgt := 60) d_L_findCovered_32 (by decide) sn_L_findCovered_60 (qs_aload_n d_L_findCovered_35 rfl (qs_get d_L_findCovered_36 ff_L_39 (qs_iload_n d_L_findCovered_39 rfl (qs_iaload d_L_findCovered_40 (qs_if_eq (tgt := 53) d_L_findCovered_41 (by decide) sn_L_findCovered_53 (qs_aload_n d_L_findCovered_44 rfl (qs_get d_L_findCovered_45 ff_L_48 (qs_iload_n d_L_findCovered_48 rfl (qs_baload d_L_findCovered_49 (qs_if_eq (tgt := 60) d_L_findCovered_50 (by decide) sn_L_findCovered_60 sn_L_findCovered_53)))))))))))))))))))))
def vc_L_findCovered_5 (r : Option Value) (hf : hc_H) (J : Nat → hc_K) (lv : hc_L) (st : List Value) (h : hc_H) : Prop := (qi_iload 1 (qi_if_le (vc_L_findCovered_73 r hf J) (qi_aload 0 (qi_get 0 7 (qi_iload 1 (qi_push (nI 0) (qi_zast (qi_push (nI 1) (qi_istore 2 (J 18)))))))))) lv st h
theorem sn_L_findCovered_5 {Ph : Nat → State → Prop} {h0 hf : hc_H} {r : Option Value} : qk Ph M_L_findCovered h0 hf r 5 (vc_L_findCovered_5 r hf (cx Ph M_L_findCovered h0 hf r)) := (qs_iload_n d_L_findCovered_5 rfl (qs_if_le (tgt := 73) d_L_findCovered_6 (by decide) sn_L_findCovered_73 (qs_aload_n d_L_findCovered_9 rfl (qs_get d_L_findCovered_10 ff_L_48 (qs_iload_n d_L_findCovered_13 rfl (qs_iconst d_L_findCovered_14 (by decide) (qs_bastore d_L_findCovered_15 (qs_iconst d_L_findCovered_16 (by decide) (qs_istore_n d_L_findCovered_17 rfl (by decide) (fun _ _ _ h9 => h9))))))))))
def vc_L_findCovered_0 (r : Option Value) (hf : hc_H) (J : Nat → hc_K) (lv : hc_L) (st : List Value) (h : hc_H) : Prop := (qi_aload 0 (qi_get 0 13 (qi_istore 1 (J 5)))) lv st h
theorem sn_L_findCovered_0 {Ph : Nat → State → Prop} {h0 hf : hc_H} {r : Option Value} : qk Ph M_L_findCovered h0 hf r 0 (vc_L_findCovered_0 r hf (cx Ph M_L_findCovered h0 hf r)) := (qs_aload_n d_L_findCovered_0 rfl (qs_get d_L_findCovered_1 ff_L_65 (qs_istore_n d_L_findCovered_4 rfl (by decide) (fun _ _ _ h9 => h9))))
theorem zz_L_findCovered : hc_z M_L_findCovered 0 := ⟨wk_730, wk_64, by decide +kernel⟩
/-! BalancedLine$Lines.listedLoad(IZ)I -/
abbrev M_L_listedLoad : hc_M := (⟨"BalancedLine$Lines", "listedLoad", "(IZ)I"⟩, prog_2_method_20_code, 5, (some .int), 1, 23)
theorem d_L_listedLoad_0 : decode (mC M_L_listedLoad) 0 = .ok (.iload_n 2, 1) := by decide +kernel
theorem d_L_listedLoad_1 : decode (mC M_L_listedLoad) 1 = .ok (.ifCond .eq 7, 3) := by decide +kernel
theorem d_L_listedLoad_4 : decode (mC M_L_listedLoad) 4 = .ok (.aload_n 0, 1) := by decide +kernel
theorem d_L_listedLoad_5 : decode (mC M_L_listedLoad) 5 = .ok (.invokevirtual 146, 3) := by decide +kernel
theorem d_L_listedLoad_8 : decode (mC M_L_listedLoad) 8 = .ok (.iconst 0, 1) := by decide +kernel
theorem d_L_listedLoad_9 : decode (mC M_L_listedLoad) 9 = .ok (.istore_n 3, 1) := by decide +kernel
theorem d_L_listedLoad_10 : decode (mC M_L_listedLoad) 10 = .ok (.iconst 1, 1) := by decide +kernel
theorem d_L_listedLoad_11 : decode (mC M_L_listedLoad) 11 = .ok (.istore 4, 2) := by decide +kernel
theorem d_L_listedLoad_13 : decode (mC M_L_listedLoad) 13 = .ok (.iload 4, 2) := by decide +kernel
theorem d_L_listedLoad_15 : decode (mC M_L_listedLoad) 15 = .ok (.aload_n 0, 1) := by decide +kernel
theorem d_L_listedLoad_16 : decode (mC M_L_listedLoad) 16 = .ok (.getfield 65, 3) := by decide +kernel
theorem d_L_listedLoad_19 : decode (mC M_L_listedLoad) 19 = .ok (.if_icmp .gt 44, 3) := by decide +kernel
theorem d_L_listedLoad_22 : decode (mC M_L_listedLoad) 22 = .ok (.aload_n 0, 1) := by decide +kernel
theorem d_L_listedLoad_23 : decode (mC M_L_listedLoad) 23 = .ok (.getfield 39, 3) := by decide +kernel
theorem d_L_listedLoad_26 : decode (mC M_L_listedLoad) 26 = .ok (.iload 4, 2) := by decide +kernel
theorem d_L_listedLoad_28 : decode (mC M_L_listedLoad) 28 = .ok (.iaload, 1) := by decide +kernel
theorem d_L_listedLoad_29 : decode (mC M_L_listedLoad) 29 = .ok (.ifCond .ne 28, 3) := by decide +kernel
theorem d_L_listedLoad_32 : decode (mC M_L_listedLoad) 32 = .ok (.iload_n 2, 1) := by decide +kernel
theorem d_L_listedLoad_33 : decode (mC M_L_listedLoad) 33 = .ok (.ifCond .eq 13, 3) := by decide +kernel
theorem d_L_listedLoad_36 : decode (mC M_L_listedLoad) 36 = .ok (.aload_n 0, 1) := by decide +kernel
theorem d_L_listedLoad_37 : decode (mC M_L_listedLoad) 37 = .ok (.getfield 48, 3) := by decide +kernel
theorem d_L_listedLoad_40 : decode (mC M_L_listedLoad) 40 = .ok (.iload 4, 2) := by decide +kernel
theorem d_L_listedLoad_42 : decode (mC M_L_listedLoad) 42 = .ok (.baload, 1) := by decide +kernel
theorem d_L_listedLoad_43 : decode (mC M_L_listedLoad) 43 = .ok (.ifCond .ne 14, 3) := by decide +kernel
theorem d_L_listedLoad_46 : decode (mC M_L_listedLoad) 46 = .ok (.iload_n 3, 1) := by decide +kernel
theorem d_L_listedLoad_47 : decode (mC M_L_listedLoad) 47 = .ok (.iload_n 1, 1) := by decide +kernel
theorem d_L_listedLoad_48 : decode (mC M_L_listedLoad) 48 = .ok (.if_icmp .ne 6, 3) := by decide +kernel
theorem d_L_listedLoad_51 : decode (mC M_L_listedLoad) 51 = .ok (.iload 4, 2) := by decide +kernel
theorem d_L_listedLoad_53 : decode (mC M_L_listedLoad) 53 = .ok (.ireturn, 1) := by decide +kernel
theorem d_L_listedLoad_54 : decode (mC M_L_listedLoad) 54 = .ok (.iinc 3 1, 3) := by decide +kernel
theorem d_L_listedLoad_57 : decode (mC M_L_listedLoad) 57 = .ok (.iinc 4 1, 3) := by decide +kernel
theorem d_L_listedLoad_60 : decode (mC M_L_listedLoad) 60 = .ok (.goto (-47), 3) := by decide +kernel
theorem d_L_listedLoad_63 : decode (mC M_L_listedLoad) 63 = .ok (.iload_n 1, 1) := by decide +kernel
theorem d_L_listedLoad_64 : decode (mC M_L_listedLoad) 64 = .ok (.ifCond .ge 7, 3) := by decide +kernel
theorem d_L_listedLoad_67 : decode (mC M_L_listedLoad) 67 = .ok (.iload_n 3, 1) := by decide +kernel
theorem d_L_listedLoad_68 : decode (mC M_L_listedLoad) 68 = .ok (.goto 5, 3) := by decide +kernel
theorem d_L_listedLoad_71 : decode (mC M_L_listedLoad) 71 = .ok (.bipush (-4), 2) := by decide +kernel
theorem d_L_listedLoad_73 : decode (mC M_L_listedLoad) 73 = .ok (.ireturn, 1) := by decide +kernel
def vc_L_listedLoad_73 (r : Option Value) (hf : hc_H) (J : Nat → hc_K) (lv : hc_L) (st : List Value) (h : hc_H) : Prop := (qi_iret r hf) lv st h
theorem sn_L_listedLoad_73 {Ph : Nat → State → Prop} {h0 hf : hc_H} {r : Option Value} : qk Ph M_L_listedLoad h0 hf r 73 (vc_L_listedLoad_73 r hf (cx Ph M_L_listedLoad h0 hf r)) := (qs_iret d_L_listedLoad_73 rfl)
def vc_L_listedLoad_71 (r : Option Value) (hf : hc_H) (J : Nat → hc_K) (lv : hc_L) (st : List Value) (h : hc_H) : Prop := (qi_push (-4) (vc_L_listedLoad_73 r hf J)) lv st h
theorem sn_L_listedLoad_71 {Ph : Nat → State → Prop} {h0 hf : hc_H} {r : Option Value} : qk Ph M_L_listedLoad h0 hf r 71 (vc_L_listedLoad_71 r hf (cx Ph M_L_listedLoad h0 hf r)) := (qs_bipush d_L_listedLoad_71 (by decide) sn_L_listedLoad_73)
def vc_L_listedLoad_63 (r : Option Value) (hf : hc_H) (J : Nat → hc_K) (lv : hc_L) (st : List Value) (h : hc_H) : Prop := (qi_iload 1 (qi_if_ge (vc_L_listedLoad_71 r hf J) (qi_iload 3 (vc_L_listedLoad_73 r hf J)))) lv st h
theorem sn_L_listedLoad_63 {Ph : Nat → State → Prop} {h0 hf : hc_H} {r : Option Value} : qk Ph M_L_listedLoad h0 hf r 63 (vc_L_listedLoad_63 r hf (cx Ph M_L_listedLoad h0 hf r)) := (qs_iload_n d_L_listedLoad_63 rfl (qs_if_ge (tgt := 71) d_L_listedLoad_64 (by decide) sn_L_listedLoad_71 (qs_iload_n d_L_listedLoad_67 rfl (qs_goto (tgt := 73) d_L_listedLoad_68 (by decide) sn_L_listedLoad_73))))
def vc_L_listedLoad_57 (r : Option Value) (hf : hc_H) (J : Nat → hc_K) (lv : hc_L) (st : List Value) (h : hc_H) : Prop := (qi_iinc 4 (nI 1) (J 13)) lv st h
theorem sn_L_listedLoad_57 {Ph : Nat → State → Prop} {h0 hf : hc_H} {r : Option Value} : qk Ph M_L_listedLoad h0 hf r 57 (vc_L_listedLoad_57 r hf (cx Ph M_L_listedLoad h0 hf r)) := (qs_iinc d_L_listedLoad_57 (by decide) (by decide) (qs_goto (tgt := 13) d_L_listedLoad_60 (by decide) (fun _ _ _ h9 => h9)))
def vc_L_listedLoad_54 (r : Option Value) (hf : hc_H) (J : Nat → hc_K) (lv : hc_L) (st : List Value) (h : hc_H) : Prop := (qi_iinc 3 (nI 1) (vc_L_listedLoad_57 r hf J)) lv st h
theorem sn_L_listedLoad_54 {Ph : Nat → State → Prop} {h0 hf : hc_H} {r : Option Value} : qk Ph M_L_listedLoad h0 hf r 54 (vc_L_listedLoad_54 r hf (cx Ph M_L_listedLoad h0 hf r)) := (qs_iinc d_L_listedLoad_54 (by decide) (by decide) sn_L_listedLoad_57)
def vc_L_listedLoad_46 (r : Option Value) (hf : hc_H) (J : Nat → hc_K) (lv : hc_L) (st : List Value) (h : hc_H) : Prop := (qi_iload 3 (qi_iload 1 (qi_icmp_ne (vc_L_listedLoad_54 r hf J) (qi_iload 4 (qi_iret r hf))))) lv st h
theorem sn_L_listedLoad_46 {Ph : Nat → State → Prop} {h0 hf : hc_H} {r : Option Value} : qk Ph M_L_listedLoad h0 hf r 46 (vc_L_listedLoad_46 r hf (cx Ph M_L_listedLoad h0 hf r)) := (qs_iload_n d_L_listedLoad_46 rfl (qs_iload_n d_L_listedLoad_47 rfl (qs_icmp_ne (tgt := 54) d_L_listedLoad_48 (by decide) sn_L_listedLoad_54 (qs_iload d_L_listedLoad_51 (qs_iret d_L_listedLoad_53 rfl)))))
def vc_L_listedLoad_13 (r : Option Value) (hf : hc_H) (J : Nat → hc_K) (lv : hc_L) (st : List Value) (h : hc_H) : Prop := (qi_iload 4 (qi_aload 0 (qi_get 0 13 (qi_icmp_gt (vc_L_listedLoad_63 r hf J) (qi_aload 0 (qi_get 0 4 (qi_iload 4 (qi_iald 0 (qi_if_ne (vc_L_listedLoad_57 r hf J) (qi_iload 2 (qi_if_eq (vc_L_listedLoad_46 r hf J) (qi_aload 0 (qi_get 0 7 (qi_iload 4 (qi_iald 1 (qi_if_ne (vc_L_listedLoad_57 r hf J) (vc_L_listedLoad_46 r hf J))))))))))))))))) lv st h
theorem sn_L_listedLoad_13 {Ph : Nat → State → Prop} {h0 hf : hc_H} {r : Option Value} : qk Ph M_L_listedLoad h0 hf r 13 (vc_L_listedLoad_13 r hf (cx Ph M_L_listedLoad h0 hf r)) := (qs_iload d_L_listedLoad_13 (qs_aload_n d_L_listedLoad_15 rfl (qs_get d_L_listedLoad_16 ff_L_65 (qs_icmp_gt (tgt := 63) d_L_listedLoad_19 (by decide) sn_L_listedLoad_63 (qs_aload_n d_L_listedLoad_22 rfl (qs_get d_L_listedLoad_23 ff_L_39 (qs_iload d_L_listedLoad_26 (qs_iaload d_L_listedLoad_28 (qs_if_ne (tgt := 57) d_L_listedLoad_29 (by decide) sn_L_listedLoad_57 (qs_iload_n d_L_listedLoad_32 rfl (qs_if_eq (tgt := 46) d_L_listedLoad_33 (by decide) sn_L_listedLoad_46 (qs_aload_n d_L_listedLoad_36 rfl (qs_get d_L_listedLoad_37 ff_L_48 (qs_iload d_L_listedLoad_40 (qs_baload d_L_listedLoad_42 (qs_if_ne (tgt := 57) d_L_listedLoad_43 (by decide) sn_L_listedLoad_57 sn_L_listedLoad_46))))))))))))))))
def vc_L_listedLoad_8 (r : Option Value) (hf : hc_H) (J : Nat → hc_K) (lv : hc_L) (st : List Value) (h : hc_H) : Prop := (qi_push (nI 0) (qi_istore 3 (qi_push (nI 1) (qi_istore 4 (J 13))))) lv st h
theorem sn_L_listedLoad_8 {Ph : Nat → State → Prop} {h0 hf : hc_H} {r : Option Value} : qk Ph M_L_listedLoad h0 hf r 8 (vc_L_listedLoad_8 r hf (cx Ph M_L_listedLoad h0 hf r)) := (qs_iconst d_L_listedLoad_8 (by decide) (qs_istore_n d_L_listedLoad_9 rfl (by decide) (qs_iconst d_L_listedLoad_10 (by decide) (qs_istore d_L_listedLoad_11 (by decide) (fun _ _ _ h9 => h9)))))
def vc_L_listedLoad_0 (r : Option Value) (hf : hc_H) (J : Nat → hc_K) (lv : hc_L) (st : List Value) (h : hc_H) : Prop := (qi_iload 2 (qi_if_eq (vc_L_listedLoad_8 r hf J) (qi_aload 0 (qi_invV hc_tt M_L_findCovered 0 0 (vc_L_listedLoad_8 r hf J))))) lv st h
theorem sn_L_listedLoad_0 {Ph : Nat → State → Prop} {h0 hf : hc_H} {r : Option Value} : qk Ph M_L_listedLoad h0 hf r 0 (vc_L_listedLoad_0 r hf (cx Ph M_L_listedLoad h0 hf r)) := (qs_iload_n d_L_listedLoad_0 rfl (qs_if_eq (tgt := 8) d_L_listedLoad_1 (by decide) sn_L_listedLoad_8 (qs_aload_n d_L_listedLoad_4 rfl (qs_invV hc_Ph_tt (fun _ _ _ => trivial) d_L_listedLoad_5 zz_L_findCovered wk_727 ⟨wk_729, wk_18⟩ ⟨_, rfl, rfl⟩ ⟨by decide, by decide⟩ sn_L_listedLoad_8))))
