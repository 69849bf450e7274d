theorem zz_S_add : hc_z M_S_add 1 := ⟨wk_207, wk_55, by decide +kernel⟩
/-! BalancedLine.write(I)I -/
abbrev M_B_write : hc_M := (⟨"BalancedLine", "write", "(I)I"⟩, prog_1_method_2_code, 2, (some .int), 1, 22)
theorem d_B_write_0 : decode (mC M_B_write) 0 = .ok (.iload_n 1, 1) := by decide +kernel
theorem d_B_write_1 : decode (mC M_B_write) 1 = .ok (.bipush 32, 2) := by decide +kernel
theorem d_B_write_3 : decode (mC M_B_write) 3 = .ok (.bipush 126, 2) := by decide +kernel
theorem d_B_write_5 : decode (mC M_B_write) 5 = .ok (.invokestatic 65, 3) := by decide +kernel
theorem d_B_write_8 : decode (mC M_B_write) 8 = .ok (.ifCond .ne 5, 3) := by decide +kernel
theorem d_B_write_11 : decode (mC M_B_write) 11 = .ok (.iconst (-1), 1) := by decide +kernel
theorem d_B_write_12 : decode (mC M_B_write) 12 = .ok (.ireturn, 1) := by decide +kernel
theorem d_B_write_13 : decode (mC M_B_write) 13 = .ok (.aload_n 0, 1) := by decide +kernel
theorem d_B_write_14 : decode (mC M_B_write) 14 = .ok (.getfield 12, 3) := by decide +kernel
theorem d_B_write_17 : decode (mC M_B_write) 17 = .ok (.iload_n 1, 1) := by decide +kernel
theorem d_B_write_18 : decode (mC M_B_write) 18 = .ok (.i2c, 1) := by decide +kernel
theorem d_B_write_19 : decode (mC M_B_write) 19 = .ok (.invokevirtual 45, 3) := by decide +kernel
theorem d_B_write_22 : decode (mC M_B_write) 22 = .ok (.ifCond .eq 13, 3) := by decide +kernel
theorem d_B_write_25 : decode (mC M_B_write) 25 = .ok (.aload_n 0, 1) := by decide +kernel
theorem d_B_write_26 : decode (mC M_B_write) 26 = .ok (.getfield 12, 3) := by decide +kernel
theorem d_B_write_29 : decode (mC M_B_write) 29 = .ok (.getfield 69, 3) := by decide +kernel
theorem d_B_write_32 : decode (mC M_B_write) 32 = .ok (.goto 5, 3) := by decide +kernel
theorem d_B_write_35 : decode (mC M_B_write) 35 = .ok (.bipush (-3), 2) := by decide +kernel
theorem d_B_write_37 : decode (mC M_B_write) 37 = .ok (.ireturn, 1) := by decide +kernel
def vc_B_write_37 (r : Option Value) (hf : hc_H) (J : Nat → hc_K) (lv : hc_L) (st : List Value) (h : hc_H) : Prop := (qi_iret r hf) lv st h
theorem sn_B_write_37 {Ph : Nat → State → Prop} {h0 hf : hc_H} {r : Option Value} : qk Ph M_B_write h0 hf r 37 (vc_B_write_37 r hf (cx Ph M_B_write h0 hf r)) := (qs_iret d_B_write_37 rfl)
def vc_B_write_35 (r : Option Value) (hf : hc_H) (J : Nat → hc_K) (lv : hc_L) (st : List Value) (h : hc_H) : Prop := (qi_push (-3) (vc_B_write_37 r hf J)) lv st h
theorem sn_B_write_35 {Ph : Nat → State → Prop} {h0 hf : hc_H} {r : Option Value} : qk Ph M_B_write h0 hf r 35 (vc_B_write_35 r hf (cx Ph M_B_write h0 hf r)) := (qs_bipush d_B_write_35 (by decide) sn_B_write_37)
def vc_B_write_13 (r : Option Value) (hf : hc_H) (J : Nat → hc_K) (lv : hc_L) (st : List Value) (h : hc_H) : Prop := (qi_aload 0 (qi_get 5 0 (qi_iload 1 (qi_i2c (qi_invV hc_tt M_S_add 1 3 (qi_if_eq (vc_B_write_35 r hf J) (qi_aload 0 (qi_get 5 0 (qi_get 3 1 (vc_B_write_37 r hf J)))))))))) lv st h
theorem sn_B_write_13 {Ph : Nat → State → Prop} {h0 hf : hc_H} {r : Option Value} : qk Ph M_B_write h0 hf r 13 (vc_B_write_13 r hf (cx Ph M_B_write h0 hf r)) := (qs_aload_n d_B_write_13 rfl (qs_get d_B_write_14 ff_B_12 (qs_iload_n d_B_write_17 rfl (qs_i2c d_B_write_18 (qs_invV hc_Ph_tt (fun _ _ _ => trivial) d_B_write_19 zz_S_add wk_204 ⟨wk_205, wk_206⟩ ⟨_, rfl, rfl⟩ ⟨by decide, by decide⟩ (qs_if_eq (tgt := 35) d_B_write_22 (by decide) sn_B_write_35 (qs_aload_n d_B_write_25 rfl (qs_get d_B_write_26 ff_B_12 (qs_get d_B_write_29 ff_B_69 (qs_goto (tgt := 37) d_B_write_32 (by decide) sn_B_write_37))))))))))
def vc_B_write_0 (r : Option Value) (hf : hc_H) (J : Nat → hc_K) (lv : hc_L) (st : List Value) (h : hc_H) : Prop := (qi_iload 1 (qi_push (nI 32) (qi_push (nI 126) (qi_invS hc_tt M_B_isWithin 3 (qi_if_ne (vc_B_write_13 r hf J) (qi_push (-1) (qi_iret r hf))))))) lv st h
theorem sn_B_write_0 {Ph : Nat → State → Prop} {h0 hf : hc_H} {r : Option Value} : qk Ph M_B_write h0 hf r 0 (vc_B_write_0 r hf (cx Ph M_B_write h0 hf r)) := (qs_iload_n d_B_write_0 rfl (qs_bipush d_B_write_1 (by decide) (qs_bipush d_B_write_3 (by decide) (qs_invS hc_Ph_tt (fun _ _ _ => trivial) d_B_write_5 zz_B_isWithin wk_422 wk_236 ⟨by decide, by decide⟩ (qs_if_ne (tgt := 13) d_B_write_8 (by decide) sn_B_write_13 (qs_iconst d_B_write_11 (by decide) (qs_iret d_B_write_12 rfl)))))))
theorem zz_S_clear : hc_z M_S_clear 0 := ⟨wk_292, wk_55, by decide +kernel⟩
/-! BalancedLine.wipe()I -/
abbrev M_B_wipe : hc_M := (⟨"BalancedLine", "wipe", "()I"⟩, prog_1_method_3_code, 1, (some .int), 1, 21)
theorem d_B_wipe_0 : decode (mC M_B_wipe) 0 = .ok (.aload_n 0, 1) := by decide +kernel
theorem d_B_wipe_1 : decode (mC M_B_wipe) 1 = .ok (.getfield 12, 3) := by decide +kernel
theorem d_B_wipe_4 : decode (mC M_B_wipe) 4 = .ok (.invokevirtual 53, 3) := by decide +kernel
theorem d_B_wipe_7 : decode (mC M_B_wipe) 7 = .ok (.ireturn, 1) := by decide +kernel
def vc_B_wipe_0 (r : Option Value) (hf : hc_H) (J : Nat → hc_K) (lv : hc_L) (st : List Value) (h : hc_H) : Prop := (qi_aload 0 (qi_get 5 0 (qi_invV hc_tt M_S_clear 0 3 (qi_iret r hf)))) lv st h
theorem sn_B_wipe_0 {Ph : Nat → State → Prop} {h0 hf : hc_H} {r : Option Value} : qk Ph M_B_wipe h0 hf r 0 (vc_B_wipe_0 r hf (cx Ph M_B_wipe h0 hf r)) := (qs_aload_n d_B_wipe_0 rfl (qs_get d_B_wipe_1 ff_B_12 (qs_invV hc_Ph_tt (fun _ _ _ => trivial) d_B_wipe_4 zz_S_clear wk_289 ⟨wk_290, wk_291⟩ ⟨_, rfl, rfl⟩ ⟨by decide, by decide⟩ (qs_iret d_B_wipe_7 rfl))))
theorem zz_S_readInto : hc_z M_S_readInto 1 := ⟨wk_211, wk_55, by decide +kernel⟩
/-! BalancedLine.fault()I -/
abbrev M_B_fault : hc_M := (⟨"BalancedLine", "fault", "()I"⟩, prog_1_method_4_code, 1, (some .int), 6, 142)
theorem d_B_fault_0 : decode (mC M_B_fault) 0 = .ok (.aload_n 0, 1) := by decide +kernel
theorem d_B_fault_1 : decode (mC M_B_fault) 1 = .ok (.getfield 12, 3) := by decide +kernel
theorem d_B_fault_4 : decode (mC M_B_fault) 4 = .ok (.aload_n 0, 1) := by decide +kernel
theorem d_B_fault_5 : decode (mC M_B_fault) 5 = .ok (.getfield 23, 3) := by decide +kernel
theorem d_B_fault_8 : decode (mC M_B_fault) 8 = .ok (.invokevirtual 49, 3) := by decide +kernel
theorem d_B_fault_11 : decode (mC M_B_fault) 11 = .ok (.ireturn, 1) := by decide +kernel
def vc_B_fault_0 (r : Option Value) (hf : hc_H) (J : Nat → hc_K) (lv : hc_L) (st : List Value) (h : hc_H) : Prop := (qi_aload 0 (qi_get 5 0 (qi_aload 0 (qi_get 5 2 (qi_invV hc_tt M_S_readInto 1 3 (qi_iret r hf)))))) lv st h
theorem sn_B_fault_0 {Ph : Nat → State → Prop} {h0 hf : hc_H} {r : Option Value} : qk Ph M_B_fault h0 hf r 0 (vc_B_fault_0 r hf (cx Ph M_B_fault h0 hf r)) := (qs_aload_n d_B_fault_0 rfl (qs_get d_B_fault_1 ff_B_12 (qs_aload_n d_B_fault_4 rfl (qs_get d_B_fault_5 ff_B_23 (qs_invV hc_Ph_tt (fun _ _ _ => trivial) d_B_fault_8 zz_S_readInto wk_208 ⟨wk_209, wk_210⟩ ⟨_, rfl, rfl⟩ ⟨by decide, by decide⟩ (qs_iret d_B_fault_11 rfl))))))
theorem zz_H_clear : hc_z M_H_clear 0 := ⟨wk_445, wk_57, by decide +kernel⟩
theorem zz_Y_forget : hc_z M_Y_forget 0 := ⟨wk_449, wk_63, by decide +kernel⟩
/-! BalancedLine.lay()I -/
abbrev M_B_lay : hc_M := (⟨"BalancedLine", "lay", "()I"⟩, prog_1_method_5_code, 1, (some .int), 6, 142)
theorem d_B_lay_0 : decode (mC M_B_lay) 0 = .ok (.aload_n 0, 1) := by decide +kernel
theorem d_B_lay_1 : decode (mC M_B_lay) 1 = .ok (.getfield 12, 3) := by decide +kernel
theorem d_B_lay_4 : decode (mC M_B_lay) 4 = .ok (.aload_n 0, 1) := by decide +kernel
theorem d_B_lay_5 : decode (mC M_B_lay) 5 = .ok (.getfield 23, 3) := by decide +kernel
theorem d_B_lay_8 : decode (mC M_B_lay) 8 = .ok (.invokevirtual 49, 3) := by decide +kernel
theorem d_B_lay_11 : decode (mC M_B_lay) 11 = .ok (.bipush (-4), 2) := by decide +kernel
theorem d_B_lay_13 : decode (mC M_B_lay) 13 = .ok (.if_icmp .ne 13, 3) := by decide +kernel
theorem d_B_lay_16 : decode (mC M_B_lay) 16 = .ok (.aload_n 0, 1) := by decide +kernel
theorem d_B_lay_17 : decode (mC M_B_lay) 17 = .ok (.getfield 23, 3) := by decide +kernel
theorem d_B_lay_20 : decode (mC M_B_lay) 20 = .ok (.getfield 72, 3) := by decide +kernel
theorem d_B_lay_23 : decode (mC M_B_lay) 23 = .ok (.ifCond .ne 6, 3) := by decide +kernel
theorem d_B_lay_26 : decode (mC M_B_lay) 26 = .ok (.bipush (-2), 2) := by decide +kernel
theorem d_B_lay_28 : decode (mC M_B_lay) 28 = .ok (.ireturn, 1) := by decide +kernel
theorem d_B_lay_29 : decode (mC M_B_lay) 29 = .ok (.aload_n 0, 1) := by decide +kernel
theorem d_B_lay_30 : decode (mC M_B_lay) 30 = .ok (.getfield 19, 3) := by decide +kernel
theorem d_B_lay_33 : decode (mC M_B_lay) 33 = .ok (.aload_n 0, 1) := by decide +kernel
theorem d_B_lay_34 : decode (mC M_B_lay) 34 = .ok (.getfield 23, 3) := by decide +kernel
theorem d_B_lay_37 : decode (mC M_B_lay) 37 = .ok (.invokevirtual 75, 3) := by decide +kernel
theorem d_B_lay_40 : decode (mC M_B_lay) 40 = .ok (.aload_n 0, 1) := by decide +kernel
theorem d_B_lay_41 : decode (mC M_B_lay) 41 = .ok (.getfield 29, 3) := by decide +kernel
theorem d_B_lay_44 : decode (mC M_B_lay) 44 = .ok (.invokevirtual 79, 3) := by decide +kernel
theorem d_B_lay_47 : decode (mC M_B_lay) 47 = .ok (.aload_n 0, 1) := by decide +kernel
theorem d_B_lay_48 : decode (mC M_B_lay) 48 = .ok (.getfield 61, 3) := by decide +kernel
theorem d_B_lay_51 : decode (mC M_B_lay) 51 = .ok (.invokevirtual 81, 3) := by decide +kernel
theorem d_B_lay_54 : decode (mC M_B_lay) 54 = .ok (.aload_n 0, 1) := by decide +kernel
theorem d_B_lay_55 : decode (mC M_B_lay) 55 = .ok (.getfield 19, 3) := by decide +kernel
theorem d_B_lay_58 : decode (mC M_B_lay) 58 = .ok (.getfield 72, 3) := by decide +kernel
theorem d_B_lay_61 : decode (mC M_B_lay) 61 = .ok (.ireturn, 1) := by decide +kernel
def vc_B_lay_29 (r : Option Value) (hf : hc_H) (J : Nat → hc_K) (lv : hc_L) (st : List Value) (h : hc_H) : Prop := (qi_aload 0 (qi_get 5 1 (qi_aload 0 (qi_get 5 2 (qi_invV hc_tt M_P_copy 1 2 (qi_aload 0 (qi_get 5 3 (qi_invV hc_tt M_H_clear 0 1 (qi_aload 0 (qi_get 5 4 (qi_invV hc_tt M_Y_forget 0 4 (qi_aload 0 (qi_get 5 1 (qi_get 2 0 (qi_iret r hf))))))))))))))) lv st h
theorem sn_B_lay_29 {Ph : Nat → State → Prop} {h0 hf : hc_H} {r : Option Value} : qk Ph M_B_lay h0 hf r 29 (vc_B_lay_29 r hf (cx Ph M_B_lay h0 hf r)) := (qs_aload_n d_B_lay_29 rfl (qs_get d_B_lay_30 ff_B_19 (qs_aload_n d_B_lay_33 rfl (qs_get d_B_lay_34 ff_B_23 (qs_invV hc_Ph_tt (fun _ _ _ => trivial) d_B_lay_37 zz_P_copy wk_435 ⟨wk_436, wk_437⟩ ⟨_, rfl, rfl⟩ ⟨by decide, by decide⟩ (qs_aload_n d_B_lay_40 rfl (qs_get d_B_lay_41 ff_B_29 (qs_invV hc_Ph_tt (fun _ _ _ => trivial) d_B_lay_44 zz_H_clear wk_442 ⟨wk_443, wk_444⟩ ⟨_, rfl, rfl⟩ ⟨by decide, by decide⟩ (qs_aload_n d_B_lay_47 rfl (qs_get d_B_lay_48 ff_B_61 (qs_invV hc_Ph_tt (fun _ _ _ => trivial) d_B_lay_51 zz_Y_forget wk_446 ⟨wk_447, wk_448⟩ ⟨_, rfl, rfl⟩ ⟨by decide, by decide⟩ (qs_aload_n d_B_lay_54 rfl (qs_get d_B_lay_55 ff_B_19 (qs_get d_B_lay_58 ff_B_72 (qs_iret d_B_lay_61 rfl)))))))))))))))
def vc_B_lay_26 (r : Option Value) (hf : hc_H) (J : Nat → hc_K) (lv : hc_L) (st : List Value) (h : hc_H) : Prop := (qi_push (-2) (qi_iret r hf)) lv st h
theorem sn_B_lay_26 {Ph : Nat → State → Prop} {h0 hf : hc_H} {r : Option Value} : qk Ph M_B_lay h0 hf r 26 (vc_B_lay_26 r hf (cx Ph M_B_lay h0 hf r)) := (qs_bipush d_B_lay_26 (by decide) (qs_iret d_B_lay_28 rfl))
def vc_B_lay_0 (r : Option Value) (hf : hc_H) (J : Nat → hc_K) (lv : hc_L) (st : List Value) (h : hc_H) : Prop := (qi_aload 0 (qi_get 5 0 (qi_aload 0 (qi_get 5 2 (qi_invV hc_tt M_S_readInto 1 3 (qi_push (-4) (qi_icmp_ne (vc_B_lay_26 r hf J) (qi_aload 0 (qi_get 5 2 (qi_get 2 0 (qi_if_ne (vc_B_lay_29 r hf J) (vc_B_lay_26 r hf J)))))))))))) lv st h
theorem sn_B_lay_0 {Ph : Nat → State → Prop} {h0 hf : hc_H} {r : Option Value} : qk Ph M_B_lay h0 hf r 0 (vc_B_lay_0 r hf (cx Ph M_B_lay h0 hf r)) := (qs_aload_n d_B_lay_0 rfl (qs_get d_B_lay_1 ff_B_12 (qs_aload_n d_B_lay_4 rfl (qs_get d_B_lay_5 ff_B_23 (qs_invV hc_Ph_tt (fun _ _ _ => trivial) d_B_lay_8 zz_S_readInto wk_208 ⟨wk_209, wk_210⟩ ⟨_, rfl, rfl⟩ ⟨by decide, by decide⟩ (qs_bipush d_B_lay_11 (by decide) (qs_icmp_ne (tgt := 26) d_B_lay_13 (by decide) sn_B_lay_26 (qs_aload_n d_B_lay_16 rfl (qs_get d_B_lay_17 ff_B_23 (qs_get d_B_lay_20 ff_B_72 (qs_if_ne (tgt := 29) d_B_lay_23 (by decide) sn_B_lay_29 sn_B_lay_26)))))))))))
theorem zz_P_takeOffMisfits : hc_z M_P_takeOffMisfits 0 := ⟨wk_470, wk_56, by decide +kernel⟩
/-! BalancedLine.settle()V -/
abbrev M_B_settle : hc_M := (⟨"BalancedLine", "settle", "()V"⟩, prog_1_method_32_code, 1, none, 4, 92)
theorem d_B_settle_0 : decode (mC M_B_settle) 0 = .ok (.aload_n 0, 1) := by decide +kernel
theorem d_B_settle_1 : decode (mC M_B_settle) 1 = .ok (.getfield 19, 3) := by decide +kernel
theorem d_B_settle_4 : decode (mC M_B_settle) 4 = .ok (.invokevirtual 231, 3) := by decide +kernel
theorem d_B_settle_7 : decode (mC M_B_settle) 7 = .ok (.aload_n 0, 1) := by decide +kernel
theorem d_B_settle_8 : decode (mC M_B_settle) 8 = .ok (.getfield 61, 3) := by decide +kernel
theorem d_B_settle_11 : decode (mC M_B_settle) 11 = .ok (.invokevirtual 81, 3) := by decide +kernel
theorem d_B_settle_14 : decode (mC M_B_settle) 14 = .ok (.return_, 1) := by decide +kernel
def vc_B_settle_0 (r : Option Value) (hf : hc_H) (J : Nat → hc_K) (lv : hc_L) (st : List Value) (h : hc_H) : Prop := (qi_aload 0 (qi_get 5 1 (qi_invV hc_tt M_P_takeOffMisfits 0 2 (qi_aload 0 (qi_get 5 4 (qi_invV hc_tt M_Y_forget 0 4 (qi_vret r hf))))))) lv st h
theorem sn_B_settle_0 {Ph : Nat → State → Prop} {h0 hf : hc_H} {r : Option Value} : qk Ph M_B_settle h0 hf r 0 (vc_B_settle_0 r hf (cx Ph M_B_settle h0 hf r)) := (qs_aload_n d_B_settle_0 rfl (qs_get d_B_settle_1 ff_B_19 (qs_invV hc_Ph_tt (fun _ _ _ => trivial) d_B_settle_4 zz_P_takeOffMisfits wk_467 ⟨wk_468, wk_469⟩ ⟨_, rfl, rfl⟩ ⟨by decide, by decide⟩ (qs_aload_n d_B_settle_7 rfl (qs_get d_B_settle_8 ff_B_61 (qs_invV hc_Ph_tt (fun _ _ _ => trivial) d_B_settle_11 zz_Y_forget wk_446 ⟨wk_447, wk_448⟩ ⟨_, rfl, rfl⟩ ⟨by decide, by decide⟩ (qs_vret d_B_settle_14 rfl)))))))
theorem zz_H_keep : hc_z M_H_keep 1 := ⟨wk_457, wk_57, by decide +kernel⟩
theorem zz_B_settle : hc_z M_B_settle 0 := ⟨wk_466, wk_54, by decide +kernel⟩
/-! BalancedLine.cycle(I)I -/
abbrev M_B_cycle : hc_M := (⟨"BalancedLine", "cycle", "(I)I"⟩, prog_1_method_6_code, 3, (some .int), 5, 112)
theorem d_B_cycle_0 : decode (mC M_B_cycle) 0 = .ok (.iload_n 1, 1) := by decide +kernel
theorem d_B_cycle_1 : decode (mC M_B_cycle) 1 = .ok (.iconst 1, 1) := by decide +kernel
theorem d_B_cycle_2 : decode (mC M_B_cycle) 2 = .ok (.bipush 120, 2) := by decide +kernel
theorem d_B_cycle_4 : decode (mC M_B_cycle) 4 = .ok (.invokestatic 65, 3) := by decide +kernel
theorem d_B_cycle_7 : decode (mC M_B_cycle) 7 = .ok (.ifCond .ne 5, 3) := by decide +kernel
theorem d_B_cycle_10 : decode (mC M_B_cycle) 10 = .ok (.iconst (-1), 1) := by decide +kernel
theorem d_B_cycle_11 : decode (mC M_B_cycle) 11 = .ok (.ireturn, 1) := by decide +kernel
theorem d_B_cycle_12 : decode (mC M_B_cycle) 12 = .ok (.aload_n 0, 1) := by decide +kernel
theorem d_B_cycle_13 : decode (mC M_B_cycle) 13 = .ok (.getfield 19, 3) := by decide +kernel
theorem d_B_cycle_16 : decode (mC M_B_cycle) 16 = .ok (.getfield 84, 3) := by decide +kernel
theorem d_B_cycle_19 : decode (mC M_B_cycle) 19 = .ok (.istore_n 2, 1) := by decide +kernel
theorem d_B_cycle_20 : decode (mC M_B_cycle) 20 = .ok (.iload_n 2, 1) := by decide +kernel
theorem d_B_cycle_21 : decode (mC M_B_cycle) 21 = .ok (.iload_n 1, 1) := by decide +kernel
theorem d_B_cycle_22 : decode (mC M_B_cycle) 22 = .ok (.if_icmp .ne 6, 3) := by decide +kernel
theorem d_B_cycle_25 : decode (mC M_B_cycle) 25 = .ok (.bipush (-2), 2) := by decide +kernel
theorem d_B_cycle_27 : decode (mC M_B_cycle) 27 = .ok (.ireturn, 1) := by decide +kernel
theorem d_B_cycle_28 : decode (mC M_B_cycle) 28 = .ok (.aload_n 0, 1) := by decide +kernel
theorem d_B_cycle_29 : decode (mC M_B_cycle) 29 = .ok (.getfield 29, 3) := by decide +kernel
theorem d_B_cycle_32 : decode (mC M_B_cycle) 32 = .ok (.aload_n 0, 1) := by decide +kernel
theorem d_B_cycle_33 : decode (mC M_B_cycle) 33 = .ok (.getfield 19, 3) := by decide +kernel
theorem d_B_cycle_36 : decode (mC M_B_cycle) 36 = .ok (.invokevirtual 87, 3) := by decide +kernel
theorem d_B_cycle_39 : decode (mC M_B_cycle) 39 = .ok (.aload_n 0, 1) := by decide +kernel
theorem d_B_cycle_40 : decode (mC M_B_cycle) 40 = .ok (.getfield 19, 3) := by decide +kernel
theorem d_B_cycle_43 : decode (mC M_B_cycle) 43 = .ok (.iload_n 1, 1) := by decide +kernel
theorem d_B_cycle_44 : decode (mC M_B_cycle) 44 = .ok (.putfield 84, 3) := by decide +kernel
theorem d_B_cycle_47 : decode (mC M_B_cycle) 47 = .ok (.aload_n 0, 1) := by decide +kernel
theorem d_B_cycle_48 : decode (mC M_B_cycle) 48 = .ok (.invokevirtual 90, 3) := by decide +kernel
theorem d_B_cycle_51 : decode (mC M_B_cycle) 51 = .ok (.iload_n 2, 1) := by decide +kernel
theorem d_B_cycle_52 : decode (mC M_B_cycle) 52 = .ok (.ireturn, 1) := by decide +kernel
def vc_B_cycle_28 (r : Option Value) (hf : hc_H) (J : Nat → hc_K) (lv : hc_L) (st : List Value) (h : hc_H) : Prop := (qi_aload 0 (qi_get 5 3 (qi_aload 0 (qi_get 5 1 (qi_invV hc_tt M_H_keep 1 1 (qi_aload 0 (qi_get 5 1 (qi_iload 1 (qi_put 2 1 .int (qi_aload 0 (qi_invV hc_tt M_B_settle 0 5 (qi_iload 2 (qi_iret r hf))))))))))))) lv st h
theorem sn_B_cycle_28 {Ph : Nat → State → Prop} {h0 hf : hc_H} {r : Option Value} : qk Ph M_B_cycle h0 hf r 28 (vc_B_cycle_28 r hf (cx Ph M_B_cycle h0 hf r)) := (qs_aload_n d_B_cycle_28 rfl (qs_get d_B_cycle_29 ff_B_29 (qs_aload_n d_B_cycle_32 rfl (qs_get d_B_cycle_33 ff_B_19 (qs_invV hc_Ph_tt (fun _ _ _ => trivial) d_B_cycle_36 zz_H_keep wk_454 ⟨wk_455, wk_456⟩ ⟨_, rfl, rfl⟩ ⟨by decide, by decide⟩ (qs_aload_n d_B_cycle_39 rfl (qs_get d_B_cycle_40 ff_B_19 (qs_iload_n d_B_cycle_43 rfl (qs_put d_B_cycle_44 ff_B_84 ⟨_, _, _, rfl, rfl, by decide +kernel⟩ (qs_aload_n d_B_cycle_47 rfl (qs_invV hc_Ph_tt (fun _ _ _ => trivial) d_B_cycle_48 zz_B_settle wk_463 ⟨wk_465, wk_8⟩ ⟨_, rfl, rfl⟩ ⟨by decide, by decide⟩ (qs_iload_n d_B_cycle_51 rfl (qs_iret d_B_cycle_52 rfl)))))))))))))
def vc_B_cycle_12 (r : Option Value) (hf : hc_H) (J : Nat → hc_K) (lv : hc_L) (st : List Value) (h : hc_H) : Prop := (qi_aload 0 (qi_get 5 1 (qi_get 2 1 (qi_istore 2 (qi_iload 2 (qi_iload 1 (qi_icmp_ne (vc_B_cycle_28 r hf J) (qi_push (-2) (qi_iret r hf))))))))) lv st h
theorem sn_B_cycle_12 {Ph : Nat → State → Prop} {h0 hf : hc_H} {r : Option Value} : qk Ph M_B_cycle h0 hf r 12 (vc_B_cycle_12 r hf (cx Ph M_B_cycle h0 hf r)) := (qs_aload_n d_B_cycle_12 rfl (qs_get d_B_cycle_13 ff_B_19 (qs_get d_B_cycle_16 ff_B_84 (qs_istore_n d_B_cycle_19 rfl (by decide) (qs_iload_n d_B_cycle_20 rfl (qs_iload_n d_B_cycle_21 rfl (qs_icmp_ne (tgt := 28) d_B_cycle_22 (by decide) sn_B_cycle_28 (qs_bipush d_B_cycle_25 (by decide) (qs_iret d_B_cycle_27 rfl)))))))))
def vc_B_cycle_0 (r : Option Value) (hf : hc_H) (J : Nat → hc_K) (lv : hc_L) (st : List Value) (h : hc_H) : Prop := (qi_iload 1 (qi_push (nI 1) (qi_push (nI 120) (qi_invS hc_tt M_B_isWithin 3 (qi_if_ne (vc_B_cycle_12 r hf J) (qi_push (-1) (qi_iret r hf))))))) lv st h
theorem sn_B_cycle_0 {Ph : Nat → State → Prop} {h0 hf : hc_H} {r : Option Value} : qk Ph M_B_cycle h0 hf r 0 (vc_B_cycle_0 r hf (cx Ph M_B_cycle h0 hf r)) := (qs_iload_n d_B_cycle_0 rfl (qs_iconst d_B_cycle_1 (by decide) (qs_bipush d_B_cycle_2 (by decide) (qs_invS hc_Ph_tt (fun _ _ _ => trivial) d_B_cycle_4 zz_B_isWithin wk_422 wk_236 ⟨by decide, by decide⟩ (qs_if_ne (tgt := 12) d_B_cycle_7 (by decide) sn_B_cycle_12 (qs_iconst d_B_cycle_10 (by decide) (qs_iret d_B_cycle_11 rfl)))))))
/-! BalancedLine.time(II)I -/
abbrev M_B_time : hc_M := (⟨"BalancedLine", "time", "(II)I"⟩, prog_1_method_7_code, 4, (some .int), 5, 112)
theorem d_B_time_0 : decode (mC M_B_time) 0 = .ok (.aload_n 0, 1) := by decide +kernel
theorem d_B_time_1 : decode (mC M_B_time) 1 = .ok (.getfield 19, 3) := by decide +kernel
theorem d_B_time_4 : decode (mC M_B_time) 4 = .ok (.iload_n 1, 1) := by decide +kernel
theorem d_B_time_5 : decode (mC M_B_time) 5 = .ok (.invokevirtual 93, 3) := by decide +kernel
theorem d_B_time_8 : decode (mC M_B_time) 8 = .ok (.ifCond .eq 13, 3) := by decide +kernel
theorem d_B_time_11 : decode (mC M_B_time) 11 = .ok (.iload_n 2, 1) := by decide +kernel
theorem d_B_time_12 : decode (mC M_B_time) 12 = .ok (.iconst 1, 1) := by decide +kernel
theorem d_B_time_13 : decode (mC M_B_time) 13 = .ok (.bipush 60, 2) := by decide +kernel
theorem d_B_time_15 : decode (mC M_B_time) 15 = .ok (.invokestatic 65, 3) := by decide +kernel
theorem d_B_time_18 : decode (mC M_B_time) 18 = .ok (.ifCond .ne 5, 3) := by decide +kernel
theorem d_B_time_21 : decode (mC M_B_time) 21 = .ok (.iconst (-1), 1) := by decide +kernel
theorem d_B_time_22 : decode (mC M_B_time) 22 = .ok (.ireturn, 1) := by decide +kernel
theorem d_B_time_23 : decode (mC M_B_time) 23 = .ok (.aload_n 0, 1) := by decide +kernel
theorem d_B_time_24 : decode (mC M_B_time) 24 = .ok (.getfield 19, 3) := by decide +kernel
theorem d_B_time_27 : decode (mC M_B_time) 27 = .ok (.getfield 97, 3) := by decide +kernel
theorem d_B_time_30 : decode (mC M_B_time) 30 = .ok (.iload_n 1, 1) := by decide +kernel
theorem d_B_time_31 : decode (mC M_B_time) 31 = .ok (.iaload, 1) := by decide +kernel
theorem d_B_time_32 : decode (mC M_B_time) 32 = .ok (.istore_n 3, 1) := by decide +kernel
theorem d_B_time_33 : decode (mC M_B_time) 33 = .ok (.iload_n 3, 1) := by decide +kernel
theorem d_B_time_34 : decode (mC M_B_time) 34 = .ok (.iload_n 2, 1) := by decide +kernel
theorem d_B_time_35 : decode (mC M_B_time) 35 = .ok (.if_icmp .ne 6, 3) := by decide +kernel
theorem d_B_time_38 : decode (mC M_B_time) 38 = .ok (.bipush (-2), 2) := by decide +kernel
theorem d_B_time_40 : decode (mC M_B_time) 40 = .ok (.ireturn, 1) := by decide +kernel
theorem d_B_time_41 : decode (mC M_B_time) 41 = .ok (.aload_n 0, 1) := by decide +kernel
theorem d_B_time_42 : decode (mC M_B_time) 42 = .ok (.getfield 29, 3) := by decide +kernel
theorem d_B_time_45 : decode (mC M_B_time) 45 = .ok (.aload_n 0, 1) := by decide +kernel
theorem d_B_time_46 : decode (mC M_B_time) 46 = .ok (.getfield 19, 3) := by decide +kernel
theorem d_B_time_49 : decode (mC M_B_time) 49 = .ok (.invokevirtual 87, 3) := by decide +kernel
theorem d_B_time_52 : decode (mC M_B_time) 52 = .ok (.aload_n 0, 1) := by decide +kernel
theorem d_B_time_53 : decode (mC M_B_time) 53 = .ok (.getfield 19, 3) := by decide +kernel
theorem d_B_time_56 : decode (mC M_B_time) 56 = .ok (.getfield 97, 3) := by decide +kernel
theorem d_B_time_59 : decode (mC M_B_time) 59 = .ok (.iload_n 1, 1) := by decide +kernel
theorem d_B_time_60 : decode (mC M_B_time) 60 = .ok (.iload_n 2, 1) := by decide +kernel
theorem d_B_time_61 : decode (mC M_B_time) 61 = .ok (.iastore, 1) := by decide +kernel
theorem d_B_time_62 : decode (mC M_B_time) 62 = .ok (.aload_n 0, 1) := by decide +kernel
theorem d_B_time_63 : decode (mC M_B_time) 63 = .ok (.invokevirtual 90, 3) := by decide +kernel
theorem d_B_time_66 : decode (mC M_B_time) 66 = .ok (.iload_n 3, 1) := by decide +kernel
theorem d_B_time_67 : decode (mC M_B_time) 67 = .ok (.ireturn, 1) := by decide +kernel
def vc_B_time_41 (r : Option Value) (hf : hc_H) (J : Nat → hc_K) (lv : hc_L) (st : List Value) (h : hc_H) : Prop := (qi_aload 0 (qi_get 5 3 (qi_aload 0 (qi_get 5 1 (qi_invV hc_tt M_H_keep 1 1 (qi_aload 0 (qi_get 5 1 (qi_get 2 2 (qi_iload 1 (qi_iload 2 (qi_iast (qi_aload 0 (qi_invV hc_tt M_B_settle 0 5 (qi_iload 3 (qi_iret r hf))))))))))))))) lv st h
theorem sn_B_time_41 {Ph : Nat → State → Prop} {h0 hf : hc_H} {r : Option Value} : qk Ph M_B_time h0 hf r 41 (vc_B_time_41 r hf (cx Ph M_B_time h0 hf r)) := (qs_aload_n d_B_time_41 rfl (qs_get d_B_time_42 ff_B_29 (qs_aload_n d_B_time_45 rfl (qs_get d_B_time_46 ff_B_19 (qs_invV hc_Ph_tt (fun _ _ _ => trivial) d_B_time_49 zz_H_keep wk_454 ⟨wk_455, wk_456⟩ ⟨_, rfl, rfl⟩ ⟨by decide, by decide⟩ (qs_aload_n d_B_time_52 rfl (qs_get d_B_time_53 ff_B_19 (qs_get d_B_time_56 ff_B_97 (qs_iload_n d_B_time_59 rfl (qs_iload_n d_B_time_60 rfl (qs_iastore d_B_time_61 (qs_aload_n d_B_time_62 rfl (qs_invV hc_Ph_tt (fun _ _ _ => trivial) d_B_time_63 zz_B_settle wk_463 ⟨wk_465, wk_8⟩ ⟨_, rfl, rfl⟩ ⟨by decide, by decide⟩ (qs_iload_n d_B_time_66 rfl (qs_iret d_B_time_67 rfl)))))))))))))))
def vc_B_time_23 (r : Option Value) (hf : hc_H) (J : Nat → hc_K) (lv : hc_L) (st : List Value) (h : hc_H) : Prop := (qi_aload 0 (qi_get 5 1 (qi_get 2 2 (qi_iload 1 (qi_iald 0 (qi_istore 3 (qi_iload 3 (qi_iload 2 (qi_icmp_ne (vc_B_time_41 r hf J) (qi_push (-2) (qi_iret r hf))))))))))) lv st h
theorem sn_B_time_23 {Ph : Nat → State → Prop} {h0 hf : hc_H} {r : Option Value} : qk Ph M_B_time h0 hf r 23 (vc_B_time_23 r hf (cx Ph M_B_time h0 hf r)) := (qs_aload_n d_B_time_23 rfl (qs_get d_B_time_24 ff_B_19 (qs_get d_B_time_27 ff_B_97 (qs_iload_n d_B_time_30 rfl (qs_iaload d_B_time_31 (qs_istore_n d_B_time_32 rfl (by decide) (qs_iload_n d_B_time_33 rfl (qs_iload_n d_B_time_34 rfl (qs_icmp_ne (tgt := 41) d_B_time_35 (by decide) sn_B_time_41 (qs_bipush d_B_time_38 (by decide) (qs_iret d_B_time_40 rfl)))))))))))
def vc_B_time_21 (r : Option Value) (hf : hc_H) (J : Nat → hc_K) (lv : hc_L) (st : List Value) (h : hc_H) : Prop := (qi_push (-1) (qi_iret r hf)) lv st h
theorem sn_B_time_21 {Ph : Nat → State → Prop} {h0 hf : hc_H} {r : Option Value} : qk Ph M_B_time h0 hf r 21 (vc_B_time_21 r hf (cx Ph M_B_time h0 hf r)) := (qs_iconst d_B_time_21 (by decide) (qs_iret d_B_time_22 rfl))
def vc_B_time_0 (r : Option Value) (hf : hc_H) (J : Nat → hc_K) (lv : hc_L) (st : List Value) (h : hc_H) : Prop := (qi_aload 0 (qi_get 5 1 (qi_iload 1 (qi_invV hc_tt M_P_has 1 2 (qi_if_eq (vc_B_time_21 r hf J) (qi_iload 2 (qi_push (nI 1) (qi_push (nI 60) (qi_invS hc_tt M_B_isWithin 3 (qi_if_ne (vc_B_time_23 r hf J) (vc_B_time_21 r hf J))))))))))) lv st h
theorem sn_B_time_0 {Ph : Nat → State → Prop} {h0 hf : hc_H} {r : Option Value} : qk Ph M_B_time h0 hf r 0 (vc_B_time_0 r hf (cx Ph M_B_time h0 hf r)) := (qs_aload_n d_B_time_0 rfl (qs_get d_B_time_1 ff_B_19 (qs_iload_n d_B_time_4 rfl (qs_invV hc_Ph_tt (fun _ _ _ => trivial) d_B_time_5 zz_P_has wk_489 ⟨wk_255, wk_256⟩ ⟨_, rfl, rfl⟩ ⟨by decide, by decide⟩ (qs_if_eq (tgt := 21) d_B_time_8 (by decide) sn_B_time_21 (qs_iload_n d_B_time_11 rfl (qs_iconst d_B_time_12 (by decide) (qs_bipush d_B_time_13 (by decide) (qs_invS hc_Ph_tt (fun _ _ _ => trivial) d_B_time_15 zz_B_isWithin wk_422 wk_236 ⟨by decide, by decide⟩ (qs_if_ne (tgt := 23) d_B_time_18 (by decide) sn_B_time_23 sn_B_time_21))))))))))
theorem zz_P_orders : hc_z M_P_orders 0 := ⟨wk_501, wk_56, by decide +kernel⟩
/-! BalancedLine.order(III)I -/
abbrev M_B_order : hc_M := (⟨"BalancedLine", "order", "(III)I"⟩, prog_1_method_8_code, 5, (some .int), 5, 112)
theorem d_B_order_0 : decode (mC M_B_order) 0 = .ok (.aload_n 0, 1) := by decide +kernel
theorem d_B_order_1 : decode (mC M_B_order) 1 = .ok (.getfield 19, 3) := by decide +kernel
theorem d_B_order_4 : decode (mC M_B_order) 4 = .ok (.iload_n 1, 1) := by decide +kernel
theorem d_B_order_5 : decode (mC M_B_order) 5 = .ok (.iload_n 2, 1) := by decide +kernel
theorem d_B_order_6 : decode (mC M_B_order) 6 = .ok (.invokevirtual 101, 3) := by decide +kernel
theorem d_B_order_9 : decode (mC M_B_order) 9 = .ok (.ifCond .eq 12, 3) := by decide +kernel
theorem d_B_order_12 : decode (mC M_B_order) 12 = .ok (.iload_n 3, 1) := by decide +kernel
theorem d_B_order_13 : decode (mC M_B_order) 13 = .ok (.iconst 0, 1) := by decide +kernel
theorem d_B_order_14 : decode (mC M_B_order) 14 = .ok (.iconst 1, 1) := by decide +kernel
theorem d_B_order_15 : decode (mC M_B_order) 15 = .ok (.invokestatic 65, 3) := by decide +kernel
theorem d_B_order_18 : decode (mC M_B_order) 18 = .ok (.ifCond .ne 5, 3) := by decide +kernel
theorem d_B_order_21 : decode (mC M_B_order) 21 = .ok (.iconst (-1), 1) := by decide +kernel
theorem d_B_order_22 : decode (mC M_B_order) 22 = .ok (.ireturn, 1) := by decide +kernel
theorem d_B_order_23 : decode (mC M_B_order) 23 = .ok (.iload_n 3, 1) := by decide +kernel
theorem d_B_order_24 : decode (mC M_B_order) 24 = .ok (.iconst 1, 1) := by decide +kernel
theorem d_B_order_25 : decode (mC M_B_order) 25 = .ok (.if_icmp .ne 7, 3) := by decide +kernel
theorem d_B_order_28 : decode (mC M_B_order) 28 = .ok (.iconst 1, 1) := by decide +kernel
theorem d_B_order_29 : decode (mC M_B_order) 29 = .ok (.goto 4, 3) := by decide +kernel
theorem d_B_order_32 : decode (mC M_B_order) 32 = .ok (.iconst 0, 1) := by decide +kernel
theorem d_B_order_33 : decode (mC M_B_order) 33 = .ok (.istore 4, 2) := by decide +kernel
theorem d_B_order_35 : decode (mC M_B_order) 35 = .ok (.aload_n 0, 1) := by decide +kernel
theorem d_B_order_36 : decode (mC M_B_order) 36 = .ok (.getfield 19, 3) := by decide +kernel
theorem d_B_order_39 : decode (mC M_B_order) 39 = .ok (.iload_n 2, 1) := by decide +kernel
theorem d_B_order_40 : decode (mC M_B_order) 40 = .ok (.iload_n 1, 1) := by decide +kernel
theorem d_B_order_41 : decode (mC M_B_order) 41 = .ok (.invokevirtual 105, 3) := by decide +kernel
theorem d_B_order_44 : decode (mC M_B_order) 44 = .ok (.iload 4, 2) := by decide +kernel
theorem d_B_order_46 : decode (mC M_B_order) 46 = .ok (.if_icmp .eq 20, 3) := by decide +kernel
theorem d_B_order_49 : decode (mC M_B_order) 49 = .ok (.iload 4, 2) := by decide +kernel
theorem d_B_order_51 : decode (mC M_B_order) 51 = .ok (.ifCond .eq 18, 3) := by decide +kernel
theorem d_B_order_54 : decode (mC M_B_order) 54 = .ok (.aload_n 0, 1) := by decide +kernel
theorem d_B_order_55 : decode (mC M_B_order) 55 = .ok (.getfield 19, 3) := by decide +kernel
theorem d_B_order_58 : decode (mC M_B_order) 58 = .ok (.iload_n 1, 1) := by decide +kernel
theorem d_B_order_59 : decode (mC M_B_order) 59 = .ok (.iload_n 2, 1) := by decide +kernel
theorem d_B_order_60 : decode (mC M_B_order) 60 = .ok (.invokevirtual 108, 3) := by decide +kernel
theorem d_B_order_63 : decode (mC M_B_order) 63 = .ok (.ifCond .eq 6, 3) := by decide +kernel
theorem d_B_order_66 : decode (mC M_B_order) 66 = .ok (.bipush (-2), 2) := by decide +kernel
theorem d_B_order_68 : decode (mC M_B_order) 68 = .ok (.ireturn, 1) := by decide +kernel
theorem d_B_order_69 : decode (mC M_B_order) 69 = .ok (.aload_n 0, 1) := by decide +kernel
theorem d_B_order_70 : decode (mC M_B_order) 70 = .ok (.getfield 29, 3) := by decide +kernel
theorem d_B_order_73 : decode (mC M_B_order) 73 = .ok (.aload_n 0, 1) := by decide +kernel
theorem d_B_order_74 : decode (mC M_B_order) 74 = .ok (.getfield 19, 3) := by decide +kernel
theorem d_B_order_77 : decode (mC M_B_order) 77 = .ok (.invokevirtual 87, 3) := by decide +kernel
theorem d_B_order_80 : decode (mC M_B_order) 80 = .ok (.aload_n 0, 1) := by decide +kernel
theorem d_B_order_81 : decode (mC M_B_order) 81 = .ok (.getfield 19, 3) := by decide +kernel
theorem d_B_order_84 : decode (mC M_B_order) 84 = .ok (.iload_n 1, 1) := by decide +kernel
theorem d_B_order_85 : decode (mC M_B_order) 85 = .ok (.iload_n 2, 1) := by decide +kernel
theorem d_B_order_86 : decode (mC M_B_order) 86 = .ok (.iload 4, 2) := by decide +kernel
theorem d_B_order_88 : decode (mC M_B_order) 88 = .ok (.invokevirtual 111, 3) := by decide +kernel
theorem d_B_order_91 : decode (mC M_B_order) 91 = .ok (.aload_n 0, 1) := by decide +kernel
theorem d_B_order_92 : decode (mC M_B_order) 92 = .ok (.invokevirtual 90, 3) := by decide +kernel
theorem d_B_order_95 : decode (mC M_B_order) 95 = .ok (.aload_n 0, 1) := by decide +kernel
theorem d_B_order_96 : decode (mC M_B_order) 96 = .ok (.getfield 19, 3) := by decide +kernel
theorem d_B_order_99 : decode (mC M_B_order) 99 = .ok (.invokevirtual 115, 3) := by decide +kernel
theorem d_B_order_102 : decode (mC M_B_order) 102 = .ok (.ireturn, 1) := by decide +kernel
def vc_B_order_69 (r : Option Value) (hf : hc_H) (J : Nat → hc_K) (lv : hc_L) (st : List Value) (h : hc_H) : Prop := (qi_aload 0 (qi_get 5 3 (qi_aload 0 (qi_get 5 1 (qi_invV hc_tt M_H_keep 1 1 (qi_aload 0 (qi_get 5 1 (qi_iload 1 (qi_iload 2 (qi_iload 4 (qi_invV hc_tt M_P_setOrder 3 2 (qi_aload 0 (qi_invV hc_tt M_B_settle 0 5 (qi_aload 0 (qi_get 5 1 (qi_invV hc_tt M_P_orders 0 2 (qi_iret r hf))))))))))))))))) lv st h
theorem sn_B_order_69 {Ph : Nat → State → Prop} {h0 hf : hc_H} {r : Option Value} : qk Ph M_B_order h0 hf r 69 (vc_B_order_69 r hf (cx Ph M_B_order h0 hf r)) := (qs_aload_n d_B_order_69 rfl (qs_get d_B_order_70 ff_B_29 (qs_aload_n d_B_order_73 rfl (qs_get d_B_order_74 ff_B_19 (qs_invV hc_Ph_tt (fun _ _ _ => trivial) d_B_order_77 zz_H_keep wk_454 ⟨wk_455, wk_456⟩ ⟨_, rfl, rfl⟩ ⟨by decide, by decide⟩ (qs_aload_n d_B_order_80 rfl (qs_get d_B_order_81 ff_B_19 (qs_iload_n d_B_order_84 rfl (qs_iload_n d_B_order_85 rfl (qs_iload d_B_order_86 (qs_invV hc_Ph_tt (fun _ _ _ => trivial) d_B_order_88 zz_P_setOrder wk_497 ⟨wk_275, wk_276⟩ ⟨_, rfl, rfl⟩ ⟨by decide, by decide⟩ (qs_aload_n d_B_order_91 rfl (qs_invV hc_Ph_tt (fun _ _ _ => trivial) d_B_order_92 zz_B_settle wk_463 ⟨wk_465, wk_8⟩ ⟨_, rfl, rfl⟩ ⟨by decide, by decide⟩ (qs_aload_n d_B_order_95 rfl (qs_get d_B_order_96 ff_B_19 (qs_invV hc_Ph_tt (fun _ _ _ => trivial) d_B_order_99 zz_P_orders wk_498 ⟨wk_499, wk_500⟩ ⟨_, rfl, rfl⟩ ⟨by decide, by decide⟩ (qs_iret d_B_order_102 rfl)))))))))))))))))
def vc_B_order_66 (r : Option Value) (hf : hc_H) (J : Nat → hc_K) (lv : hc_L) (st : List Value) (h : hc_H) : Prop := (qi_push (-2) (qi_iret r hf)) lv st h
theorem sn_B_order_66 {Ph : Nat → State → Prop} {h0 hf : hc_H} {r : Option Value} : qk Ph M_B_order h0 hf r 66 (vc_B_order_66 r hf (cx Ph M_B_order h0 hf r)) := (qs_bipush d_B_order_66 (by decide) (qs_iret d_B_order_68 rfl))
def vc_B_order_33 (r : Option Value) (hf : hc_H) (J : Nat → hc_K) (lv : hc_L) (st : List Value) (h : hc_H) : Prop := (qi_istore 4 (qi_aload 0 (qi_get 5 1 (qi_iload 2 (qi_iload 1 (qi_invV hc_tt M_P_isBehind 2 2 (qi_iload 4 (qi_icmp_eq (vc_B_order_66 r hf J) (qi_iload 4 (qi_if_eq (vc_B_order_69 r hf J) (qi_aload 0 (qi_get 5 1 (qi_iload 1 (qi_iload 2 (qi_invV hc_tt M_P_wouldGoRound 2 2 (qi_if_eq (vc_B_order_69 r hf J) (vc_B_order_66 r hf J))))))))))))))))) lv st h
theorem sn_B_order_33 {Ph : Nat → State → Prop} {h0 hf : hc_H} {r : Option Value} : qk Ph M_B_order h0 hf r 33 (vc_B_order_33 r hf (cx Ph M_B_order h0 hf r)) := (qs_istore d_B_order_33 (by decide) (qs_aload_n d_B_order_35 rfl (qs_get d_B_order_36 ff_B_19 (qs_iload_n d_B_order_39 rfl (qs_iload_n d_B_order_40 rfl (qs_invV hc_Ph_tt (fun _ _ _ => trivial) d_B_order_41 zz_P_isBehind wk_495 ⟨wk_263, wk_264⟩ ⟨_, rfl, rfl⟩ ⟨by decide, by decide⟩ (qs_iload d_B_order_44 (qs_icmp_eq (tgt := 66) d_B_order_46 (by decide) sn_B_order_66 (qs_iload d_B_order_49 (qs_if_eq (tgt := 69) d_B_order_51 (by decide) sn_B_order_69 (qs_aload_n d_B_order_54 rfl (qs_get d_B_order_55 ff_B_19 (qs_iload_n d_B_order_58 rfl (qs_iload_n d_B_order_59 rfl (qs_invV hc_Ph_tt (fun _ _ _ => trivial) d_B_order_60 zz_P_wouldGoRound wk_496 ⟨wk_267, wk_268⟩ ⟨_, rfl, rfl⟩ ⟨by decide, by decide⟩ (qs_if_eq (tgt := 69) d_B_order_63 (by decide) sn_B_order_69 sn_B_order_66))))))))))))))))
def vc_B_order_32 (r : Option Value) (hf : hc_H) (J : Nat → hc_K) (lv : hc_L) (st : List Value) (h : hc_H) : Prop := (qi_push (nI 0) (vc_B_order_33 r hf J)) lv st h
theorem sn_B_order_32 {Ph : Nat → State → Prop} {h0 hf : hc_H} {r : Option Value} : qk Ph M_B_order h0 hf r 32 (vc_B_order_32 r hf (cx Ph M_B_order h0 hf r)) := (qs_iconst d_B_order_32 (by decide) sn_B_order_33)
def vc_B_order_23 (r : Option Value) (hf : hc_H) (J : Nat → hc_K) (lv : hc_L) (st : List Value) (h : hc_H) : Prop := (qi_iload 3 (qi_push (nI 1) (qi_icmp_ne (vc_B_order_32 r hf J) (qi_push (nI 1) (vc_B_order_33 r hf J))))) lv st h
theorem sn_B_order_23 {Ph : Nat → State → Prop} {h0 hf : hc_H} {r : Option Value} : qk Ph M_B_order h0 hf r 23 (vc_B_order_23 r hf (cx Ph M_B_order h0 hf r)) := (qs_iload_n d_B_order_23 rfl (qs_iconst d_B_order_24 (by decide) (qs_icmp_ne (tgt := 32) d_B_order_25 (by decide) sn_B_order_32 (qs_iconst d_B_order_28 (by decide) (qs_goto (tgt := 33) d_B_order_29 (by decide) sn_B_order_33)))))
def vc_B_order_21 (r : Option Value) (hf : hc_H) (J : Nat → hc_K) (lv : hc_L) (st : List Value) (h : hc_H) : Prop := (qi_push (-1) (qi_iret r hf)) lv st h
theorem sn_B_order_21 {Ph : Nat → State → Prop} {h0 hf : hc_H} {r : Option Value} : qk Ph M_B_order h0 hf r 21 (vc_B_order_21 r hf (cx Ph M_B_order h0 hf r)) := (qs_iconst d_B_order_21 (by decide) (qs_iret d_B_order_22 rfl))
def vc_B_order_0 (r : Option Value) (hf : hc_H) (J : Nat → hc_K) (lv : hc_L) (st : List Value) (h : hc_H) : Prop := (qi_aload 0 (qi_get 5 1 (qi_iload 1 (qi_iload 2 (qi_invV hc_tt M_P_hasPair 2 2 (qi_if_eq (vc_B_order_21 r hf J) (qi_iload 3 (qi_push (nI 0) (qi_push (nI 1) (qi_invS hc_tt M_B_isWithin 3 (qi_if_ne (vc_B_order_23 r hf J) (vc_B_order_21 r hf J)))))))))))) lv st h
theorem sn_B_order_0 {Ph : Nat → State → Prop} {h0 hf : hc_H} {r : Option Value} : qk Ph M_B_order h0 hf r 0 (vc_B_order_0 r hf (cx Ph M_B_order h0 hf r)) := (qs_aload_n d_B_order_0 rfl (qs_get d_B_order_1 ff_B_19 (qs_iload_n d_B_order_4 rfl (qs_iload_n d_B_order_5 rfl (qs_invV hc_Ph_tt (fun _ _ _ => trivial) d_B_order_6 zz_P_hasPair wk_494 ⟨wk_251, wk_252⟩ ⟨_, rfl, rfl⟩ ⟨by decide, by decide⟩ (qs_if_eq (tgt := 21) d_B_order_9 (by decide) sn_B_order_21 (qs_iload_n d_B_order_12 rfl (qs_iconst d_B_order_13 (by decide) (qs_iconst d_B_order_14 (by decide) (qs_invS hc_Ph_tt (fun _ _ _ => trivial) d_B_order_15 zz_B_isWithin wk_422 wk_236 ⟨by decide, by decide⟩ (qs_if_ne (tgt := 23) d_B_order_18 (by decide) sn_B_order_23 sn_B_order_21)))))))))))
/-! BalancedLine.zone(III)I -/
abbrev M_B_zone : hc_M := (⟨"BalancedLine", "zone", "(III)I"⟩, prog_1_method_9_code, 5, (some .int), 5, 112)
theorem d_B_zone_0 : decode (mC M_B_zone) 0 = .ok (.aload_n 0, 1) := by decide +kernel
theorem d_B_zone_1 : decode (mC M_B_zone) 1 = .ok (.getfield 19, 3) := by decide +kernel
theorem d_B_zone_4 : decode (mC M_B_zone) 4 = .ok (.iload_n 1, 1) := by decide +kernel
theorem d_B_zone_5 : decode (mC M_B_zone) 5 = .ok (.iload_n 2, 1) := by decide +kernel
theorem d_B_zone_6 : decode (mC M_B_zone) 6 = .ok (.invokevirtual 101, 3) := by decide +kernel
theorem d_B_zone_9 : decode (mC M_B_zone) 9 = .ok (.ifCond .eq 12, 3) := by decide +kernel
theorem d_B_zone_12 : decode (mC M_B_zone) 12 = .ok (.iload_n 3, 1) := by decide +kernel
theorem d_B_zone_13 : decode (mC M_B_zone) 13 = .ok (.iconst 0, 1) := by decide +kernel
theorem d_B_zone_14 : decode (mC M_B_zone) 14 = .ok (.iconst 2, 1) := by decide +kernel
theorem d_B_zone_15 : decode (mC M_B_zone) 15 = .ok (.invokestatic 65, 3) := by decide +kernel
theorem d_B_zone_18 : decode (mC M_B_zone) 18 = .ok (.ifCond .ne 5, 3) := by decide +kernel
theorem d_B_zone_21 : decode (mC M_B_zone) 21 = .ok (.iconst (-1), 1) := by decide +kernel
theorem d_B_zone_22 : decode (mC M_B_zone) 22 = .ok (.ireturn, 1) := by decide +kernel
theorem d_B_zone_23 : decode (mC M_B_zone) 23 = .ok (.aload_n 0, 1) := by decide +kernel
theorem d_B_zone_24 : decode (mC M_B_zone) 24 = .ok (.getfield 19, 3) := by decide +kernel
theorem d_B_zone_27 : decode (mC M_B_zone) 27 = .ok (.iload_n 1, 1) := by decide +kernel
theorem d_B_zone_28 : decode (mC M_B_zone) 28 = .ok (.iload_n 2, 1) := by decide +kernel
theorem d_B_zone_29 : decode (mC M_B_zone) 29 = .ok (.invokevirtual 118, 3) := by decide +kernel
theorem d_B_zone_32 : decode (mC M_B_zone) 32 = .ok (.istore 4, 2) := by decide +kernel
theorem d_B_zone_34 : decode (mC M_B_zone) 34 = .ok (.iload 4, 2) := by decide +kernel
theorem d_B_zone_36 : decode (mC M_B_zone) 36 = .ok (.iload_n 3, 1) := by decide +kernel
theorem d_B_zone_37 : decode (mC M_B_zone) 37 = .ok (.if_icmp .ne 6, 3) := by decide +kernel
theorem d_B_zone_40 : decode (mC M_B_zone) 40 = .ok (.bipush (-2), 2) := by decide +kernel
theorem d_B_zone_42 : decode (mC M_B_zone) 42 = .ok (.ireturn, 1) := by decide +kernel
theorem d_B_zone_43 : decode (mC M_B_zone) 43 = .ok (.aload_n 0, 1) := by decide +kernel
theorem d_B_zone_44 : decode (mC M_B_zone) 44 = .ok (.getfield 29, 3) := by decide +kernel
theorem d_B_zone_47 : decode (mC M_B_zone) 47 = .ok (.aload_n 0, 1) := by decide +kernel
theorem d_B_zone_48 : decode (mC M_B_zone) 48 = .ok (.getfield 19, 3) := by decide +kernel
theorem d_B_zone_51 : decode (mC M_B_zone) 51 = .ok (.invokevirtual 87, 3) := by decide +kernel
theorem d_B_zone_54 : decode (mC M_B_zone) 54 = .ok (.aload_n 0, 1) := by decide +kernel
theorem d_B_zone_55 : decode (mC M_B_zone) 55 = .ok (.getfield 19, 3) := by decide +kernel
theorem d_B_zone_58 : decode (mC M_B_zone) 58 = .ok (.iload_n 1, 1) := by decide +kernel
theorem d_B_zone_59 : decode (mC M_B_zone) 59 = .ok (.iload_n 2, 1) := by decide +kernel
theorem d_B_zone_60 : decode (mC M_B_zone) 60 = .ok (.iload_n 3, 1) := by decide +kernel
theorem d_B_zone_61 : decode (mC M_B_zone) 61 = .ok (.invokevirtual 122, 3) := by decide +kernel
theorem d_B_zone_64 : decode (mC M_B_zone) 64 = .ok (.aload_n 0, 1) := by decide +kernel
theorem d_B_zone_65 : decode (mC M_B_zone) 65 = .ok (.invokevirtual 90, 3) := by decide +kernel
theorem d_B_zone_68 : decode (mC M_B_zone) 68 = .ok (.iload 4, 2) := by decide +kernel
theorem d_B_zone_70 : decode (mC M_B_zone) 70 = .ok (.ireturn, 1) := by decide +kernel
def vc_B_zone_43 (r : Option Value) (hf : hc_H) (J : Nat → hc_K) (lv : hc_L) (st : List Value) (h : hc_H) : Prop := (qi_aload 0 (qi_get 5 3 (qi_aload 0 (qi_get 5 1 (qi_invV hc_tt M_H_keep 1 1 (qi_aload 0 (qi_get 5 1 (qi_iload 1 (qi_iload 2 (qi_iload 3 (qi_invV hc_tt M_P_setZone 3 2 (qi_aload 0 (qi_invV hc_tt M_B_settle 0 5 (qi_iload 4 (qi_iret r hf))))))))))))))) lv st h
theorem sn_B_zone_43 {Ph : Nat → State → Prop} {h0 hf : hc_H} {r : Option Value} : qk Ph M_B_zone h0 hf r 43 (vc_B_zone_43 r hf (cx Ph M_B_zone h0 hf r)) := (qs_aload_n d_B_zone_43 rfl (qs_get d_B_zone_44 ff_B_29 (qs_aload_n d_B_zone_47 rfl (qs_get d_B_zone_48 ff_B_19 (qs_invV hc_Ph_tt (fun _ _ _ => trivial) d_B_zone_51 zz_H_keep wk_454 ⟨wk_455, wk_456⟩ ⟨_, rfl, rfl⟩ ⟨by decide, by decide⟩ (qs_aload_n d_B_zone_54 rfl (qs_get d_B_zone_55 ff_B_19 (qs_iload_n d_B_zone_58 rfl (qs_iload_n d_B_zone_59 rfl (qs_iload_n d_B_zone_60 rfl (qs_invV hc_Ph_tt (fun _ _ _ => trivial) d_B_zone_61 zz_P_setZone wk_513 ⟨wk_283, wk_284⟩ ⟨_, rfl, rfl⟩ ⟨by decide, by decide⟩ (qs_aload_n d_B_zone_64 rfl (qs_invV hc_Ph_tt (fun _ _ _ => trivial) d_B_zone_65 zz_B_settle wk_463 ⟨wk_465, wk_8⟩ ⟨_, rfl, rfl⟩ ⟨by decide, by decide⟩ (qs_iload d_B_zone_68 (qs_iret d_B_zone_70 rfl)))))))))))))))
def vc_B_zone_23 (r : Option Value) (hf : hc_H) (J : Nat → hc_K) (lv : hc_L) (st : List Value) (h : hc_H) : Prop := (qi_aload 0 (qi_get 5 1 (qi_iload 1 (qi_iload 2 (qi_invV hc_tt M_P_zoneOf 2 2 (qi_istore 4 (qi_iload 4 (qi_iload 3 (qi_icmp_ne (vc_B_zone_43 r hf J) (qi_push (-2) (qi_iret r hf))))))))))) lv st h
theorem sn_B_zone_23 {Ph : Nat → State → Prop} {h0 hf : hc_H} {r : Option Value} : qk Ph M_B_zone h0 hf r 23 (vc_B_zone_23 r hf (cx Ph M_B_zone h0 hf r)) := (qs_aload_n d_B_zone_23 rfl (qs_get d_B_zone_24 ff_B_19 (qs_iload_n d_B_zone_27 rfl (qs_iload_n d_B_zone_28 rfl (qs_invV hc_Ph_tt (fun _ _ _ => trivial) d_B_zone_29 zz_P_zoneOf wk_512 ⟨wk_279, wk_280⟩ ⟨_, rfl, rfl⟩ ⟨by decide, by decide⟩ (qs_istore d_B_zone_32 (by decide) (qs_iload d_B_zone_34 (qs_iload_n d_B_zone_36 rfl (qs_icmp_ne (tgt := 43) d_B_zone_37 (by decide) sn_B_zone_43 (qs_bipush d_B_zone_40 (by decide) (qs_iret d_B_zone_42 rfl)))))))))))
def vc_B_zone_21 (r : Option Value) (hf : hc_H) (J : Nat → hc_K) (lv : hc_L) (st : List Value) (h : hc_H) : Prop := (qi_push (-1) (qi_iret r hf)) lv st h
theorem sn_B_zone_21 {Ph : Nat → State → Prop} {h0 hf : hc_H} {r : Option Value} : qk Ph M_B_zone h0 hf r 21 (vc_B_zone_21 r hf (cx Ph M_B_zone h0 hf r)) := (qs_iconst d_B_zone_21 (by decide) (qs_iret d_B_zone_22 rfl))
def vc_B_zone_0 (r : Option Value) (hf : hc_H) (J : Nat → hc_K) (lv : hc_L) (st : List Value) (h : hc_H) : Prop := (qi_aload 0 (qi_get 5 1 (qi_iload 1 (qi_iload 2 (qi_invV hc_tt M_P_hasPair 2 2 (qi_if_eq (vc_B_zone_21 r hf J) (qi_iload 3 (qi_push (nI 0) (qi_push (nI 2) (qi_invS hc_tt M_B_isWithin 3 (qi_if_ne (vc_B_zone_23 r hf J) (vc_B_zone_21 r hf J)))))))))))) lv st h
theorem sn_B_zone_0 {Ph : Nat → State → Prop} {h0 hf : hc_H} {r : Option Value} : qk Ph M_B_zone h0 hf r 0 (vc_B_zone_0 r hf (cx Ph M_B_zone h0 hf r)) := (qs_aload_n d_B_zone_0 rfl (qs_get d_B_zone_1 ff_B_19 (qs_iload_n d_B_zone_4 rfl (qs_iload_n d_B_zone_5 rfl (qs_invV hc_Ph_tt (fun _ _ _ => trivial) d_B_zone_6 zz_P_hasPair wk_494 ⟨wk_251, wk_252⟩ ⟨_, rfl, rfl⟩ ⟨by decide, by decide⟩ (qs_if_eq (tgt := 21) d_B_zone_9 (by decide) sn_B_zone_21 (qs_iload_n d_B_zone_12 rfl (qs_iconst d_B_zone_13 (by decide) (qs_iconst d_B_zone_14 (by decide) (qs_invS hc_Ph_tt (fun _ _ _ => trivial) d_B_zone_15 zz_B_isWithin wk_422 wk_236 ⟨by decide, by decide⟩ (qs_if_ne (tgt := 23) d_B_zone_18 (by decide) sn_B_zone_23 sn_B_zone_21)))))))))))
theorem zz_H_bringBack : hc_z M_H_bringBack 1 := ⟨wk_521, wk_57, by decide +kernel⟩
/-! BalancedLine.undo()I -/
abbrev M_B_undo : hc_M := (⟨"BalancedLine", "undo", "()I"⟩, prog_1_method_10_code, 1, (some .int), 3, 68)
theorem d_B_undo_0 : decode (mC M_B_undo) 0 = .ok (.aload_n 0, 1) := by decide +kernel
theorem d_B_undo_1 : decode (mC M_B_undo) 1 = .ok (.getfield 29, 3) := by decide +kernel
theorem d_B_undo_4 : decode (mC M_B_undo) 4 = .ok (.aload_n 0, 1) := by decide +kernel
theorem d_B_undo_5 : decode (mC M_B_undo) 5 = .ok (.getfield 19, 3) := by decide +kernel
theorem d_B_undo_8 : decode (mC M_B_undo) 8 = .ok (.invokevirtual 126, 3) := by decide +kernel
theorem d_B_undo_11 : decode (mC M_B_undo) 11 = .ok (.ifCond .ne 6, 3) := by decide +kernel
theorem d_B_undo_14 : decode (mC M_B_undo) 14 = .ok (.bipush (-2), 2) := by decide +kernel
theorem d_B_undo_16 : decode (mC M_B_undo) 16 = .ok (.ireturn, 1) := by decide +kernel
theorem d_B_undo_17 : decode (mC M_B_undo) 17 = .ok (.aload_n 0, 1) := by decide +kernel
theorem d_B_undo_18 : decode (mC M_B_undo) 18 = .ok (.getfield 61, 3) := by decide +kernel
theorem d_B_undo_21 : decode (mC M_B_undo) 21 = .ok (.invokevirtual 81, 3) := by decide +kernel
theorem d_B_undo_24 : decode (mC M_B_undo) 24 = .ok (.aload_n 0, 1) := by decide +kernel
theorem d_B_undo_25 : decode (mC M_B_undo) 25 = .ok (.getfield 29, 3) := by decide +kernel
theorem d_B_undo_28 : decode (mC M_B_undo) 28 = .ok (.getfield 130, 3) := by decide +kernel
theorem d_B_undo_31 : decode (mC M_B_undo) 31 = .ok (.ireturn, 1) := by decide +kernel
def vc_B_undo_17 (r : Option Value) (hf : hc_H) (J : Nat → hc_K) (lv : hc_L) (st : List Value) (h : hc_H) : Prop := (qi_aload 0 (qi_get 5 4 (qi_invV hc_tt M_Y_forget 0 4 (qi_aload 0 (qi_get 5 3 (qi_get 1 1 (qi_iret r hf))))))) lv st h
theorem sn_B_undo_17 {Ph : Nat → State → Prop} {h0 hf : hc_H} {r : Option Value} : qk Ph M_B_undo h0 hf r 17 (vc_B_undo_17 r hf (cx Ph M_B_undo h0 hf r)) := (qs_aload_n d_B_undo_17 rfl (qs_get d_B_undo_18 ff_B_61 (qs_invV hc_Ph_tt (fun _ _ _ => trivial) d_B_undo_21 zz_Y_forget wk_446 ⟨wk_447, wk_448⟩ ⟨_, rfl, rfl⟩ ⟨by decide, by decide⟩ (qs_aload_n d_B_undo_24 rfl (qs_get d_B_undo_25 ff_B_29 (qs_get d_B_undo_28 ff_B_130 (qs_iret d_B_undo_31 rfl)))))))
def vc_B_undo_0 (r : Option Value) (hf : hc_H) (J : Nat → hc_K) (lv : hc_L) (st : List Value) (h : hc_H) : Prop := (qi_aload 0 (qi_get 5 3 (qi_aload 0 (qi_get 5 1 (qi_invV hc_tt M_H_bringBack 1 1 (qi_if_ne (vc_B_undo_17 r hf J) (qi_push (-2) (qi_iret r hf)))))))) lv st h
theorem sn_B_undo_0 {Ph : Nat → State → Prop} {h0 hf : hc_H} {r : Option Value} : qk Ph M_B_undo h0 hf r 0 (vc_B_undo_0 r hf (cx Ph M_B_undo h0 hf r)) := (qs_aload_n d_B_undo_0 rfl (qs_get d_B_undo_1 ff_B_29 (qs_aload_n d_B_undo_4 rfl (qs_get d_B_undo_5 ff_B_19 (qs_invV hc_Ph_tt (fun _ _ _ => trivial) d_B_undo_8 zz_H_bringBack wk_518 ⟨wk_519, wk_520⟩ ⟨_, rfl, rfl⟩ ⟨by decide, by decide⟩ (qs_if_ne (tgt := 17) d_B_undo_11 (by decide) sn_B_undo_17 (qs_bipush d_B_undo_14 (by decide) (qs_iret d_B_undo_16 rfl))))))))
theorem zz_P_behind : hc_z M_P_behind 1 := ⟨wk_529, wk_56, by decide +kernel⟩
/-! BalancedLine.task(II)I -/
abbrev M_B_task : hc_M := (⟨"BalancedLine", "task", "(II)I"⟩, prog_1_method_11_code, 3, (some .int), 2, 45)
theorem d_B_task_0 : decode (mC M_B_task) 0 = .ok (.aload_n 0, 1) := by decide +kernel
theorem d_B_task_1 : decode (mC M_B_task) 1 = .ok (.getfield 19, 3) := by decide +kernel
theorem d_B_task_4 : decode (mC M_B_task) 4 = .ok (.iload_n 1, 1) := by decide +kernel
theorem d_B_task_5 : decode (mC M_B_task) 5 = .ok (.invokevirtual 93, 3) := by decide +kernel
theorem d_B_task_8 : decode (mC M_B_task) 8 = .ok (.ifCond .ne 5, 3) := by decide +kernel
theorem d_B_task_11 : decode (mC M_B_task) 11 = .ok (.iconst (-1), 1) := by decide +kernel
theorem d_B_task_12 : decode (mC M_B_task) 12 = .ok (.ireturn, 1) := by decide +kernel
theorem d_B_task_13 : decode (mC M_B_task) 13 = .ok (.iload_n 2, 1) := by decide +kernel
theorem d_B_task_14 : decode (mC M_B_task) 14 = .ok (.tableswitch 96 0 5 #[38, 48, 58, 67, 76, 86], 38) := by decide +kernel
theorem d_B_task_52 : decode (mC M_B_task) 52 = .ok (.aload_n 0, 1) := by decide +kernel
theorem d_B_task_53 : decode (mC M_B_task) 53 = .ok (.getfield 19, 3) := by decide +kernel
theorem d_B_task_56 : decode (mC M_B_task) 56 = .ok (.getfield 97, 3) := by decide +kernel
theorem d_B_task_59 : decode (mC M_B_task) 59 = .ok (.iload_n 1, 1) := by decide +kernel
theorem d_B_task_60 : decode (mC M_B_task) 60 = .ok (.iaload, 1) := by decide +kernel
theorem d_B_task_61 : decode (mC M_B_task) 61 = .ok (.ireturn, 1) := by decide +kernel
theorem d_B_task_62 : decode (mC M_B_task) 62 = .ok (.aload_n 0, 1) := by decide +kernel
theorem d_B_task_63 : decode (mC M_B_task) 63 = .ok (.getfield 19, 3) := by decide +kernel
theorem d_B_task_66 : decode (mC M_B_task) 66 = .ok (.getfield 133, 3) := by decide +kernel
theorem d_B_task_69 : decode (mC M_B_task) 69 = .ok (.iload_n 1, 1) := by decide +kernel
theorem d_B_task_70 : decode (mC M_B_task) 70 = .ok (.iaload, 1) := by decide +kernel
theorem d_B_task_71 : decode (mC M_B_task) 71 = .ok (.ireturn, 1) := by decide +kernel
theorem d_B_task_72 : decode (mC M_B_task) 72 = .ok (.aload_n 0, 1) := by decide +kernel
theorem d_B_task_73 : decode (mC M_B_task) 73 = .ok (.getfield 19, 3) := by decide +kernel
theorem d_B_task_76 : decode (mC M_B_task) 76 = .ok (.iload_n 1, 1) := by decide +kernel
theorem d_B_task_77 : decode (mC M_B_task) 77 = .ok (.invokevirtual 136, 3) := by decide +kernel
theorem d_B_task_80 : decode (mC M_B_task) 80 = .ok (.ireturn, 1) := by decide +kernel
theorem d_B_task_81 : decode (mC M_B_task) 81 = .ok (.aload_n 0, 1) := by decide +kernel
theorem d_B_task_82 : decode (mC M_B_task) 82 = .ok (.getfield 19, 3) := by decide +kernel
theorem d_B_task_85 : decode (mC M_B_task) 85 = .ok (.iload_n 1, 1) := by decide +kernel
theorem d_B_task_86 : decode (mC M_B_task) 86 = .ok (.invokevirtual 140, 3) := by decide +kernel
theorem d_B_task_89 : decode (mC M_B_task) 89 = .ok (.ireturn, 1) := by decide +kernel
theorem d_B_task_90 : decode (mC M_B_task) 90 = .ok (.aload_n 0, 1) := by decide +kernel
theorem d_B_task_91 : decode (mC M_B_task) 91 = .ok (.getfield 19, 3) := by decide +kernel
theorem d_B_task_94 : decode (mC M_B_task) 94 = .ok (.getfield 143, 3) := by decide +kernel
theorem d_B_task_97 : decode (mC M_B_task) 97 = .ok (.iload_n 1, 1) := by decide +kernel
theorem d_B_task_98 : decode (mC M_B_task) 98 = .ok (.iaload, 1) := by decide +kernel
theorem d_B_task_99 : decode (mC M_B_task) 99 = .ok (.ireturn, 1) := by decide +kernel
theorem d_B_task_100 : decode (mC M_B_task) 100 = .ok (.aload_n 0, 1) := by decide +kernel
theorem d_B_task_101 : decode (mC M_B_task) 101 = .ok (.getfield 19, 3) := by decide +kernel
theorem d_B_task_104 : decode (mC M_B_task) 104 = .ok (.getfield 146, 3) := by decide +kernel
theorem d_B_task_107 : decode (mC M_B_task) 107 = .ok (.iload_n 1, 1) := by decide +kernel
theorem d_B_task_108 : decode (mC M_B_task) 108 = .ok (.iaload, 1) := by decide +kernel
theorem d_B_task_109 : decode (mC M_B_task) 109 = .ok (.ireturn, 1) := by decide +kernel
theorem d_B_task_110 : decode (mC M_B_task) 110 = .ok (.iconst (-1), 1) := by decide +kernel
theorem d_B_task_111 : decode (mC M_B_task) 111 = .ok (.ireturn, 1) := by decide +kernel
def vc_B_task_110 (r : Option Value) (hf : hc_H) (J : Nat → hc_K) (lv : hc_L) (st : List Value) (h : hc_H) : Prop := (qi_push (-1) (qi_iret r hf)) lv st h
theorem sn_B_task_110 {Ph : Nat → State → Prop} {h0 hf : hc_H} {r : Option Value} : qk Ph M_B_task h0 hf r 110 (vc_B_task_110 r hf (cx Ph M_B_task h0 hf r)) := (qs_iconst d_B_task_110 (by decide) (qs_iret d_B_task_111 rfl))
def vc_B_task_100 (r : Option Value) (hf : hc_H) (J : Nat → hc_K) (lv : hc_L) (st : List Value) (h : hc_H) : Prop := (qi_aload 0 (qi_get 5 1 (qi_get 2 5 (qi_iload 1 (qi_iald 0 (qi_iret r hf)))))) lv st h
theorem sn_B_task_100 {Ph : Nat → State → Prop} {h0 hf : hc_H} {r : Option Value} : qk Ph M_B_task h0 hf r 100 (vc_B_task_100 r hf (cx Ph M_B_task h0 hf r)) := (qs_aload_n d_B_task_100 rfl (qs_get d_B_task_101 ff_B_19 (qs_get d_B_task_104 ff_B_146 (qs_iload_n d_B_task_107 rfl (qs_iaload d_B_task_108 (qs_iret d_B_task_109 rfl))))))
def vc_B_task_90 (r : Option Value) (hf : hc_H) (J : Nat → hc_K) (lv : hc_L) (st : List Value) (h : hc_H) : Prop := (qi_aload 0 (qi_get 5 1 (qi_get 2 4 (qi_iload 1 (qi_iald 0 (qi_iret r hf)))))) lv st h
theorem sn_B_task_90 {Ph : Nat → State → Prop} {h0 hf : hc_H} {r : Option Value} : qk Ph M_B_task h0 hf r 90 (vc_B_task_90 r hf (cx Ph M_B_task h0 hf r)) := (qs_aload_n d_B_task_90 rfl (qs_get d_B_task_91 ff_B_19 (qs_get d_B_task_94 ff_B_143 (qs_iload_n d_B_task_97 rfl (qs_iaload d_B_task_98 (qs_iret d_B_task_99 rfl))))))
def vc_B_task_81 (r : Option Value) (hf : hc_H) (J : Nat → hc_K) (lv : hc_L) (st : List Value) (h : hc_H) : Prop := (qi_aload 0 (qi_get 5 1 (qi_iload 1 (qi_invV hc_tt M_P_allBehind 1 2 (qi_iret r hf))))) lv st h
theorem sn_B_task_81 {Ph : Nat → State → Prop} {h0 hf : hc_H} {r : Option Value} : qk Ph M_B_task h0 hf r 81 (vc_B_task_81 r hf (cx Ph M_B_task h0 hf r)) := (qs_aload_n d_B_task_81 rfl (qs_get d_B_task_82 ff_B_19 (qs_iload_n d_B_task_85 rfl (qs_invV hc_Ph_tt (fun _ _ _ => trivial) d_B_task_86 zz_P_allBehind wk_530 ⟨wk_271, wk_272⟩ ⟨_, rfl, rfl⟩ ⟨by decide, by decide⟩ (qs_iret d_B_task_89 rfl)))))
def vc_B_task_72 (r : Option Value) (hf : hc_H) (J : Nat → hc_K) (lv : hc_L) (st : List Value) (h : hc_H) : Prop := (qi_aload 0 (qi_get 5 1 (qi_iload 1 (qi_invV hc_tt M_P_behind 1 2 (qi_iret r hf))))) lv st h
theorem sn_B_task_72 {Ph : Nat → State → Prop} {h0 hf : hc_H} {r : Option Value} : qk Ph M_B_task h0 hf r 72 (vc_B_task_72 r hf (cx Ph M_B_task h0 hf r)) := (qs_aload_n d_B_task_72 rfl (qs_get d_B_task_73 ff_B_19 (qs_iload_n d_B_task_76 rfl (qs_invV hc_Ph_tt (fun _ _ _ => trivial) d_B_task_77 zz_P_behind wk_526 ⟨wk_527, wk_528⟩ ⟨_, rfl, rfl⟩ ⟨by decide, by decide⟩ (qs_iret d_B_task_80 rfl)))))
def vc_B_task_62 (r : Option Value) (hf : hc_H) (J : Nat → hc_K) (lv : hc_L) (st : List Value) (h : hc_H) : Prop := (qi_aload 0 (qi_get 5 1 (qi_get 2 3 (qi_iload 1 (qi_iald 0 (qi_iret r hf)))))) lv st h
theorem sn_B_task_62 {Ph : Nat → State → Prop} {h0 hf : hc_H} {r : Option Value} : qk Ph M_B_task h0 hf r 62 (vc_B_task_62 r hf (cx Ph M_B_task h0 hf r)) := (qs_aload_n d_B_task_62 rfl (qs_get d_B_task_63 ff_B_19 (qs_get d_B_task_66 ff_B_133 (qs_iload_n d_B_task_69 rfl (qs_iaload d_B_task_70 (qs_iret d_B_task_71 rfl))))))
def vc_B_task_52 (r : Option Value) (hf : hc_H) (J : Nat → hc_K) (lv : hc_L) (st : List Value) (h : hc_H) : Prop := (qi_aload 0 (qi_get 5 1 (qi_get 2 2 (qi_iload 1 (qi_iald 0 (qi_iret r hf)))))) lv st h
theorem sn_B_task_52 {Ph : Nat → State → Prop} {h0 hf : hc_H} {r : Option Value} : qk Ph M_B_task h0 hf r 52 (vc_B_task_52 r hf (cx Ph M_B_task h0 hf r)) := (qs_aload_n d_B_task_52 rfl (qs_get d_B_task_53 ff_B_19 (qs_get d_B_task_56 ff_B_97 (qs_iload_n d_B_task_59 rfl (qs_iaload d_B_task_60 (qs_iret d_B_task_61 rfl))))))
def vc_B_task_13 (r : Option Value) (hf : hc_H) (J : Nat → hc_K) (lv : hc_L) (st : List Value) (h : hc_H) : Prop := (qi_iload 2 (qi_sw (vc_B_task_110 r hf J) [((nI 0), (vc_B_task_52 r hf J)), ((nI 1), (vc_B_task_62 r hf J)), ((nI 2), (vc_B_task_72 r hf J)), ((nI 3), (vc_B_task_81 r hf J)), ((nI 4), (vc_B_task_90 r hf J)), ((nI 5), (vc_B_task_100 r hf J))])) lv st h
theorem sn_B_task_13 {Ph : Nat → State → Prop} {h0 hf : hc_H} {r : Option Value} : qk Ph M_B_task h0 hf r 13 (vc_B_task_13 r hf (cx Ph M_B_task h0 hf r)) := (qs_iload_n d_B_task_13 rfl (qs_table (tgt := 110) d_B_task_14 rfl (by decide) ⟨by decide, ⟨52, by decide, sn_B_task_52⟩, ⟨by decide, ⟨62, by decide, sn_B_task_62⟩, ⟨by decide, ⟨72, by decide, sn_B_task_72⟩, ⟨by decide, ⟨81, by decide, sn_B_task_81⟩, ⟨by decide, ⟨90, by decide, sn_B_task_90⟩, ⟨by decide, ⟨100, by decide, sn_B_task_100⟩, trivial⟩⟩⟩⟩⟩⟩ (by decide) sn_B_task_110))
def vc_B_task_0 (r : Option Value) (hf : hc_H) (J : Nat → hc_K) (lv : hc_L) (st : List Value) (h : hc_H) : Prop := (qi_aload 0 (qi_get 5 1 (qi_iload 1 (qi_invV hc_tt M_P_has 1 2 (qi_if_ne (vc_B_task_13 r hf J) (qi_push (-1) (qi_iret r hf))))))) lv st h
theorem sn_B_task_0 {Ph : Nat → State → Prop} {h0 hf : hc_H} {r : Option Value} : qk Ph M_B_task h0 hf r 0 (vc_B_task_0 r hf (cx Ph M_B_task h0 hf r)) := (qs_aload_n d_B_task_0 rfl (qs_get d_B_task_1 ff_B_19 (qs_iload_n d_B_task_4 rfl (qs_invV hc_Ph_tt (fun _ _ _ => trivial) d_B_task_5 zz_P_has wk_489 ⟨wk_255, wk_256⟩ ⟨_, rfl, rfl⟩ ⟨by decide, by decide⟩ (qs_if_ne (tgt := 13) d_B_task_8 (by decide) sn_B_task_13 (qs_iconst d_B_task_11 (by decide) (qs_iret d_B_task_12 rfl)))))))
/-! BalancedLine.put(II)I -/
abbrev M_B_put : hc_M := (⟨"BalancedLine", "put", "(II)I"⟩, prog_1_method_12_code, 3, (some .int), 3, 71)
theorem d_B_put_0 : decode (mC M_B_put) 0 = .ok (.aload_n 0, 1) := by decide +kernel
theorem d_B_put_1 : decode (mC M_B_put) 1 = .ok (.getfield 19, 3) := by decide +kernel
theorem d_B_put_4 : decode (mC M_B_put) 4 = .ok (.iload_n 1, 1) := by decide +kernel
theorem d_B_put_5 : decode (mC M_B_put) 5 = .ok (.invokevirtual 93, 3) := by decide +kernel
theorem d_B_put_8 : decode (mC M_B_put) 8 = .ok (.ifCond .eq 10, 3) := by decide +kernel
theorem d_B_put_11 : decode (mC M_B_put) 11 = .ok (.iload_n 2, 1) := by decide +kernel
theorem d_B_put_12 : decode (mC M_B_put) 12 = .ok (.invokestatic 149, 3) := by decide +kernel
theorem d_B_put_15 : decode (mC M_B_put) 15 = .ok (.ifCond .ne 5, 3) := by decide +kernel
theorem d_B_put_18 : decode (mC M_B_put) 18 = .ok (.iconst (-1), 1) := by decide +kernel
theorem d_B_put_19 : decode (mC M_B_put) 19 = .ok (.ireturn, 1) := by decide +kernel
theorem d_B_put_20 : decode (mC M_B_put) 20 = .ok (.aload_n 0, 1) := by decide +kernel
theorem d_B_put_21 : decode (mC M_B_put) 21 = .ok (.getfield 19, 3) := by decide +kernel
theorem d_B_put_24 : decode (mC M_B_put) 24 = .ok (.getfield 152, 3) := by decide +kernel
theorem d_B_put_27 : decode (mC M_B_put) 27 = .ok (.iload_n 1, 1) := by decide +kernel
theorem d_B_put_28 : decode (mC M_B_put) 28 = .ok (.iaload, 1) := by decide +kernel
theorem d_B_put_29 : decode (mC M_B_put) 29 = .ok (.iload_n 2, 1) := by decide +kernel
theorem d_B_put_30 : decode (mC M_B_put) 30 = .ok (.if_icmp .eq 15, 3) := by decide +kernel
theorem d_B_put_33 : decode (mC M_B_put) 33 = .ok (.aload_n 0, 1) := by decide +kernel
theorem d_B_put_34 : decode (mC M_B_put) 34 = .ok (.getfield 19, 3) := by decide +kernel
theorem d_B_put_37 : decode (mC M_B_put) 37 = .ok (.iload_n 1, 1) := by decide +kernel
theorem d_B_put_38 : decode (mC M_B_put) 38 = .ok (.iload_n 2, 1) := by decide +kernel
theorem d_B_put_39 : decode (mC M_B_put) 39 = .ok (.invokevirtual 155, 3) := by decide +kernel
theorem d_B_put_42 : decode (mC M_B_put) 42 = .ok (.ifCond .eq 6, 3) := by decide +kernel
theorem d_B_put_45 : decode (mC M_B_put) 45 = .ok (.bipush (-2), 2) := by decide +kernel
theorem d_B_put_47 : decode (mC M_B_put) 47 = .ok (.ireturn, 1) := by decide +kernel
theorem d_B_put_48 : decode (mC M_B_put) 48 = .ok (.aload_n 0, 1) := by decide +kernel
theorem d_B_put_49 : decode (mC M_B_put) 49 = .ok (.getfield 29, 3) := by decide +kernel
theorem d_B_put_52 : decode (mC M_B_put) 52 = .ok (.aload_n 0, 1) := by decide +kernel
theorem d_B_put_53 : decode (mC M_B_put) 53 = .ok (.getfield 19, 3) := by decide +kernel
theorem d_B_put_56 : decode (mC M_B_put) 56 = .ok (.invokevirtual 87, 3) := by decide +kernel
theorem d_B_put_59 : decode (mC M_B_put) 59 = .ok (.aload_n 0, 1) := by decide +kernel
theorem d_B_put_60 : decode (mC M_B_put) 60 = .ok (.getfield 19, 3) := by decide +kernel
theorem d_B_put_63 : decode (mC M_B_put) 63 = .ok (.getfield 152, 3) := by decide +kernel
theorem d_B_put_66 : decode (mC M_B_put) 66 = .ok (.iload_n 1, 1) := by decide +kernel
theorem d_B_put_67 : decode (mC M_B_put) 67 = .ok (.iload_n 2, 1) := by decide +kernel
theorem d_B_put_68 : decode (mC M_B_put) 68 = .ok (.iastore, 1) := by decide +kernel
theorem d_B_put_69 : decode (mC M_B_put) 69 = .ok (.aload_n 0, 1) := by decide +kernel
theorem d_B_put_70 : decode (mC M_B_put) 70 = .ok (.getfield 19, 3) := by decide +kernel
theorem d_B_put_73 : decode (mC M_B_put) 73 = .ok (.aload_n 0, 1) := by decide +kernel
theorem d_B_put_74 : decode (mC M_B_put) 74 = .ok (.getfield 19, 3) := by decide +kernel
theorem d_B_put_77 : decode (mC M_B_put) 77 = .ok (.iload_n 2, 1) := by decide +kernel
theorem d_B_put_78 : decode (mC M_B_put) 78 = .ok (.invokevirtual 158, 3) := by decide +kernel
theorem d_B_put_81 : decode (mC M_B_put) 81 = .ok (.invokevirtual 161, 3) := by decide +kernel
theorem d_B_put_84 : decode (mC M_B_put) 84 = .ok (.ireturn, 1) := by decide +kernel
def vc_B_put_48 (r : Option Value) (hf : hc_H) (J : Nat → hc_K) (lv : hc_L) (st : List Value) (h : hc_H) : Prop := (qi_aload 0 (qi_get 5 3 (qi_aload 0 (qi_get 5 1 (qi_invV hc_tt M_H_keep 1 1 (qi_aload 0 (qi_get 5 1 (qi_get 2 6 (qi_iload 1 (qi_iload 2 (qi_iast (qi_aload 0 (qi_get 5 1 (qi_aload 0 (qi_get 5 1 (qi_iload 2 (qi_invV hc_tt M_P_putIn 1 2 (qi_invV hc_tt M_P_timeOf 1 2 (qi_iret r hf))))))))))))))))))) lv st h
theorem sn_B_put_48 {Ph : Nat → State → Prop} {h0 hf : hc_H} {r : Option Value} : qk Ph M_B_put h0 hf r 48 (vc_B_put_48 r hf (cx Ph M_B_put h0 hf r)) := (qs_aload_n d_B_put_48 rfl (qs_get d_B_put_49 ff_B_29 (qs_aload_n d_B_put_52 rfl (qs_get d_B_put_53 ff_B_19 (qs_invV hc_Ph_tt (fun _ _ _ => trivial) d_B_put_56 zz_H_keep wk_454 ⟨wk_455, wk_456⟩ ⟨_, rfl, rfl⟩ ⟨by decide, by decide⟩ (qs_aload_n d_B_put_59 rfl (qs_get d_B_put_60 ff_B_19 (qs_get d_B_put_63 ff_B_152 (qs_iload_n d_B_put_66 rfl (qs_iload_n d_B_put_67 rfl (qs_iastore d_B_put_68 (qs_aload_n d_B_put_69 rfl (qs_get d_B_put_70 ff_B_19 (qs_aload_n d_B_put_73 rfl (qs_get d_B_put_74 ff_B_19 (qs_iload_n d_B_put_77 rfl (qs_invV hc_Ph_tt (fun _ _ _ => trivial) d_B_put_78 zz_P_putIn wk_539 ⟨wk_540, wk_541⟩ ⟨_, rfl, rfl⟩ ⟨by decide, by decide⟩ (qs_invV hc_Ph_tt (fun _ _ _ => trivial) d_B_put_81 zz_P_timeOf wk_543 ⟨wk_544, wk_545⟩ ⟨_, rfl, rfl⟩ ⟨by decide, by decide⟩ (qs_iret d_B_put_84 rfl)))))))))))))))))))
def vc_B_put_45 (r : Option Value) (hf : hc_H) (J : Nat → hc_K) (lv : hc_L) (st : List Value) (h : hc_H) : Prop := (qi_push (-2) (qi_iret r hf)) lv st h
theorem sn_B_put_45 {Ph : Nat → State → Prop} {h0 hf : hc_H} {r : Option Value} : qk Ph M_B_put h0 hf r 45 (vc_B_put_45 r hf (cx Ph M_B_put h0 hf r)) := (qs_bipush d_B_put_45 (by decide) (qs_iret d_B_put_47 rfl))
def vc_B_put_20 (r : Option Value) (hf : hc_H) (J : Nat → hc_K) (lv : hc_L) (st : List Value) (h : hc_H) : Prop := (qi_aload 0 (qi_get 5 1 (qi_get 2 6 (qi_iload 1 (qi_iald 0 (qi_iload 2 (qi_icmp_eq (vc_B_put_45 r hf J) (qi_aload 0 (qi_get 5 1 (qi_iload 1 (qi_iload 2 (qi_invV hc_tt M_P_whyNot 2 2 (qi_if_eq (vc_B_put_48 r hf J) (vc_B_put_45 r hf J)))))))))))))) lv st h
theorem sn_B_put_20 {Ph : Nat → State → Prop} {h0 hf : hc_H} {r : Option Value} : qk Ph M_B_put h0 hf r 20 (vc_B_put_20 r hf (cx Ph M_B_put h0 hf r)) := (qs_aload_n d_B_put_20 rfl (qs_get d_B_put_21 ff_B_19 (qs_get d_B_put_24 ff_B_152 (qs_iload_n d_B_put_27 rfl (qs_iaload d_B_put_28 (qs_iload_n d_B_put_29 rfl (qs_icmp_eq (tgt := 45) d_B_put_30 (by decide) sn_B_put_45 (qs_aload_n d_B_put_33 rfl (qs_get d_B_put_34 ff_B_19 (qs_iload_n d_B_put_37 rfl (qs_iload_n d_B_put_38 rfl (qs_invV hc_Ph_tt (fun _ _ _ => trivial) d_B_put_39 zz_P_whyNot wk_538 ⟨wk_472, wk_473⟩ ⟨_, rfl, rfl⟩ ⟨by decide, by decide⟩ (qs_if_eq (tgt := 48) d_B_put_42 (by decide) sn_B_put_48 sn_B_put_45)))))))))))))
def vc_B_put_18 (r : Option Value) (hf : hc_H) (J : Nat → hc_K) (lv : hc_L) (st : List Value) (h : hc_H) : Prop := (qi_push (-1) (qi_iret r hf)) lv st h
theorem sn_B_put_18 {Ph : Nat → State → Prop} {h0 hf : hc_H} {r : Option Value} : qk Ph M_B_put h0 hf r 18 (vc_B_put_18 r hf (cx Ph M_B_put h0 hf r)) := (qs_iconst d_B_put_18 (by decide) (qs_iret d_B_put_19 rfl))
def vc_B_put_0 (r : Option Value) (hf : hc_H) (J : Nat → hc_K) (lv : hc_L) (st : List Value) (h : hc_H) : Prop := (qi_aload 0 (qi_get 5 1 (qi_iload 1 (qi_invV hc_tt M_P_has 1 2 (qi_if_eq (vc_B_put_18 r hf J) (qi_iload 2 (qi_invS hc_tt M_B_isStation 1 (qi_if_ne (vc_B_put_20 r hf J) (vc_B_put_18 r hf J))))))))) lv st h
theorem sn_B_put_0 {Ph : Nat → State → Prop} {h0 hf : hc_H} {r : Option Value} : qk Ph M_B_put h0 hf r 0 (vc_B_put_0 r hf (cx Ph M_B_put h0 hf r)) := (qs_aload_n d_B_put_0 rfl (qs_get d_B_put_1 ff_B_19 (qs_iload_n d_B_put_4 rfl (qs_invV hc_Ph_tt (fun _ _ _ => trivial) d_B_put_5 zz_P_has wk_489 ⟨wk_255, wk_256⟩ ⟨_, rfl, rfl⟩ ⟨by decide, by decide⟩ (qs_if_eq (tgt := 18) d_B_put_8 (by decide) sn_B_put_18 (qs_iload_n d_B_put_11 rfl (qs_invS hc_Ph_tt (fun _ _ _ => trivial) d_B_put_12 zz_B_isStation wk_535 wk_536 ⟨by decide, by decide⟩ (qs_if_ne (tgt := 20) d_B_put_15 (by decide) sn_B_put_20 sn_B_put_18))))))))
/-! BalancedLine.off(I)I -/
abbrev M_B_off : hc_M := (⟨"BalancedLine", "off", "(I)I"⟩, prog_1_method_13_code, 3, (some .int), 3, 68)
theorem d_B_off_0 : decode (mC M_B_off) 0 = .ok (.aload_n 0, 1) := by decide +kernel
theorem d_B_off_1 : decode (mC M_B_off) 1 = .ok (.getfield 19, 3) := by decide +kernel
theorem d_B_off_4 : decode (mC M_B_off) 4 = .ok (.iload_n 1, 1) := by decide +kernel
theorem d_B_off_5 : decode (mC M_B_off) 5 = .ok (.invokevirtual 93, 3) := by decide +kernel
theorem d_B_off_8 : decode (mC M_B_off) 8 = .ok (.ifCond .ne 5, 3) := by decide +kernel
theorem d_B_off_11 : decode (mC M_B_off) 11 = .ok (.iconst (-1), 1) := by decide +kernel
theorem d_B_off_12 : decode (mC M_B_off) 12 = .ok (.ireturn, 1) := by decide +kernel
theorem d_B_off_13 : decode (mC M_B_off) 13 = .ok (.aload_n 0, 1) := by decide +kernel
theorem d_B_off_14 : decode (mC M_B_off) 14 = .ok (.getfield 19, 3) := by decide +kernel
theorem d_B_off_17 : decode (mC M_B_off) 17 = .ok (.getfield 152, 3) := by decide +kernel
theorem d_B_off_20 : decode (mC M_B_off) 20 = .ok (.iload_n 1, 1) := by decide +kernel
theorem d_B_off_21 : decode (mC M_B_off) 21 = .ok (.iaload, 1) := by decide +kernel
theorem d_B_off_22 : decode (mC M_B_off) 22 = .ok (.istore_n 2, 1) := by decide +kernel
theorem d_B_off_23 : decode (mC M_B_off) 23 = .ok (.iload_n 2, 1) := by decide +kernel
theorem d_B_off_24 : decode (mC M_B_off) 24 = .ok (.ifCond .ne 6, 3) := by decide +kernel
theorem d_B_off_27 : decode (mC M_B_off) 27 = .ok (.bipush (-2), 2) := by decide +kernel
theorem d_B_off_29 : decode (mC M_B_off) 29 = .ok (.ireturn, 1) := by decide +kernel
theorem d_B_off_30 : decode (mC M_B_off) 30 = .ok (.aload_n 0, 1) := by decide +kernel
theorem d_B_off_31 : decode (mC M_B_off) 31 = .ok (.getfield 29, 3) := by decide +kernel
theorem d_B_off_34 : decode (mC M_B_off) 34 = .ok (.aload_n 0, 1) := by decide +kernel
theorem d_B_off_35 : decode (mC M_B_off) 35 = .ok (.getfield 19, 3) := by decide +kernel
theorem d_B_off_38 : decode (mC M_B_off) 38 = .ok (.invokevirtual 87, 3) := by decide +kernel
theorem d_B_off_41 : decode (mC M_B_off) 41 = .ok (.aload_n 0, 1) := by decide +kernel
theorem d_B_off_42 : decode (mC M_B_off) 42 = .ok (.getfield 19, 3) := by decide +kernel
theorem d_B_off_45 : decode (mC M_B_off) 45 = .ok (.getfield 152, 3) := by decide +kernel
theorem d_B_off_48 : decode (mC M_B_off) 48 = .ok (.iload_n 1, 1) := by decide +kernel
theorem d_B_off_49 : decode (mC M_B_off) 49 = .ok (.iconst 0, 1) := by decide +kernel
theorem d_B_off_50 : decode (mC M_B_off) 50 = .ok (.iastore, 1) := by decide +kernel
theorem d_B_off_51 : decode (mC M_B_off) 51 = .ok (.iload_n 2, 1) := by decide +kernel
theorem d_B_off_52 : decode (mC M_B_off) 52 = .ok (.ireturn, 1) := by decide +kernel
def vc_B_off_30 (r : Option Value) (hf : hc_H) (J : Nat → hc_K) (lv : hc_L) (st : List Value) (h : hc_H) : Prop := (qi_aload 0 (qi_get 5 3 (qi_aload 0 (qi_get 5 1 (qi_invV hc_tt M_H_keep 1 1 (qi_aload 0 (qi_get 5 1 (qi_get 2 6 (qi_iload 1 (qi_push (nI 0) (qi_iast (qi_iload 2 (qi_iret r hf))))))))))))) lv st h
theorem sn_B_off_30 {Ph : Nat → State → Prop} {h0 hf : hc_H} {r : Option Value} : qk Ph M_B_off h0 hf r 30 (vc_B_off_30 r hf (cx Ph M_B_off h0 hf r)) := (qs_aload_n d_B_off_30 rfl (qs_get d_B_off_31 ff_B_29 (qs_aload_n d_B_off_34 rfl (qs_get d_B_off_35 ff_B_19 (qs_invV hc_Ph_tt (fun _ _ _ => trivial) d_B_off_38 zz_H_keep wk_454 ⟨wk_455, wk_456⟩ ⟨_, rfl, rfl⟩ ⟨by decide, by decide⟩ (qs_aload_n d_B_off_41 rfl (qs_get d_B_off_42 ff_B_19 (qs_get d_B_off_45 ff_B_152 (qs_iload_n d_B_off_48 rfl (qs_iconst d_B_off_49 (by decide) (qs_iastore d_B_off_50 (qs_iload_n d_B_off_51 rfl (qs_iret d_B_off_52 rfl)))))))))))))
def vc_B_off_13 (r : Option Value) (hf : hc_H) (J : Nat → hc_K) (lv : hc_L) (st : List Value) (h : hc_H) : Prop := (qi_aload 0 (qi_get 5 1 (qi_get 2 6 (qi_iload 1 (qi_iald 0 (qi_istore 2 (qi_iload 2 (qi_if_ne (vc_B_off_30 r hf J) (qi_push (-2) (qi_iret r hf)))))))))) lv st h
theorem sn_B_off_13 {Ph : Nat → State → Prop} {h0 hf : hc_H} {r : Option Value} : qk Ph M_B_off h0 hf r 13 (vc_B_off_13 r hf (cx Ph M_B_off h0 hf r)) := (qs_aload_n d_B_off_13 rfl (qs_get d_B_off_14 ff_B_19 (qs_get d_B_off_17 ff_B_152 (qs_iload_n d_B_off_20 rfl (qs_iaload d_B_off_21 (qs_istore_n d_B_off_22 rfl (by decide) (qs_iload_n d_B_off_23 rfl (qs_if_ne (tgt := 30) d_B_off_24 (by decide) sn_B_off_30 (qs_bipush d_B_off_27 (by decide) (qs_iret d_B_off_29 rfl))))))))))
def vc_B_off_0 (r : Option Value) (hf : hc_H) (J : Nat → hc_K) (lv : hc_L) (st : List Value) (h : hc_H) : Prop := (qi_aload 0 (qi_get 5 1 (qi_iload 1 (qi_invV hc_tt M_P_has 1 2 (qi_if_ne (vc_B_off_13 r hf J) (qi_push (-1) (qi_iret r hf))))))) lv st h
theorem sn_B_off_0 {Ph : Nat → State → Prop} {h0 hf : hc_H} {r : Option Value} : qk Ph M_B_off h0 hf r 0 (vc_B_off_0 r hf (cx Ph M_B_off h0 hf r)) := (qs_aload_n d_B_off_0 rfl (qs_get d_B_off_1 ff_B_19 (qs_iload_n d_B_off_4 rfl (qs_invV hc_Ph_tt (fun _ _ _ => trivial) d_B_off_5 zz_P_has wk_489 ⟨wk_255, wk_256⟩ ⟨_, rfl, rfl⟩ ⟨by decide, by decide⟩ (qs_if_ne (tgt := 13) d_B_off_8 (by decide) sn_B_off_13 (qs_iconst d_B_off_11 (by decide) (qs_iret d_B_off_12 rfl)))))))
/-! BalancedLine.why(II)I -/
abbrev M_B_why : hc_M := (⟨"BalancedLine", "why", "(II)I"⟩, prog_1_method_14_code, 3, (some .int), 3, 71)
theorem d_B_why_0 : decode (mC M_B_why) 0 = .ok (.aload_n 0, 1) := by decide +kernel
theorem d_B_why_1 : decode (mC M_B_why) 1 = .ok (.getfield 19, 3) := by decide +kernel
theorem d_B_why_4 : decode (mC M_B_why) 4 = .ok (.iload_n 1, 1) := by decide +kernel
theorem d_B_why_5 : decode (mC M_B_why) 5 = .ok (.invokevirtual 93, 3) := by decide +kernel
theorem d_B_why_8 : decode (mC M_B_why) 8 = .ok (.ifCond .eq 10, 3) := by decide +kernel
theorem d_B_why_11 : decode (mC M_B_why) 11 = .ok (.iload_n 2, 1) := by decide +kernel
theorem d_B_why_12 : decode (mC M_B_why) 12 = .ok (.invokestatic 149, 3) := by decide +kernel
theorem d_B_why_15 : decode (mC M_B_why) 15 = .ok (.ifCond .ne 5, 3) := by decide +kernel
theorem d_B_why_18 : decode (mC M_B_why) 18 = .ok (.iconst (-1), 1) := by decide +kernel
theorem d_B_why_19 : decode (mC M_B_why) 19 = .ok (.ireturn, 1) := by decide +kernel
theorem d_B_why_20 : decode (mC M_B_why) 20 = .ok (.aload_n 0, 1) := by decide +kernel
theorem d_B_why_21 : decode (mC M_B_why) 21 = .ok (.getfield 19, 3) := by decide +kernel
theorem d_B_why_24 : decode (mC M_B_why) 24 = .ok (.iload_n 1, 1) := by decide +kernel
theorem d_B_why_25 : decode (mC M_B_why) 25 = .ok (.iload_n 2, 1) := by decide +kernel
theorem d_B_why_26 : decode (mC M_B_why) 26 = .ok (.invokevirtual 155, 3) := by decide +kernel
theorem d_B_why_29 : decode (mC M_B_why) 29 = .ok (.ireturn, 1) := by decide +kernel
def vc_B_why_20 (r : Option Value) (hf : hc_H) (J : Nat → hc_K) (lv : hc_L) (st : List Value) (h : hc_H) : Prop := (qi_aload 0 (qi_get 5 1 (qi_iload 1 (qi_iload 2 (qi_invV hc_tt M_P_whyNot 2 2 (qi_iret r hf)))))) lv st h
theorem sn_B_why_20 {Ph : Nat → State → Prop} {h0 hf : hc_H} {r : Option Value} : qk Ph M_B_why h0 hf r 20 (vc_B_why_20 r hf (cx Ph M_B_why h0 hf r)) := (qs_aload_n d_B_why_20 rfl (qs_get d_B_why_21 ff_B_19 (qs_iload_n d_B_why_24 rfl (qs_iload_n d_B_why_25 rfl (qs_invV hc_Ph_tt (fun _ _ _ => trivial) d_B_why_26 zz_P_whyNot wk_538 ⟨wk_472, wk_473⟩ ⟨_, rfl, rfl⟩ ⟨by decide, by decide⟩ (qs_iret d_B_why_29 rfl))))))
def vc_B_why_18 (r : Option Value) (hf : hc_H) (J : Nat → hc_K) (lv : hc_L) (st : List Value) (h : hc_H) : Prop := (qi_push (-1) (qi_iret r hf)) lv st h
theorem sn_B_why_18 {Ph : Nat → State → Prop} {h0 hf : hc_H} {r : Option Value} : qk Ph M_B_why h0 hf r 18 (vc_B_why_18 r hf (cx Ph M_B_why h0 hf r)) := (qs_iconst d_B_why_18 (by decide) (qs_iret d_B_why_19 rfl))
def vc_B_why_0 (r : Option Value) (hf : hc_H) (J : Nat → hc_K) (lv : hc_L) (st : List Value) (h : hc_H) : Prop := (qi_aload 0 (qi_get 5 1 (qi_iload 1 (qi_invV hc_tt M_P_has 1 2 (qi_if_eq (vc_B_why_18 r hf J) (qi_iload 2 (qi_invS hc_tt M_B_isStation 1 (qi_if_ne (vc_B_why_20 r hf J) (vc_B_why_18 r hf J))))))))) lv st h
theorem sn_B_why_0 {Ph : Nat → State → Prop} {h0 hf : hc_H} {r : Option Value} : qk Ph M_B_why h0 hf r 0 (vc_B_why_0 r hf (cx Ph M_B_why h0 hf r)) := (qs_aload_n d_B_why_0 rfl (qs_get d_B_why_1 ff_B_19 (qs_iload_n d_B_why_4 rfl (qs_invV hc_Ph_tt (fun _ _ _ => trivial) d_B_why_5 zz_P_has wk_489 ⟨wk_255, wk_256⟩ ⟨_, rfl, rfl⟩ ⟨by decide, by decide⟩ (qs_if_eq (tgt := 18) d_B_why_8 (by decide) sn_B_why_18 (qs_iload_n d_B_why_11 rfl (qs_invS hc_Ph_tt (fun _ _ _ => trivial) d_B_why_12 zz_B_isStation wk_535 wk_536 ⟨by decide, by decide⟩ (qs_if_ne (tgt := 20) d_B_why_15 (by decide) sn_B_why_20 sn_B_why_18))))))))
/-! BalancedLine.station(II)I -/
abbrev M_B_station : hc_M := (⟨"BalancedLine", "station", "(II)I"⟩, prog_1_method_15_code, 4, (some .int), 2, 42)
theorem d_B_station_0 : decode (mC M_B_station) 0 = .ok (.iload_n 1, 1) := by decide +kernel
theorem d_B_station_1 : decode (mC M_B_station) 1 = .ok (.invokestatic 149, 3) := by decide +kernel
theorem d_B_station_4 : decode (mC M_B_station) 4 = .ok (.ifCond .ne 5, 3) := by decide +kernel
theorem d_B_station_7 : decode (mC M_B_station) 7 = .ok (.iconst (-1), 1) := by decide +kernel
theorem d_B_station_8 : decode (mC M_B_station) 8 = .ok (.ireturn, 1) := by decide +kernel
theorem d_B_station_9 : decode (mC M_B_station) 9 = .ok (.aload_n 0, 1) := by decide +kernel
theorem d_B_station_10 : decode (mC M_B_station) 10 = .ok (.getfield 19, 3) := by decide +kernel
theorem d_B_station_13 : decode (mC M_B_station) 13 = .ok (.iload_n 1, 1) := by decide +kernel
theorem d_B_station_14 : decode (mC M_B_station) 14 = .ok (.invokevirtual 158, 3) := by decide +kernel
theorem d_B_station_17 : decode (mC M_B_station) 17 = .ok (.istore_n 3, 1) := by decide +kernel
theorem d_B_station_18 : decode (mC M_B_station) 18 = .ok (.iload_n 2, 1) := by decide +kernel
theorem d_B_station_19 : decode (mC M_B_station) 19 = .ok (.tableswitch 53 0 2 #[25, 27, 36], 25) := by decide +kernel
theorem d_B_station_44 : decode (mC M_B_station) 44 = .ok (.iload_n 3, 1) := by decide +kernel
theorem d_B_station_45 : decode (mC M_B_station) 45 = .ok (.ireturn, 1) := by decide +kernel
theorem d_B_station_46 : decode (mC M_B_station) 46 = .ok (.aload_n 0, 1) := by decide +kernel
theorem d_B_station_47 : decode (mC M_B_station) 47 = .ok (.getfield 19, 3) := by decide +kernel
theorem d_B_station_50 : decode (mC M_B_station) 50 = .ok (.iload_n 3, 1) := by decide +kernel
theorem d_B_station_51 : decode (mC M_B_station) 51 = .ok (.invokevirtual 161, 3) := by decide +kernel
theorem d_B_station_54 : decode (mC M_B_station) 54 = .ok (.ireturn, 1) := by decide +kernel
theorem d_B_station_55 : decode (mC M_B_station) 55 = .ok (.aload_n 0, 1) := by decide +kernel
theorem d_B_station_56 : decode (mC M_B_station) 56 = .ok (.getfield 19, 3) := by decide +kernel
theorem d_B_station_59 : decode (mC M_B_station) 59 = .ok (.getfield 84, 3) := by decide +kernel
theorem d_B_station_62 : decode (mC M_B_station) 62 = .ok (.aload_n 0, 1) := by decide +kernel
theorem d_B_station_63 : decode (mC M_B_station) 63 = .ok (.getfield 19, 3) := by decide +kernel
theorem d_B_station_66 : decode (mC M_B_station) 66 = .ok (.iload_n 3, 1) := by decide +kernel
theorem d_B_station_67 : decode (mC M_B_station) 67 = .ok (.invokevirtual 161, 3) := by decide +kernel
theorem d_B_station_70 : decode (mC M_B_station) 70 = .ok (.isub, 1) := by decide +kernel
theorem d_B_station_71 : decode (mC M_B_station) 71 = .ok (.ireturn, 1) := by decide +kernel
theorem d_B_station_72 : decode (mC M_B_station) 72 = .ok (.iconst (-1), 1) := by decide +kernel
theorem d_B_station_73 : decode (mC M_B_station) 73 = .ok (.ireturn, 1) := by decide +kernel
def vc_B_station_72 (r : Option Value) (hf : hc_H) (J : Nat → hc_K) (lv : hc_L) (st : List Value) (h : hc_H) : Prop := (qi_push (-1) (qi_iret r hf)) lv st h
theorem sn_B_station_72 {Ph : Nat → State → Prop} {h0 hf : hc_H} {r : Option Value} : qk Ph M_B_station h0 hf r 72 (vc_B_station_72 r hf (cx Ph M_B_station h0 hf r)) := (qs_iconst d_B_station_72 (by decide) (qs_iret d_B_station_73 rfl))
def vc_B_station_55 (r : Option Value) (hf : hc_H) (J : Nat → hc_K) (lv : hc_L) (st : List Value) (h : hc_H) : Prop := (qi_aload 0 (qi_get 5 1 (qi_get 2 1 (qi_aload 0 (qi_get 5 1 (qi_iload 3 (qi_invV hc_tt M_P_timeOf 1 2 (qi_isub (qi_iret r hf))))))))) lv st h
theorem sn_B_station_55 {Ph : Nat → State → Prop} {h0 hf : hc_H} {r : Option Value} : qk Ph M_B_station h0 hf r 55 (vc_B_station_55 r hf (cx Ph M_B_station h0 hf r)) := (qs_aload_n d_B_station_55 rfl (qs_get d_B_station_56 ff_B_19 (qs_get d_B_station_59 ff_B_84 (qs_aload_n d_B_station_62 rfl (qs_get d_B_station_63 ff_B_19 (qs_iload_n d_B_station_66 rfl (qs_invV hc_Ph_tt (fun _ _ _ => trivial) d_B_station_67 zz_P_timeOf wk_543 ⟨wk_544, wk_545⟩ ⟨_, rfl, rfl⟩ ⟨by decide, by decide⟩ (qs_isub d_B_station_70 (qs_iret d_B_station_71 rfl)))))))))
def vc_B_station_46 (r : Option Value) (hf : hc_H) (J : Nat → hc_K) (lv : hc_L) (st : List Value) (h : hc_H) : Prop := (qi_aload 0 (qi_get 5 1 (qi_iload 3 (qi_invV hc_tt M_P_timeOf 1 2 (qi_iret r hf))))) lv st h
theorem sn_B_station_46 {Ph : Nat → State → Prop} {h0 hf : hc_H} {r : Option Value} : qk Ph M_B_station h0 hf r 46 (vc_B_station_46 r hf (cx Ph M_B_station h0 hf r)) := (qs_aload_n d_B_station_46 rfl (qs_get d_B_station_47 ff_B_19 (qs_iload_n d_B_station_50 rfl (qs_invV hc_Ph_tt (fun _ _ _ => trivial) d_B_station_51 zz_P_timeOf wk_543 ⟨wk_544, wk_545⟩ ⟨_, rfl, rfl⟩ ⟨by decide, by decide⟩ (qs_iret d_B_station_54 rfl)))))
def vc_B_station_44 (r : Option Value) (hf : hc_H) (J : Nat → hc_K) (lv : hc_L) (st : List Value) (h : hc_H) : Prop := (qi_iload 3 (qi_iret r hf)) lv st h
theorem sn_B_station_44 {Ph : Nat → State → Prop} {h0 hf : hc_H} {r : Option Value} : qk Ph M_B_station h0 hf r 44 (vc_B_station_44 r hf (cx Ph M_B_station h0 hf r)) := (qs_iload_n d_B_station_44 rfl (qs_iret d_B_station_45 rfl))
def vc_B_station_9 (r : Option Value) (hf : hc_H) (J : Nat → hc_K) (lv : hc_L) (st : List Value) (h : hc_H) : Prop := (qi_aload 0 (qi_get 5 1 (qi_iload 1 (qi_invV hc_tt M_P_putIn 1 2 (qi_istore 3 (qi_iload 2 (qi_sw (vc_B_station_72 r hf J) [((nI 0), (vc_B_station_44 r hf J)), ((nI 1), (vc_B_station_46 r hf J)), ((nI 2), (vc_B_station_55 r hf J))]))))))) lv st h
theorem sn_B_station_9 {Ph : Nat → State → Prop} {h0 hf : hc_H} {r : Option Value} : qk Ph M_B_station h0 hf r 9 (vc_B_station_9 r hf (cx Ph M_B_station h0 hf r)) := (qs_aload_n d_B_station_9 rfl (qs_get d_B_station_10 ff_B_19 (qs_iload_n d_B_station_13 rfl (qs_invV hc_Ph_tt (fun _ _ _ => trivial) d_B_station_14 zz_P_putIn wk_539 ⟨wk_540, wk_541⟩ ⟨_, rfl, rfl⟩ ⟨by decide, by decide⟩ (qs_istore_n d_B_station_17 rfl (by decide) (qs_iload_n d_B_station_18 rfl (qs_table (tgt := 72) d_B_station_19 rfl (by decide) ⟨by decide, ⟨44, by decide, sn_B_station_44⟩, ⟨by decide, ⟨46, by decide, sn_B_station_46⟩, ⟨by decide, ⟨55, by decide, sn_B_station_55⟩, trivial⟩⟩⟩ (by decide) sn_B_station_72)))))))
def vc_B_station_0 (r : Option Value) (hf : hc_H) (J : Nat → hc_K) (lv : hc_L) (st : List Value) (h : hc_H) : Prop := (qi_iload 1 (qi_invS hc_tt M_B_isStation 1 (qi_if_ne (vc_B_station_9 r hf J) (qi_push (-1) (qi_iret r hf))))) lv st h
theorem sn_B_station_0 {Ph : Nat → State → Prop} {h0 hf : hc_H} {r : Option Value} : qk Ph M_B_station h0 hf r 0 (vc_B_station_0 r hf (cx Ph M_B_station h0 hf r)) := (qs_iload_n d_B_station_0 rfl (qs_invS hc_Ph_tt (fun _ _ _ => trivial) d_B_station_1 zz_B_isStation wk_535 wk_536 ⟨by decide, by decide⟩ (qs_if_ne (tgt := 9) d_B_station_4 (by decide) sn_B_station_9 (qs_iconst d_B_station_7 (by decide) (qs_iret d_B_station_8 rfl)))))
/-! BalancedLine.where(I)I -/
abbrev M_B_where : hc_M := (⟨"BalancedLine", "where", "(I)I"⟩, prog_1_method_16_code, 2, (some .int), 1, 21)
theorem d_B_where_0 : decode (mC M_B_where) 0 = .ok (.aload_n 0, 1) := by decide +kernel
theorem d_B_where_1 : decode (mC M_B_where) 1 = .ok (.getfield 19, 3) := by decide +kernel
theorem d_B_where_4 : decode (mC M_B_where) 4 = .ok (.iload_n 1, 1) := by decide +kernel
theorem d_B_where_5 : decode (mC M_B_where) 5 = .ok (.invokevirtual 93, 3) := by decide +kernel
theorem d_B_where_8 : decode (mC M_B_where) 8 = .ok (.ifCond .ne 5, 3) := by decide +kernel
theorem d_B_where_11 : decode (mC M_B_where) 11 = .ok (.iconst (-1), 1) := by decide +kernel
theorem d_B_where_12 : decode (mC M_B_where) 12 = .ok (.ireturn, 1) := by decide +kernel
theorem d_B_where_13 : decode (mC M_B_where) 13 = .ok (.aload_n 0, 1) := by decide +kernel
theorem d_B_where_14 : decode (mC M_B_where) 14 = .ok (.getfield 19, 3) := by decide +kernel
theorem d_B_where_17 : decode (mC M_B_where) 17 = .ok (.getfield 152, 3) := by decide +kernel
theorem d_B_where_20 : decode (mC M_B_where) 20 = .ok (.iload_n 1, 1) := by decide +kernel
theorem d_B_where_21 : decode (mC M_B_where) 21 = .ok (.iaload, 1) := by decide +kernel
theorem d_B_where_22 : decode (mC M_B_where) 22 = .ok (.ifCond .ne 8, 3) := by decide +kernel
theorem d_B_where_25 : decode (mC M_B_where) 25 = .ok (.bipush (-4), 2) := by decide +kernel
theorem d_B_where_27 : decode (mC M_B_where) 27 = .ok (.goto 12, 3) := by decide +kernel
theorem d_B_where_30 : decode (mC M_B_where) 30 = .ok (.aload_n 0, 1) := by decide +kernel
theorem d_B_where_31 : decode (mC M_B_where) 31 = .ok (.getfield 19, 3) := by decide +kernel
theorem d_B_where_34 : decode (mC M_B_where) 34 = .ok (.getfield 152, 3) := by decide +kernel
theorem d_B_where_37 : decode (mC M_B_where) 37 = .ok (.iload_n 1, 1) := by decide +kernel
theorem d_B_where_38 : decode (mC M_B_where) 38 = .ok (.iaload, 1) := by decide +kernel
theorem d_B_where_39 : decode (mC M_B_where) 39 = .ok (.ireturn, 1) := by decide +kernel
def vc_B_where_39 (r : Option Value) (hf : hc_H) (J : Nat → hc_K) (lv : hc_L) (st : List Value) (h : hc_H) : Prop := (qi_iret r hf) lv st h
theorem sn_B_where_39 {Ph : Nat → State → Prop} {h0 hf : hc_H} {r : Option Value} : qk Ph M_B_where h0 hf r 39 (vc_B_where_39 r hf (cx Ph M_B_where h0 hf r)) := (qs_iret d_B_where_39 rfl)
def vc_B_where_30 (r : Option Value) (hf : hc_H) (J : Nat → hc_K) (lv : hc_L) (st : List Value) (h : hc_H) : Prop := (qi_aload 0 (qi_get 5 1 (qi_get 2 6 (qi_iload 1 (qi_iald 0 (vc_B_where_39 r hf J)))))) lv st h
theorem sn_B_where_30 {Ph : Nat → State → Prop} {h0 hf : hc_H} {r : Option Value} : qk Ph M_B_where h0 hf r 30 (vc_B_where_30 r hf (cx Ph M_B_where h0 hf r)) := (qs_aload_n d_B_where_30 rfl (qs_get d_B_where_31 ff_B_19 (qs_get d_B_where_34 ff_B_152 (qs_iload_n d_B_where_37 rfl (qs_iaload d_B_where_38 sn_B_where_39)))))
def vc_B_where_13 (r : Option Value) (hf : hc_H) (J : Nat → hc_K) (lv : hc_L) (st : List Value) (h : hc_H) : Prop := (qi_aload 0 (qi_get 5 1 (qi_get 2 6 (qi_iload 1 (qi_iald 0 (qi_if_ne (vc_B_where_30 r hf J) (qi_push (-4) (vc_B_where_39 r hf J)))))))) lv st h
theorem sn_B_where_13 {Ph : Nat → State → Prop} {h0 hf : hc_H} {r : Option Value} : qk Ph M_B_where h0 hf r 13 (vc_B_where_13 r hf (cx Ph M_B_where h0 hf r)) := (qs_aload_n d_B_where_13 rfl (qs_get d_B_where_14 ff_B_19 (qs_get d_B_where_17 ff_B_152 (qs_iload_n d_B_where_20 rfl (qs_iaload d_B_where_21 (qs_if_ne (tgt := 30) d_B_where_22 (by decide) sn_B_where_30 (qs_bipush d_B_where_25 (by decide) (qs_goto (tgt := 39) d_B_where_27 (by decide) sn_B_where_39))))))))
def vc_B_where_0 (r : Option Value) (hf : hc_H) (J : Nat → hc_K) (lv : hc_L) (st : List Value) (h : hc_H) : Prop := (qi_aload 0 (qi_get 5 1 (qi_iload 1 (qi_invV hc_tt M_P_has 1 2 (qi_if_ne (vc_B_where_13 r hf J) (qi_push (-1) (qi_iret r hf))))))) lv st h
theorem sn_B_where_0 {Ph : Nat → State → Prop} {h0 hf : hc_H} {r : Option Value} : qk Ph M_B_where h0 hf r 0 (vc_B_where_0 r hf (cx Ph M_B_where h0 hf r)) := (qs_aload_n d_B_where_0 rfl (qs_get d_B_where_1 ff_B_19 (qs_iload_n d_B_where_4 rfl (qs_invV hc_Ph_tt (fun _ _ _ => trivial) d_B_where_5 zz_P_has wk_489 ⟨wk_255, wk_256⟩ ⟨_, rfl, rfl⟩ ⟨by decide, by decide⟩ (qs_if_ne (tgt := 13) d_B_where_8 (by decide) sn_B_where_13 (qs_iconst d_B_where_11 (by decide) (qs_iret d_B_where_12 rfl)))))))
theorem zz_Y_fewestByHand : hc_z M_Y_fewestByHand 0 := ⟨wk_570, wk_63, by decide +kernel⟩
/-! BalancedLine.left()I -/
abbrev M_B_left : hc_M := (⟨"BalancedLine", "left", "()I"⟩, prog_1_method_17_code, 1, (some .int), 5, 119)
theorem d_B_left_0 : decode (mC M_B_left) 0 = .ok (.aload_n 0, 1) := by decide +kernel
theorem d_B_left_1 : decode (mC M_B_left) 1 = .ok (.getfield 61, 3) := by decide +kernel
theorem d_B_left_4 : decode (mC M_B_left) 4 = .ok (.invokevirtual 164, 3) := by decide +kernel
theorem d_B_left_7 : decode (mC M_B_left) 7 = .ok (.ireturn, 1) := by decide +kernel
def vc_B_left_0 (r : Option Value) (hf : hc_H) (J : Nat → hc_K) (lv : hc_L) (st : List Value) (h : hc_H) : Prop := (qi_aload 0 (qi_get 5 4 (qi_invV hc_tt M_Y_fewestByHand 0 4 (qi_iret r hf)))) lv st h
theorem sn_B_left_0 {Ph : Nat → State → Prop} {h0 hf : hc_H} {r : Option Value} : qk Ph M_B_left h0 hf r 0 (vc_B_left_0 r hf (cx Ph M_B_left h0 hf r)) := (qs_aload_n d_B_left_0 rfl (qs_get d_B_left_1 ff_B_61 (qs_invV hc_Ph_tt (fun _ _ _ => trivial) d_B_left_4 zz_Y_fewestByHand wk_567 ⟨wk_568, wk_569⟩ ⟨_, rfl, rfl⟩ ⟨by decide, by decide⟩ (qs_iret d_B_left_7 rfl))))
theorem zz_Y_bestSpot : hc_z M_Y_bestSpot 1 := ⟨wk_706, wk_63, by decide +kernel⟩
/-! BalancedLine.adopt()I -/
abbrev M_B_adopt : hc_M := (⟨"BalancedLine", "adopt", "()I"⟩, prog_1_method_18_code, 2, (some .int), 5, 119)
theorem d_B_adopt_0 : decode (mC M_B_adopt) 0 = .ok (.aload_n 0, 1) := by decide +kernel
theorem d_B_adopt_1 : decode (mC M_B_adopt) 1 = .ok (.getfield 61, 3) := by decide +kernel
theorem d_B_adopt_4 : decode (mC M_B_adopt) 4 = .ok (.invokevirtual 167, 3) := by decide +kernel
theorem d_B_adopt_7 : decode (mC M_B_adopt) 7 = .ok (.aload_n 0, 1) := by decide +kernel
theorem d_B_adopt_8 : decode (mC M_B_adopt) 8 = .ok (.getfield 61, 3) := by decide +kernel
theorem d_B_adopt_11 : decode (mC M_B_adopt) 11 = .ok (.getfield 170, 3) := by decide +kernel
theorem d_B_adopt_14 : decode (mC M_B_adopt) 14 = .ok (.bipush (-4), 2) := by decide +kernel
theorem d_B_adopt_16 : decode (mC M_B_adopt) 16 = .ok (.if_icmp .ne 6, 3) := by decide +kernel
theorem d_B_adopt_19 : decode (mC M_B_adopt) 19 = .ok (.bipush (-4), 2) := by decide +kernel
theorem d_B_adopt_21 : decode (mC M_B_adopt) 21 = .ok (.ireturn, 1) := by decide +kernel
theorem d_B_adopt_22 : decode (mC M_B_adopt) 22 = .ok (.aload_n 0, 1) := by decide +kernel
theorem d_B_adopt_23 : decode (mC M_B_adopt) 23 = .ok (.getfield 29, 3) := by decide +kernel
theorem d_B_adopt_26 : decode (mC M_B_adopt) 26 = .ok (.aload_n 0, 1) := by decide +kernel
theorem d_B_adopt_27 : decode (mC M_B_adopt) 27 = .ok (.getfield 19, 3) := by decide +kernel
theorem d_B_adopt_30 : decode (mC M_B_adopt) 30 = .ok (.invokevirtual 87, 3) := by decide +kernel
theorem d_B_adopt_33 : decode (mC M_B_adopt) 33 = .ok (.iconst 0, 1) := by decide +kernel
theorem d_B_adopt_34 : decode (mC M_B_adopt) 34 = .ok (.istore_n 1, 1) := by decide +kernel
theorem d_B_adopt_35 : decode (mC M_B_adopt) 35 = .ok (.iload_n 1, 1) := by decide +kernel
theorem d_B_adopt_36 : decode (mC M_B_adopt) 36 = .ok (.aload_n 0, 1) := by decide +kernel
theorem d_B_adopt_37 : decode (mC M_B_adopt) 37 = .ok (.getfield 19, 3) := by decide +kernel
theorem d_B_adopt_40 : decode (mC M_B_adopt) 40 = .ok (.getfield 72, 3) := by decide +kernel
theorem d_B_adopt_43 : decode (mC M_B_adopt) 43 = .ok (.if_icmp .ge 26, 3) := by decide +kernel
theorem d_B_adopt_46 : decode (mC M_B_adopt) 46 = .ok (.aload_n 0, 1) := by decide +kernel
theorem d_B_adopt_47 : decode (mC M_B_adopt) 47 = .ok (.getfield 19, 3) := by decide +kernel
theorem d_B_adopt_50 : decode (mC M_B_adopt) 50 = .ok (.getfield 152, 3) := by decide +kernel
theorem d_B_adopt_53 : decode (mC M_B_adopt) 53 = .ok (.iload_n 1, 1) := by decide +kernel
theorem d_B_adopt_54 : decode (mC M_B_adopt) 54 = .ok (.aload_n 0, 1) := by decide +kernel
theorem d_B_adopt_55 : decode (mC M_B_adopt) 55 = .ok (.getfield 61, 3) := by decide +kernel
theorem d_B_adopt_58 : decode (mC M_B_adopt) 58 = .ok (.iload_n 1, 1) := by decide +kernel
theorem d_B_adopt_59 : decode (mC M_B_adopt) 59 = .ok (.invokevirtual 173, 3) := by decide +kernel
theorem d_B_adopt_62 : decode (mC M_B_adopt) 62 = .ok (.iastore, 1) := by decide +kernel
theorem d_B_adopt_63 : decode (mC M_B_adopt) 63 = .ok (.iinc 1 1, 3) := by decide +kernel
theorem d_B_adopt_66 : decode (mC M_B_adopt) 66 = .ok (.goto (-31), 3) := by decide +kernel
theorem d_B_adopt_69 : decode (mC M_B_adopt) 69 = .ok (.aload_n 0, 1) := by decide +kernel
theorem d_B_adopt_70 : decode (mC M_B_adopt) 70 = .ok (.getfield 61, 3) := by decide +kernel
theorem d_B_adopt_73 : decode (mC M_B_adopt) 73 = .ok (.getfield 170, 3) := by decide +kernel
theorem d_B_adopt_76 : decode (mC M_B_adopt) 76 = .ok (.ireturn, 1) := by decide +kernel
def vc_B_adopt_69 (r : Option Value) (hf : hc_H) (J : Nat → hc_K) (lv : hc_L) (st : List Value) (h : hc_H) : Prop := (qi_aload 0 (qi_get 5 4 (qi_get 4 6 (qi_iret r hf)))) lv st h
theorem sn_B_adopt_69 {Ph : Nat → State → Prop} {h0 hf : hc_H} {r : Option Value} : qk Ph M_B_adopt h0 hf r 69 (vc_B_adopt_69 r hf (cx Ph M_B_adopt h0 hf r)) := (qs_aload_n d_B_adopt_69 rfl (qs_get d_B_adopt_70 ff_B_61 (qs_get d_B_adopt_73 ff_B_170 (qs_iret d_B_adopt_76 rfl))))
def vc_B_adopt_35 (r : Option Value) (hf : hc_H) (J : Nat → hc_K) (lv : hc_L) (st : List Value) (h : hc_H) : Prop := (qi_iload 1 (qi_aload 0 (qi_get 5 1 (qi_get 2 0 (qi_icmp_ge (vc_B_adopt_69 r hf J) (qi_aload 0 (qi_get 5 1 (qi_get 2 6 (qi_iload 1 (qi_aload 0 (qi_get 5 4 (qi_iload 1 (qi_invV hc_tt M_Y_bestSpot 1 4 (qi_iast (qi_iinc 1 (nI 1) (J 35)))))))))))))))) lv st h
theorem sn_B_adopt_35 {Ph : Nat → State → Prop} {h0 hf : hc_H} {r : Option Value} : qk Ph M_B_adopt h0 hf r 35 (vc_B_adopt_35 r hf (cx Ph M_B_adopt h0 hf r)) := (qs_iload_n d_B_adopt_35 rfl (qs_aload_n d_B_adopt_36 rfl (qs_get d_B_adopt_37 ff_B_19 (qs_get d_B_adopt_40 ff_B_72 (qs_icmp_ge (tgt := 69) d_B_adopt_43 (by decide) sn_B_adopt_69 (qs_aload_n d_B_adopt_46 rfl (qs_get d_B_adopt_47 ff_B_19 (qs_get d_B_adopt_50 ff_B_152 (qs_iload_n d_B_adopt_53 rfl (qs_aload_n d_B_adopt_54 rfl (qs_get d_B_adopt_55 ff_B_61 (qs_iload_n d_B_adopt_58 rfl (qs_invV hc_Ph_tt (fun _ _ _ => trivial) d_B_adopt_59 zz_Y_bestSpot wk_703 ⟨wk_704, wk_705⟩ ⟨_, rfl, rfl⟩ ⟨by decide, by decide⟩ (qs_iastore d_B_adopt_62 (qs_iinc d_B_adopt_63 (by decide) (by decide) (qs_goto (tgt := 35) d_B_adopt_66 (by decide) (fun _ _ _ h9 => h9)))))))))))))))))
def vc_B_adopt_22 (r : Option Value) (hf : hc_H) (J : Nat → hc_K) (lv : hc_L) (st : List Value) (h : hc_H) : Prop := (qi_aload 0 (qi_get 5 3 (qi_aload 0 (qi_get 5 1 (qi_invV hc_tt M_H_keep 1 1 (qi_push (nI 0) (qi_istore 1 (J 35)))))))) lv st h
theorem sn_B_adopt_22 {Ph : Nat → State → Prop} {h0 hf : hc_H} {r : Option Value} : qk Ph M_B_adopt h0 hf r 22 (vc_B_adopt_22 r hf (cx Ph M_B_adopt h0 hf r)) := (qs_aload_n d_B_adopt_22 rfl (qs_get d_B_adopt_23 ff_B_29 (qs_aload_n d_B_adopt_26 rfl (qs_get d_B_adopt_27 ff_B_19 (qs_invV hc_Ph_tt (fun _ _ _ => trivial) d_B_adopt_30 zz_H_keep wk_454 ⟨wk_455, wk_456⟩ ⟨_, rfl, rfl⟩ ⟨by decide, by decide⟩ (qs_iconst d_B_adopt_33 (by decide) (qs_istore_n d_B_adopt_34 rfl (by decide) (fun _ _ _ h9 => h9))))))))
def vc_B_adopt_0 (r : Option Value) (hf : hc_H) (J : Nat → hc_K) (lv : hc_L) (st : List Value) (h : hc_H) : Prop := (qi_aload 0 (qi_get 5 4 (qi_invV hc_tt M_Y_solve 0 4 (qi_aload 0 (qi_get 5 4 (qi_get 4 6 (qi_push (-4) (qi_icmp_ne (vc_B_adopt_22 r hf J) (qi_push (-4) (qi_iret r hf)))))))))) lv st h
theorem sn_B_adopt_0 {Ph : Nat → State → Prop} {h0 hf : hc_H} {r : Option Value} : qk Ph M_B_adopt h0 hf r 0 (vc_B_adopt_0 r hf (cx Ph M_B_adopt h0 hf r)) := (qs_aload_n d_B_adopt_0 rfl (qs_get d_B_adopt_1 ff_B_61 (qs_invV hc_Ph_tt (fun _ _ _ => trivial) d_B_adopt_4 zz_Y_solve wk_668 ⟨wk_669, wk_670⟩ ⟨_, rfl, rfl⟩ ⟨by decide, by decide⟩ (qs_aload_n d_B_adopt_7 rfl (qs_get d_B_adopt_8 ff_B_61 (qs_get d_B_adopt_11 ff_B_170 (qs_bipush d_B_adopt_14 (by decide) (qs_icmp_ne (tgt := 22) d_B_adopt_16 (by decide) sn_B_adopt_22 (qs_bipush d_B_adopt_19 (by decide) (qs_iret d_B_adopt_21 rfl))))))))))
/-! BalancedLine.floor(I)I -/
abbrev M_B_floor : hc_M := (⟨"BalancedLine", "floor", "(I)I"⟩, prog_1_method_19_code, 2, (some .int), 3, 63)
theorem d_B_floor_0 : decode (mC M_B_floor) 0 = .ok (.iload_n 1, 1) := by decide +kernel
theorem d_B_floor_1 : decode (mC M_B_floor) 1 = .ok (.tableswitch 51 0 2 #[27, 35, 43], 27) := by decide +kernel
theorem d_B_floor_28 : decode (mC M_B_floor) 28 = .ok (.aload_n 0, 1) := by decide +kernel
theorem d_B_floor_29 : decode (mC M_B_floor) 29 = .ok (.getfield 19, 3) := by decide +kernel
theorem d_B_floor_32 : decode (mC M_B_floor) 32 = .ok (.invokevirtual 176, 3) := by decide +kernel
theorem d_B_floor_35 : decode (mC M_B_floor) 35 = .ok (.ireturn, 1) := by decide +kernel
theorem d_B_floor_36 : decode (mC M_B_floor) 36 = .ok (.aload_n 0, 1) := by decide +kernel
theorem d_B_floor_37 : decode (mC M_B_floor) 37 = .ok (.getfield 19, 3) := by decide +kernel
theorem d_B_floor_40 : decode (mC M_B_floor) 40 = .ok (.invokevirtual 179, 3) := by decide +kernel
theorem d_B_floor_43 : decode (mC M_B_floor) 43 = .ok (.ireturn, 1) := by decide +kernel
theorem d_B_floor_44 : decode (mC M_B_floor) 44 = .ok (.aload_n 0, 1) := by decide +kernel
theorem d_B_floor_45 : decode (mC M_B_floor) 45 = .ok (.getfield 19, 3) := by decide +kernel
theorem d_B_floor_48 : decode (mC M_B_floor) 48 = .ok (.invokevirtual 182, 3) := by decide +kernel
theorem d_B_floor_51 : decode (mC M_B_floor) 51 = .ok (.ireturn, 1) := by decide +kernel
theorem d_B_floor_52 : decode (mC M_B_floor) 52 = .ok (.iconst (-1), 1) := by decide +kernel
theorem d_B_floor_53 : decode (mC M_B_floor) 53 = .ok (.ireturn, 1) := by decide +kernel
def vc_B_floor_52 (r : Option Value) (hf : hc_H) (J : Nat → hc_K) (lv : hc_L) (st : List Value) (h : hc_H) : Prop := (qi_push (-1) (qi_iret r hf)) lv st h
theorem sn_B_floor_52 {Ph : Nat → State → Prop} {h0 hf : hc_H} {r : Option Value} : qk Ph M_B_floor h0 hf r 52 (vc_B_floor_52 r hf (cx Ph M_B_floor h0 hf r)) := (qs_iconst d_B_floor_52 (by decide) (qs_iret d_B_floor_53 rfl))
def vc_B_floor_44 (r : Option Value) (hf : hc_H) (J : Nat → hc_K) (lv : hc_L) (st : List Value) (h : hc_H) : Prop := (qi_aload 0 (qi_get 5 1 (qi_invV hc_tt M_P_floorOfChains 0 2 (qi_iret r hf)))) lv st h
theorem sn_B_floor_44 {Ph : Nat → State → Prop} {h0 hf : hc_H} {r : Option Value} : qk Ph M_B_floor h0 hf r 44 (vc_B_floor_44 r hf (cx Ph M_B_floor h0 hf r)) := (qs_aload_n d_B_floor_44 rfl (qs_get d_B_floor_45 ff_B_19 (qs_invV hc_Ph_tt (fun _ _ _ => trivial) d_B_floor_48 zz_P_floorOfChains wk_714 ⟨wk_635, wk_636⟩ ⟨_, rfl, rfl⟩ ⟨by decide, by decide⟩ (qs_iret d_B_floor_51 rfl))))
def vc_B_floor_36 (r : Option Value) (hf : hc_H) (J : Nat → hc_K) (lv : hc_L) (st : List Value) (h : hc_H) : Prop := (qi_aload 0 (qi_get 5 1 (qi_invV hc_tt M_P_floorOfHalves 0 2 (qi_iret r hf)))) lv st h
theorem sn_B_floor_36 {Ph : Nat → State → Prop} {h0 hf : hc_H} {r : Option Value} : qk Ph M_B_floor h0 hf r 36 (vc_B_floor_36 r hf (cx Ph M_B_floor h0 hf r)) := (qs_aload_n d_B_floor_36 rfl (qs_get d_B_floor_37 ff_B_19 (qs_invV hc_Ph_tt (fun _ _ _ => trivial) d_B_floor_40 zz_P_floorOfHalves wk_713 ⟨wk_631, wk_632⟩ ⟨_, rfl, rfl⟩ ⟨by decide, by decide⟩ (qs_iret d_B_floor_43 rfl))))
def vc_B_floor_28 (r : Option Value) (hf : hc_H) (J : Nat → hc_K) (lv : hc_L) (st : List Value) (h : hc_H) : Prop := (qi_aload 0 (qi_get 5 1 (qi_invV hc_tt M_P_floorOfAllTimes 0 2 (qi_iret r hf)))) lv st h
theorem sn_B_floor_28 {Ph : Nat → State → Prop} {h0 hf : hc_H} {r : Option Value} : qk Ph M_B_floor h0 hf r 28 (vc_B_floor_28 r hf (cx Ph M_B_floor h0 hf r)) := (qs_aload_n d_B_floor_28 rfl (qs_get d_B_floor_29 ff_B_19 (qs_invV hc_Ph_tt (fun _ _ _ => trivial) d_B_floor_32 zz_P_floorOfAllTimes wk_712 ⟨wk_619, wk_620⟩ ⟨_, rfl, rfl⟩ ⟨by decide, by decide⟩ (qs_iret d_B_floor_35 rfl))))
def vc_B_floor_0 (r : Option Value) (hf : hc_H) (J : Nat → hc_K) (lv : hc_L) (st : List Value) (h : hc_H) : Prop := (qi_iload 1 (qi_sw (vc_B_floor_52 r hf J) [((nI 0), (vc_B_floor_28 r hf J)), ((nI 1), (vc_B_floor_36 r hf J)), ((nI 2), (vc_B_floor_44 r hf J))])) lv st h
theorem sn_B_floor_0 {Ph : Nat → State → Prop} {h0 hf : hc_H} {r : Option Value} : qk Ph M_B_floor h0 hf r 0 (vc_B_floor_0 r hf (cx Ph M_B_floor h0 hf r)) := (qs_iload_n d_B_floor_0 rfl (qs_table (tgt := 52) d_B_floor_1 rfl (by decide) ⟨by decide, ⟨28, by decide, sn_B_floor_28⟩, ⟨by decide, ⟨36, by decide, sn_B_floor_36⟩, ⟨by decide, ⟨44, by decide, sn_B_floor_44⟩, trivial⟩⟩⟩ (by decide) sn_B_floor_52))
theorem zz_Y_listedLoad : hc_z M_Y_listedLoad 2 := ⟨wk_722, wk_63, by decide +kernel⟩
/-! BalancedLine.load(I)I -/
abbrev M_B_load : hc_M := (⟨"BalancedLine", "load", "(I)I"⟩, prog_1_method_20_code, 2, (some .int), 5, 113)
theorem d_B_load_0 : decode (mC M_B_load) 0 = .ok (.iload_n 1, 1) := by decide +kernel
theorem d_B_load_1 : decode (mC M_B_load) 1 = .ok (.iconst (-1), 1) := by decide +kernel
theorem d_B_load_2 : decode (mC M_B_load) 2 = .ok (.if_icmp .ge 7, 3) := by decide +kernel
theorem d_B_load_5 : decode (mC M_B_load) 5 = .ok (.iconst (-1), 1) := by decide +kernel
theorem d_B_load_6 : decode (mC M_B_load) 6 = .ok (.goto 12, 3) := by decide +kernel
theorem d_B_load_9 : decode (mC M_B_load) 9 = .ok (.aload_n 0, 1) := by decide +kernel
theorem d_B_load_10 : decode (mC M_B_load) 10 = .ok (.getfield 61, 3) := by decide +kernel
theorem d_B_load_13 : decode (mC M_B_load) 13 = .ok (.iload_n 1, 1) := by decide +kernel
theorem d_B_load_14 : decode (mC M_B_load) 14 = .ok (.iconst 0, 1) := by decide +kernel
theorem d_B_load_15 : decode (mC M_B_load) 15 = .ok (.invokevirtual 185, 3) := by decide +kernel
theorem d_B_load_18 : decode (mC M_B_load) 18 = .ok (.ireturn, 1) := by decide +kernel
def vc_B_load_18 (r : Option Value) (hf : hc_H) (J : Nat → hc_K) (lv : hc_L) (st : List Value) (h : hc_H) : Prop := (qi_iret r hf) lv st h
theorem sn_B_load_18 {Ph : Nat → State → Prop} {h0 hf : hc_H} {r : Option Value} : qk Ph M_B_load h0 hf r 18 (vc_B_load_18 r hf (cx Ph M_B_load h0 hf r)) := (qs_iret d_B_load_18 rfl)
def vc_B_load_9 (r : Option Value) (hf : hc_H) (J : Nat → hc_K) (lv : hc_L) (st : List Value) (h : hc_H) : Prop := (qi_aload 0 (qi_get 5 4 (qi_iload 1 (qi_push (nI 0) (qi_invV hc_tt M_Y_listedLoad 2 4 (vc_B_load_18 r hf J)))))) lv st h
theorem sn_B_load_9 {Ph : Nat → State → Prop} {h0 hf : hc_H} {r : Option Value} : qk Ph M_B_load h0 hf r 9 (vc_B_load_9 r hf (cx Ph M_B_load h0 hf r)) := (qs_aload_n d_B_load_9 rfl (qs_get d_B_load_10 ff_B_61 (qs_iload_n d_B_load_13 rfl (qs_iconst d_B_load_14 (by decide) (qs_invV hc_Ph_tt (fun _ _ _ => trivial) d_B_load_15 zz_Y_listedLoad wk_719 ⟨wk_720, wk_721⟩ ⟨_, rfl, rfl⟩ ⟨by decide, by decide⟩ sn_B_load_18)))))
def vc_B_load_0 (r : Option Value) (hf : hc_H) (J : Nat → hc_K) (lv : hc_L) (st : List Value) (h : hc_H) : Prop := (qi_iload 1 (qi_push (-1) (qi_icmp_ge (vc_B_load_9 r hf J) (qi_push (-1) (vc_B_load_18 r hf J))))) lv st h
theorem sn_B_load_0 {Ph : Nat → State → Prop} {h0 hf : hc_H} {r : Option Value} : qk Ph M_B_load h0 hf r 0 (vc_B_load_0 r hf (cx Ph M_B_load h0 hf r)) := (qs_iload_n d_B_load_0 rfl (qs_iconst d_B_load_1 (by decide) (qs_icmp_ge (tgt := 9) d_B_load_2 (by decide) sn_B_load_9 (qs_iconst d_B_load_5 (by decide) (qs_goto (tgt := 18) d_B_load_6 (by decide) sn_B_load_18)))))
/-! BalancedLine.full(I)I -/
abbrev M_B_full : hc_M := (⟨"BalancedLine", "full", "(I)I"⟩, prog_1_method_21_code, 2, (some .int), 5, 113)
theorem d_B_full_0 : decode (mC M_B_full) 0 = .ok (.iload_n 1, 1) := by decide +kernel
theorem d_B_full_1 : decode (mC M_B_full) 1 = .ok (.iconst (-1), 1) := by decide +kernel
theorem d_B_full_2 : decode (mC M_B_full) 2 = .ok (.if_icmp .ge 7, 3) := by decide +kernel
theorem d_B_full_5 : decode (mC M_B_full) 5 = .ok (.iconst (-1), 1) := by decide +kernel
theorem d_B_full_6 : decode (mC M_B_full) 6 = .ok (.goto 12, 3) := by decide +kernel
theorem d_B_full_9 : decode (mC M_B_full) 9 = .ok (.aload_n 0, 1) := by decide +kernel
theorem d_B_full_10 : decode (mC M_B_full) 10 = .ok (.getfield 61, 3) := by decide +kernel
theorem d_B_full_13 : decode (mC M_B_full) 13 = .ok (.iload_n 1, 1) := by decide +kernel
theorem d_B_full_14 : decode (mC M_B_full) 14 = .ok (.iconst 1, 1) := by decide +kernel
theorem d_B_full_15 : decode (mC M_B_full) 15 = .ok (.invokevirtual 185, 3) := by decide +kernel
theorem d_B_full_18 : decode (mC M_B_full) 18 = .ok (.ireturn, 1) := by decide +kernel
def vc_B_full_18 (r : Option Value) (hf : hc_H) (J : Nat → hc_K) (lv : hc_L) (st : List Value) (h : hc_H) : Prop := (qi_iret r hf) lv st h
theorem sn_B_full_18 {Ph : Nat → State → Prop} {h0 hf : hc_H} {r : Option Value} : qk Ph M_B_full h0 hf r 18 (vc_B_full_18 r hf (cx Ph M_B_full h0 hf r)) := (qs_iret d_B_full_18 rfl)
def vc_B_full_9 (r : Option Value) (hf : hc_H) (J : Nat → hc_K) (lv : hc_L) (st : List Value) (h : hc_H) : Prop := (qi_aload 0 (qi_get 5 4 (qi_iload 1 (qi_push (nI 1) (qi_invV hc_tt M_Y_listedLoad 2 4 (vc_B_full_18 r hf J)))))) lv st h
theorem sn_B_full_9 {Ph : Nat → State → Prop} {h0 hf : hc_H} {r : Option Value} : qk Ph M_B_full h0 hf r 9 (vc_B_full_9 r hf (cx Ph M_B_full h0 hf r)) := (qs_aload_n d_B_full_9 rfl (qs_get d_B_full_10 ff_B_61 (qs_iload_n d_B_full_13 rfl (qs_iconst d_B_full_14 (by decide) (qs_invV hc_Ph_tt (fun _ _ _ => trivial) d_B_full_15 zz_Y_listedLoad wk_719 ⟨wk_720, wk_721⟩ ⟨_, rfl, rfl⟩ ⟨by decide, by decide⟩ sn_B_full_18)))))
def vc_B_full_0 (r : Option Value) (hf : hc_H) (J : Nat → hc_K) (lv : hc_L) (st : List Value) (h : hc_H) : Prop := (qi_iload 1 (qi_push (-1) (qi_icmp_ge (vc_B_full_9 r hf J) (qi_push (-1) (vc_B_full_18 r hf J))))) lv st h
theorem sn_B_full_0 {Ph : Nat → State → Prop} {h0 hf : hc_H} {r : Option Value} : qk Ph M_B_full h0 hf r 0 (vc_B_full_0 r hf (cx Ph M_B_full h0 hf r)) := (qs_iload_n d_B_full_0 rfl (qs_iconst d_B_full_1 (by decide) (qs_icmp_ge (tgt := 9) d_B_full_2 (by decide) sn_B_full_9 (qs_iconst d_B_full_5 (by decide) (qs_goto (tgt := 18) d_B_full_6 (by decide) sn_B_full_18)))))
/-! BalancedLine.fewest()I -/
abbrev M_B_fewest : hc_M := (⟨"BalancedLine", "fewest", "()I"⟩, prog_1_method_22_code, 1, (some .int), 5, 119)
theorem d_B_fewest_0 : decode (mC M_B_fewest) 0 = .ok (.aload_n 0, 1) := by decide +kernel
theorem d_B_fewest_1 : decode (mC M_B_fewest) 1 = .ok (.getfield 61, 3) := by decide +kernel
theorem d_B_fewest_4 : decode (mC M_B_fewest) 4 = .ok (.invokevirtual 167, 3) := by decide +kernel
theorem d_B_fewest_7 : decode (mC M_B_fewest) 7 = .ok (.aload_n 0, 1) := by decide +kernel
theorem d_B_fewest_8 : decode (mC M_B_fewest) 8 = .ok (.getfield 61, 3) := by decide +kernel
theorem d_B_fewest_11 : decode (mC M_B_fewest) 11 = .ok (.getfield 170, 3) := by decide +kernel
theorem d_B_fewest_14 : decode (mC M_B_fewest) 14 = .ok (.ireturn, 1) := by decide +kernel
def vc_B_fewest_0 (r : Option Value) (hf : hc_H) (J : Nat → hc_K) (lv : hc_L) (st : List Value) (h : hc_H) : Prop := (qi_aload 0 (qi_get 5 4 (qi_invV hc_tt M_Y_solve 0 4 (qi_aload 0 (qi_get 5 4 (qi_get 4 6 (qi_iret r hf))))))) lv st h
theorem sn_B_fewest_0 {Ph : Nat → State → Prop} {h0 hf : hc_H} {r : Option Value} : qk Ph M_B_fewest h0 hf r 0 (vc_B_fewest_0 r hf (cx Ph M_B_fewest h0 hf r)) := (qs_aload_n d_B_fewest_0 rfl (qs_get d_B_fewest_1 ff_B_61 (qs_invV hc_Ph_tt (fun _ _ _ => trivial) d_B_fewest_4 zz_Y_solve wk_668 ⟨wk_669, wk_670⟩ ⟨_, rfl, rfl⟩ ⟨by decide, by decide⟩ (qs_aload_n d_B_fewest_7 rfl (qs_get d_B_fewest_8 ff_B_61 (qs_get d_B_fewest_11 ff_B_170 (qs_iret d_B_fewest_14 rfl)))))))
/-! BalancedLine.best(I)I -/
abbrev M_B_best : hc_M := (⟨"BalancedLine", "best", "(I)I"⟩, prog_1_method_23_code, 2, (some .int), 5, 119)
theorem d_B_best_0 : decode (mC M_B_best) 0 = .ok (.aload_n 0, 1) := by decide +kernel
theorem d_B_best_1 : decode (mC M_B_best) 1 = .ok (.getfield 19, 3) := by decide +kernel
theorem d_B_best_4 : decode (mC M_B_best) 4 = .ok (.iload_n 1, 1) := by decide +kernel
theorem d_B_best_5 : decode (mC M_B_best) 5 = .ok (.invokevirtual 93, 3) := by decide +kernel
theorem d_B_best_8 : decode (mC M_B_best) 8 = .ok (.ifCond .ne 5, 3) := by decide +kernel
theorem d_B_best_11 : decode (mC M_B_best) 11 = .ok (.iconst (-1), 1) := by decide +kernel
theorem d_B_best_12 : decode (mC M_B_best) 12 = .ok (.ireturn, 1) := by decide +kernel
theorem d_B_best_13 : decode (mC M_B_best) 13 = .ok (.aload_n 0, 1) := by decide +kernel
theorem d_B_best_14 : decode (mC M_B_best) 14 = .ok (.getfield 61, 3) := by decide +kernel
theorem d_B_best_17 : decode (mC M_B_best) 17 = .ok (.invokevirtual 167, 3) := by decide +kernel
theorem d_B_best_20 : decode (mC M_B_best) 20 = .ok (.aload_n 0, 1) := by decide +kernel
theorem d_B_best_21 : decode (mC M_B_best) 21 = .ok (.getfield 61, 3) := by decide +kernel
theorem d_B_best_24 : decode (mC M_B_best) 24 = .ok (.getfield 170, 3) := by decide +kernel
theorem d_B_best_27 : decode (mC M_B_best) 27 = .ok (.bipush (-4), 2) := by decide +kernel
theorem d_B_best_29 : decode (mC M_B_best) 29 = .ok (.if_icmp .ne 8, 3) := by decide +kernel
theorem d_B_best_32 : decode (mC M_B_best) 32 = .ok (.bipush (-4), 2) := by decide +kernel
theorem d_B_best_34 : decode (mC M_B_best) 34 = .ok (.goto 11, 3) := by decide +kernel
theorem d_B_best_37 : decode (mC M_B_best) 37 = .ok (.aload_n 0, 1) := by decide +kernel
theorem d_B_best_38 : decode (mC M_B_best) 38 = .ok (.getfield 61, 3) := by decide +kernel
theorem d_B_best_41 : decode (mC M_B_best) 41 = .ok (.iload_n 1, 1) := by decide +kernel
theorem d_B_best_42 : decode (mC M_B_best) 42 = .ok (.invokevirtual 173, 3) := by decide +kernel
theorem d_B_best_45 : decode (mC M_B_best) 45 = .ok (.ireturn, 1) := by decide +kernel
def vc_B_best_45 (r : Option Value) (hf : hc_H) (J : Nat → hc_K) (lv : hc_L) (st : List Value) (h : hc_H) : Prop := (qi_iret r hf) lv st h
theorem sn_B_best_45 {Ph : Nat → State → Prop} {h0 hf : hc_H} {r : Option Value} : qk Ph M_B_best h0 hf r 45 (vc_B_best_45 r hf (cx Ph M_B_best h0 hf r)) := (qs_iret d_B_best_45 rfl)
def vc_B_best_37 (r : Option Value) (hf : hc_H) (J : Nat → hc_K) (lv : hc_L) (st : List Value) (h : hc_H) : Prop := (qi_aload 0 (qi_get 5 4 (qi_iload 1 (qi_invV hc_tt M_Y_bestSpot 1 4 (vc_B_best_45 r hf J))))) lv st h
theorem sn_B_best_37 {Ph : Nat → State → Prop} {h0 hf : hc_H} {r : Option Value} : qk Ph M_B_best h0 hf r 37 (vc_B_best_37 r hf (cx Ph M_B_best h0 hf r)) := (qs_aload_n d_B_best_37 rfl (qs_get d_B_best_38 ff_B_61 (qs_iload_n d_B_best_41 rfl (qs_invV hc_Ph_tt (fun _ _ _ => trivial) d_B_best_42 zz_Y_bestSpot wk_703 ⟨wk_704, wk_705⟩ ⟨_, rfl, rfl⟩ ⟨by decide, by decide⟩ sn_B_best_45))))
def vc_B_best_13 (r : Option Value) (hf : hc_H) (J : Nat → hc_K) (lv : hc_L) (st : List Value) (h : hc_H) : Prop := (qi_aload 0 (qi_get 5 4 (qi_invV hc_tt M_Y_solve 0 4 (qi_aload 0 (qi_get 5 4 (qi_get 4 6 (qi_push (-4) (qi_icmp_ne (vc_B_best_37 r hf J) (qi_push (-4) (vc_B_best_45 r hf J)))))))))) lv st h
theorem sn_B_best_13 {Ph : Nat → State → Prop} {h0 hf : hc_H} {r : Option Value} : qk Ph M_B_best h0 hf r 13 (vc_B_best_13 r hf (cx Ph M_B_best h0 hf r)) := (qs_aload_n d_B_best_13 rfl (qs_get d_B_best_14 ff_B_61 (qs_invV hc_Ph_tt (fun _ _ _ => trivial) d_B_best_17 zz_Y_solve wk_668 ⟨wk_669, wk_670⟩ ⟨_, rfl, rfl⟩ ⟨by decide, by decide⟩ (qs_aload_n d_B_best_20 rfl (qs_get d_B_best_21 ff_B_61 (qs_get d_B_best_24 ff_B_170 (qs_bipush d_B_best_27 (by decide) (qs_icmp_ne (tgt := 37) d_B_best_29 (by decide) sn_B_best_37 (qs_bipush d_B_best_32 (by decide) (qs_goto (tgt := 45) d_B_best_34 (by decide) sn_B_best_45))))))))))
def vc_B_best_0 (r : Option Value) (hf : hc_H) (J : Nat → hc_K) (lv : hc_L) (st : List Value) (h : hc_H) : Prop := (qi_aload 0 (qi_get 5 1 (qi_iload 1 (qi_invV hc_tt M_P_has 1 2 (qi_if_ne (vc_B_best_13 r hf J) (qi_push (-1) (qi_iret r hf))))))) lv st h
theorem sn_B_best_0 {Ph : Nat → State → Prop} {h0 hf : hc_H} {r : Option Value} : qk Ph M_B_best h0 hf r 0 (vc_B_best_0 r hf (cx Ph M_B_best h0 hf r)) := (qs_aload_n d_B_best_0 rfl (qs_get d_B_best_1 ff_B_19 (qs_iload_n d_B_best_4 rfl (qs_invV hc_Ph_tt (fun _ _ _ => trivial) d_B_best_5 zz_P_has wk_489 ⟨wk_255, wk_256⟩ ⟨_, rfl, rfl⟩ ⟨by decide, by decide⟩ (qs_if_ne (tgt := 13) d_B_best_8 (by decide) sn_B_best_13 (qs_iconst d_B_best_11 (by decide) (qs_iret d_B_best_12 rfl)))))))
/-! BalancedLine.many()I -/
abbrev M_B_many : hc_M := (⟨"BalancedLine", "many", "()I"⟩, prog_1_method_24_code, 1, (some .int), 5, 119)
theorem d_B_many_0 : decode (mC M_B_many) 0 = .ok (.aload_n 0, 1) := by decide +kernel
theorem d_B_many_1 : decode (mC M_B_many) 1 = .ok (.getfield 61, 3) := by decide +kernel
theorem d_B_many_4 : decode (mC M_B_many) 4 = .ok (.invokevirtual 167, 3) := by decide +kernel
theorem d_B_many_7 : decode (mC M_B_many) 7 = .ok (.aload_n 0, 1) := by decide +kernel
theorem d_B_many_8 : decode (mC M_B_many) 8 = .ok (.getfield 61, 3) := by decide +kernel
theorem d_B_many_11 : decode (mC M_B_many) 11 = .ok (.getfield 189, 3) := by decide +kernel
theorem d_B_many_14 : decode (mC M_B_many) 14 = .ok (.ireturn, 1) := by decide +kernel
def vc_B_many_0 (r : Option Value) (hf : hc_H) (J : Nat → hc_K) (lv : hc_L) (st : List Value) (h : hc_H) : Prop := (qi_aload 0 (qi_get 5 4 (qi_invV hc_tt M_Y_solve 0 4 (qi_aload 0 (qi_get 5 4 (qi_get 4 7 (qi_iret r hf))))))) lv st h
theorem sn_B_many_0 {Ph : Nat → State → Prop} {h0 hf : hc_H} {r : Option Value} : qk Ph M_B_many h0 hf r 0 (vc_B_many_0 r hf (cx Ph M_B_many h0 hf r)) := (qs_aload_n d_B_many_0 rfl (qs_get d_B_many_1 ff_B_61 (qs_invV hc_Ph_tt (fun _ _ _ => trivial) d_B_many_4 zz_Y_solve wk_668 ⟨wk_669, wk_670⟩ ⟨_, rfl, rfl⟩ ⟨by decide, by decide⟩ (qs_aload_n d_B_many_7 rfl (qs_get d_B_many_8 ff_B_61 (qs_get d_B_many_11 ff_B_189 (qs_iret d_B_many_14 rfl)))))))
theorem zz_Y_possibleSpots : hc_z M_Y_possibleSpots 1 := ⟨wk_754, wk_63, by decide +kernel⟩
/-! BalancedLine.may(I)I -/
abbrev M_B_may : hc_M := (⟨"BalancedLine", "may", "(I)I"⟩, prog_1_method_25_code, 2, (some .int), 5, 119)
theorem d_B_may_0 : decode (mC M_B_may) 0 = .ok (.aload_n 0, 1) := by decide +kernel
theorem d_B_may_1 : decode (mC M_B_may) 1 = .ok (.getfield 19, 3) := by decide +kernel
theorem d_B_may_4 : decode (mC M_B_may) 4 = .ok (.iload_n 1, 1) := by decide +kernel
theorem d_B_may_5 : decode (mC M_B_may) 5 = .ok (.invokevirtual 93, 3) := by decide +kernel
theorem d_B_may_8 : decode (mC M_B_may) 8 = .ok (.ifCond .ne 5, 3) := by decide +kernel
theorem d_B_may_11 : decode (mC M_B_may) 11 = .ok (.iconst (-1), 1) := by decide +kernel
theorem d_B_may_12 : decode (mC M_B_may) 12 = .ok (.ireturn, 1) := by decide +kernel
theorem d_B_may_13 : decode (mC M_B_may) 13 = .ok (.aload_n 0, 1) := by decide +kernel
theorem d_B_may_14 : decode (mC M_B_may) 14 = .ok (.getfield 61, 3) := by decide +kernel
theorem d_B_may_17 : decode (mC M_B_may) 17 = .ok (.invokevirtual 167, 3) := by decide +kernel
theorem d_B_may_20 : decode (mC M_B_may) 20 = .ok (.aload_n 0, 1) := by decide +kernel
theorem d_B_may_21 : decode (mC M_B_may) 21 = .ok (.getfield 61, 3) := by decide +kernel
theorem d_B_may_24 : decode (mC M_B_may) 24 = .ok (.getfield 170, 3) := by decide +kernel
theorem d_B_may_27 : decode (mC M_B_may) 27 = .ok (.bipush (-4), 2) := by decide +kernel
theorem d_B_may_29 : decode (mC M_B_may) 29 = .ok (.if_icmp .ne 8, 3) := by decide +kernel
theorem d_B_may_32 : decode (mC M_B_may) 32 = .ok (.bipush (-4), 2) := by decide +kernel
theorem d_B_may_34 : decode (mC M_B_may) 34 = .ok (.goto 11, 3) := by decide +kernel
theorem d_B_may_37 : decode (mC M_B_may) 37 = .ok (.aload_n 0, 1) := by decide +kernel
theorem d_B_may_38 : decode (mC M_B_may) 38 = .ok (.getfield 61, 3) := by decide +kernel
theorem d_B_may_41 : decode (mC M_B_may) 41 = .ok (.iload_n 1, 1) := by decide +kernel
theorem d_B_may_42 : decode (mC M_B_may) 42 = .ok (.invokevirtual 192, 3) := by decide +kernel
theorem d_B_may_45 : decode (mC M_B_may) 45 = .ok (.ireturn, 1) := by decide +kernel
def vc_B_may_45 (r : Option Value) (hf : hc_H) (J : Nat → hc_K) (lv : hc_L) (st : List Value) (h : hc_H) : Prop := (qi_iret r hf) lv st h
theorem sn_B_may_45 {Ph : Nat → State → Prop} {h0 hf : hc_H} {r : Option Value} : qk Ph M_B_may h0 hf r 45 (vc_B_may_45 r hf (cx Ph M_B_may h0 hf r)) := (qs_iret d_B_may_45 rfl)
def vc_B_may_37 (r : Option Value) (hf : hc_H) (J : Nat → hc_K) (lv : hc_L) (st : List Value) (h : hc_H) : Prop := (qi_aload 0 (qi_get 5 4 (qi_iload 1 (qi_invV hc_tt M_Y_possibleSpots 1 4 (vc_B_may_45 r hf J))))) lv st h
theorem sn_B_may_37 {Ph : Nat → State → Prop} {h0 hf : hc_H} {r : Option Value} : qk Ph M_B_may h0 hf r 37 (vc_B_may_37 r hf (cx Ph M_B_may h0 hf r)) := (qs_aload_n d_B_may_37 rfl (qs_get d_B_may_38 ff_B_61 (qs_iload_n d_B_may_41 rfl (qs_invV hc_Ph_tt (fun _ _ _ => trivial) d_B_may_42 zz_Y_possibleSpots wk_751 ⟨wk_752, wk_753⟩ ⟨_, rfl, rfl⟩ ⟨by decide, by decide⟩ sn_B_may_45))))
def vc_B_may_13 (r : Option Value) (hf : hc_H) (J : Nat → hc_K) (lv : hc_L) (st : List Value) (h : hc_H) : Prop := (qi_aload 0 (qi_get 5 4 (qi_invV hc_tt M_Y_solve 0 4 (qi_aload 0 (qi_get 5 4 (qi_get 4 6 (qi_push (-4) (qi_icmp_ne (vc_B_may_37 r hf J) (qi_push (-4) (vc_B_may_45 r hf J)))))))))) lv st h
theorem sn_B_may_13 {Ph : Nat → State → Prop} {h0 hf : hc_H} {r : Option Value} : qk Ph M_B_may h0 hf r 13 (vc_B_may_13 r hf (cx Ph M_B_may h0 hf r)) := (qs_aload_n d_B_may_13 rfl (qs_get d_B_may_14 ff_B_61 (qs_invV hc_Ph_tt (fun _ _ _ => trivial) d_B_may_17 zz_Y_solve wk_668 ⟨wk_669, wk_670⟩ ⟨_, rfl, rfl⟩ ⟨by decide, by decide⟩ (qs_aload_n d_B_may_20 rfl (qs_get d_B_may_21 ff_B_61 (qs_get d_B_may_24 ff_B_170 (qs_bipush d_B_may_27 (by decide) (qs_icmp_ne (tgt := 37) d_B_may_29 (by decide) sn_B_may_37 (qs_bipush d_B_may_32 (by decide) (qs_goto (tgt := 45) d_B_may_34 (by decide) sn_B_may_45))))))))))
def vc_B_may_0 (r : Option Value) (hf : hc_H) (J : Nat → hc_K) (lv : hc_L) (st : List Value) (h : hc_H) : Prop := (qi_aload 0 (qi_get 5 1 (qi_iload 1 (qi_invV hc_tt M_P_has 1 2 (qi_if_ne (vc_B_may_13 r hf J) (qi_push (-1) (qi_iret r hf))))))) lv st h
theorem sn_B_may_0 {Ph : Nat → State → Prop} {h0 hf : hc_H} {r : Option Value} : qk Ph M_B_may h0 hf r 0 (vc_B_may_0 r hf (cx Ph M_B_may h0 hf r)) := (qs_aload_n d_B_may_0 rfl (qs_get d_B_may_1 ff_B_19 (qs_iload_n d_B_may_4 rfl (qs_invV hc_Ph_tt (fun _ _ _ => trivial) d_B_may_5 zz_P_has wk_489 ⟨wk_255, wk_256⟩ ⟨_, rfl, rfl⟩ ⟨by decide, by decide⟩ (qs_if_ne (tgt := 13) d_B_may_8 (by decide) sn_B_may_13 (qs_iconst d_B_may_11 (by decide) (qs_iret d_B_may_12 rfl)))))))
theorem zz_Y_shortestCycle : hc_z M_Y_shortestCycle 1 := ⟨wk_762, wk_63, by decide +kernel⟩
/-! BalancedLine.shortest(I)I -/
abbrev M_B_shortest : hc_M := (⟨"BalancedLine", "shortest", "(I)I"⟩, prog_1_method_26_code, 2, (some .int), 6, 145)
theorem d_B_shortest_0 : decode (mC M_B_shortest) 0 = .ok (.iload_n 1, 1) := by decide +kernel
theorem d_B_shortest_1 : decode (mC M_B_shortest) 1 = .ok (.invokestatic 149, 3) := by decide +kernel
theorem d_B_shortest_4 : decode (mC M_B_shortest) 4 = .ok (.ifCond .eq 14, 3) := by decide +kernel
theorem d_B_shortest_7 : decode (mC M_B_shortest) 7 = .ok (.aload_n 0, 1) := by decide +kernel
theorem d_B_shortest_8 : decode (mC M_B_shortest) 8 = .ok (.getfield 61, 3) := by decide +kernel
theorem d_B_shortest_11 : decode (mC M_B_shortest) 11 = .ok (.iload_n 1, 1) := by decide +kernel
theorem d_B_shortest_12 : decode (mC M_B_shortest) 12 = .ok (.invokevirtual 195, 3) := by decide +kernel
theorem d_B_shortest_15 : decode (mC M_B_shortest) 15 = .ok (.goto 4, 3) := by decide +kernel
theorem d_B_shortest_18 : decode (mC M_B_shortest) 18 = .ok (.iconst (-1), 1) := by decide +kernel
theorem d_B_shortest_19 : decode (mC M_B_shortest) 19 = .ok (.ireturn, 1) := by decide +kernel
def vc_B_shortest_19 (r : Option Value) (hf : hc_H) (J : Nat → hc_K) (lv : hc_L) (st : List Value) (h : hc_H) : Prop := (qi_iret r hf) lv st h
theorem sn_B_shortest_19 {Ph : Nat → State → Prop} {h0 hf : hc_H} {r : Option Value} : qk Ph M_B_shortest h0 hf r 19 (vc_B_shortest_19 r hf (cx Ph M_B_shortest h0 hf r)) := (qs_iret d_B_shortest_19 rfl)
def vc_B_shortest_18 (r : Option Value) (hf : hc_H) (J : Nat → hc_K) (lv : hc_L) (st : List Value) (h : hc_H) : Prop := (qi_push (-1) (vc_B_shortest_19 r hf J)) lv st h
theorem sn_B_shortest_18 {Ph : Nat → State → Prop} {h0 hf : hc_H} {r : Option Value} : qk Ph M_B_shortest h0 hf r 18 (vc_B_shortest_18 r hf (cx Ph M_B_shortest h0 hf r)) := (qs_iconst d_B_shortest_18 (by decide) sn_B_shortest_19)
def vc_B_shortest_0 (r : Option Value) (hf : hc_H) (J : Nat → hc_K) (lv : hc_L) (st : List Value) (h : hc_H) : Prop := (qi_iload 1 (qi_invS hc_tt M_B_isStation 1 (qi_if_eq (vc_B_shortest_18 r hf J) (qi_aload 0 (qi_get 5 4 (qi_iload 1 (qi_invV hc_tt M_Y_shortestCycle 1 4 (vc_B_shortest_19 r hf J)))))))) lv st h
theorem sn_B_shortest_0 {Ph : Nat → State → Prop} {h0 hf : hc_H} {r : Option Value} : qk Ph M_B_shortest h0 hf r 0 (vc_B_shortest_0 r hf (cx Ph M_B_shortest h0 hf r)) := (qs_iload_n d_B_shortest_0 rfl (qs_invS hc_Ph_tt (fun _ _ _ => trivial) d_B_shortest_1 zz_B_isStation wk_535 wk_536 ⟨by decide, by decide⟩ (qs_if_eq (tgt := 18) d_B_shortest_4 (by decide) sn_B_shortest_18 (qs_aload_n d_B_shortest_7 rfl (qs_get d_B_shortest_8 ff_B_61 (qs_iload_n d_B_shortest_11 rfl (qs_invV hc_Ph_tt (fun _ _ _ => trivial) d_B_shortest_12 zz_Y_shortestCycle wk_759 ⟨wk_760, wk_761⟩ ⟨_, rfl, rfl⟩ ⟨by decide, by decide⟩ (qs_goto (tgt := 19) d_B_shortest_15 (by decide) sn_B_shortest_19))))))))
theorem zz_Y_fewestByCycle : hc_z M_Y_fewestByCycle 1 := ⟨wk_787, wk_63, by decide +kernel⟩
/-! BalancedLine.by(I)I -/
abbrev M_B_by : hc_M := (⟨"BalancedLine", "by", "(I)I"⟩, prog_1_method_27_code, 2, (some .int), 6, 140)
theorem d_B_by_0 : decode (mC M_B_by) 0 = .ok (.iload_n 1, 1) := by decide +kernel
theorem d_B_by_1 : decode (mC M_B_by) 1 = .ok (.iconst 1, 1) := by decide +kernel
theorem d_B_by_2 : decode (mC M_B_by) 2 = .ok (.bipush 120, 2) := by decide +kernel
theorem d_B_by_4 : decode (mC M_B_by) 4 = .ok (.invokestatic 65, 3) := by decide +kernel
theorem d_B_by_7 : decode (mC M_B_by) 7 = .ok (.ifCond .eq 14, 3) := by decide +kernel
theorem d_B_by_10 : decode (mC M_B_by) 10 = .ok (.aload_n 0, 1) := by decide +kernel
theorem d_B_by_11 : decode (mC M_B_by) 11 = .ok (.getfield 61, 3) := by decide +kernel
theorem d_B_by_14 : decode (mC M_B_by) 14 = .ok (.iload_n 1, 1) := by decide +kernel
theorem d_B_by_15 : decode (mC M_B_by) 15 = .ok (.invokevirtual 198, 3) := by decide +kernel
theorem d_B_by_18 : decode (mC M_B_by) 18 = .ok (.goto 4, 3) := by decide +kernel
theorem d_B_by_21 : decode (mC M_B_by) 21 = .ok (.iconst (-1), 1) := by decide +kernel
theorem d_B_by_22 : decode (mC M_B_by) 22 = .ok (.ireturn, 1) := by decide +kernel
def vc_B_by_22 (r : Option Value) (hf : hc_H) (J : Nat → hc_K) (lv : hc_L) (st : List Value) (h : hc_H) : Prop := (qi_iret r hf) lv st h
theorem sn_B_by_22 {Ph : Nat → State → Prop} {h0 hf : hc_H} {r : Option Value} : qk Ph M_B_by h0 hf r 22 (vc_B_by_22 r hf (cx Ph M_B_by h0 hf r)) := (qs_iret d_B_by_22 rfl)
def vc_B_by_21 (r : Option Value) (hf : hc_H) (J : Nat → hc_K) (lv : hc_L) (st : List Value) (h : hc_H) : Prop := (qi_push (-1) (vc_B_by_22 r hf J)) lv st h
theorem sn_B_by_21 {Ph : Nat → State → Prop} {h0 hf : hc_H} {r : Option Value} : qk Ph M_B_by h0 hf r 21 (vc_B_by_21 r hf (cx Ph M_B_by h0 hf r)) := (qs_iconst d_B_by_21 (by decide) sn_B_by_22)
def vc_B_by_0 (r : Option Value) (hf : hc_H) (J : Nat → hc_K) (lv : hc_L) (st : List Value) (h : hc_H) : Prop := (qi_iload 1 (qi_push (nI 1) (qi_push (nI 120) (qi_invS hc_tt M_B_isWithin 3 (qi_if_eq (vc_B_by_21 r hf J) (qi_aload 0 (qi_get 5 4 (qi_iload 1 (qi_invV hc_tt M_Y_fewestByCycle 1 4 (vc_B_by_22 r hf J)))))))))) lv st h
theorem sn_B_by_0 {Ph : Nat → State → Prop} {h0 hf : hc_H} {r : Option Value} : qk Ph M_B_by h0 hf r 0 (vc_B_by_0 r hf (cx Ph M_B_by h0 hf r)) := (qs_iload_n d_B_by_0 rfl (qs_iconst d_B_by_1 (by decide) (qs_bipush d_B_by_2 (by decide) (qs_invS hc_Ph_tt (fun _ _ _ => trivial) d_B_by_4 zz_B_isWithin wk_422 wk_236 ⟨by decide, by decide⟩ (qs_if_eq (tgt := 21) d_B_by_7 (by decide) sn_B_by_21 (qs_aload_n d_B_by_10 rfl (qs_get d_B_by_11 ff_B_61 (qs_iload_n d_B_by_14 rfl (qs_invV hc_Ph_tt (fun _ _ _ => trivial) d_B_by_15 zz_Y_fewestByCycle wk_784 ⟨wk_785, wk_786⟩ ⟨_, rfl, rfl⟩ ⟨by decide, by decide⟩ (qs_goto (tgt := 22) d_B_by_18 (by decide) sn_B_by_22))))))))))
theorem zz_Y_fewestByTime : hc_z M_Y_fewestByTime 2 := ⟨wk_799, wk_63, by decide +kernel⟩
/-! BalancedLine.were(II)I -/
abbrev M_B_were : hc_M := (⟨"BalancedLine", "were", "(II)I"⟩, prog_1_method_28_code, 3, (some .int), 6, 141)
theorem d_B_were_0 : decode (mC M_B_were) 0 = .ok (.aload_n 0, 1) := by decide +kernel
theorem d_B_were_1 : decode (mC M_B_were) 1 = .ok (.getfield 19, 3) := by decide +kernel
theorem d_B_were_4 : decode (mC M_B_were) 4 = .ok (.iload_n 1, 1) := by decide +kernel
theorem d_B_were_5 : decode (mC M_B_were) 5 = .ok (.invokevirtual 93, 3) := by decide +kernel
theorem d_B_were_8 : decode (mC M_B_were) 8 = .ok (.ifCond .eq 13, 3) := by decide +kernel
theorem d_B_were_11 : decode (mC M_B_were) 11 = .ok (.iload_n 2, 1) := by decide +kernel
theorem d_B_were_12 : decode (mC M_B_were) 12 = .ok (.iconst 1, 1) := by decide +kernel
theorem d_B_were_13 : decode (mC M_B_were) 13 = .ok (.bipush 60, 2) := by decide +kernel
theorem d_B_were_15 : decode (mC M_B_were) 15 = .ok (.invokestatic 65, 3) := by decide +kernel
theorem d_B_were_18 : decode (mC M_B_were) 18 = .ok (.ifCond .ne 5, 3) := by decide +kernel
theorem d_B_were_21 : decode (mC M_B_were) 21 = .ok (.iconst (-1), 1) := by decide +kernel
theorem d_B_were_22 : decode (mC M_B_were) 22 = .ok (.ireturn, 1) := by decide +kernel
theorem d_B_were_23 : decode (mC M_B_were) 23 = .ok (.aload_n 0, 1) := by decide +kernel
theorem d_B_were_24 : decode (mC M_B_were) 24 = .ok (.getfield 61, 3) := by decide +kernel
theorem d_B_were_27 : decode (mC M_B_were) 27 = .ok (.iload_n 1, 1) := by decide +kernel
theorem d_B_were_28 : decode (mC M_B_were) 28 = .ok (.iload_n 2, 1) := by decide +kernel
theorem d_B_were_29 : decode (mC M_B_were) 29 = .ok (.invokevirtual 201, 3) := by decide +kernel
theorem d_B_were_32 : decode (mC M_B_were) 32 = .ok (.ireturn, 1) := by decide +kernel
def vc_B_were_23 (r : Option Value) (hf : hc_H) (J : Nat → hc_K) (lv : hc_L) (st : List Value) (h : hc_H) : Prop := (qi_aload 0 (qi_get 5 4 (qi_iload 1 (qi_iload 2 (qi_invV hc_tt M_Y_fewestByTime 2 4 (qi_iret r hf)))))) lv st h
theorem sn_B_were_23 {Ph : Nat → State → Prop} {h0 hf : hc_H} {r : Option Value} : qk Ph M_B_were h0 hf r 23 (vc_B_were_23 r hf (cx Ph M_B_were h0 hf r)) := (qs_aload_n d_B_were_23 rfl (qs_get d_B_were_24 ff_B_61 (qs_iload_n d_B_were_27 rfl (qs_iload_n d_B_were_28 rfl (qs_invV hc_Ph_tt (fun _ _ _ => trivial) d_B_were_29 zz_Y_fewestByTime wk_796 ⟨wk_797, wk_798⟩ ⟨_, rfl, rfl⟩ ⟨by decide, by decide⟩ (qs_iret d_B_were_32 rfl))))))
def vc_B_were_21 (r : Option Value) (hf : hc_H) (J : Nat → hc_K) (lv : hc_L) (st : List Value) (h : hc_H) : Prop := (qi_push (-1) (qi_iret r hf)) lv st h
theorem sn_B_were_21 {Ph : Nat → State → Prop} {h0 hf : hc_H} {r : Option Value} : qk Ph M_B_were h0 hf r 21 (vc_B_were_21 r hf (cx Ph M_B_were h0 hf r)) := (qs_iconst d_B_were_21 (by decide) (qs_iret d_B_were_22 rfl))
def vc_B_were_0 (r : Option Value) (hf : hc_H) (J : Nat → hc_K) (lv : hc_L) (st : List Value) (h : hc_H) : Prop := (qi_aload 0 (qi_get 5 1 (qi_iload 1 (qi_invV hc_tt M_P_has 1 2 (qi_if_eq (vc_B_were_21 r hf J) (qi_iload 2 (qi_push (nI 1) (qi_push (nI 60) (qi_invS hc_tt M_B_isWithin 3 (qi_if_ne (vc_B_were_23 r hf J) (vc_B_were_21 r hf J))))))))))) lv st h
theorem sn_B_were_0 {Ph : Nat → State → Prop} {h0 hf : hc_H} {r : Option Value} : qk Ph M_B_were h0 hf r 0 (vc_B_were_0 r hf (cx Ph M_B_were h0 hf r)) := (qs_aload_n d_B_were_0 rfl (qs_get d_B_were_1 ff_B_19 (qs_iload_n d_B_were_4 rfl (qs_invV hc_Ph_tt (fun _ _ _ => trivial) d_B_were_5 zz_P_has wk_489 ⟨wk_255, wk_256⟩ ⟨_, rfl, rfl⟩ ⟨by decide, by decide⟩ (qs_if_eq (tgt := 21) d_B_were_8 (by decide) sn_B_were_21 (qs_iload_n d_B_were_11 rfl (qs_iconst d_B_were_12 (by decide) (qs_bipush d_B_were_13 (by decide) (qs_invS hc_Ph_tt (fun _ _ _ => trivial) d_B_were_15 zz_B_isWithin wk_422 wk_236 ⟨by decide, by decide⟩ (qs_if_ne (tgt := 23) d_B_were_18 (by decide) sn_B_were_23 sn_B_were_21))))))))))
theorem zz_Y_findBindings : hc_z M_Y_findBindings 0 := ⟨wk_807, wk_63, by decide +kernel⟩
theorem zz_Y_listedBinding : hc_z M_Y_listedBinding 1 := ⟨wk_822, wk_63, by decide +kernel⟩
/-! BalancedLine.binds(I)I -/
abbrev M_B_binds : hc_M := (⟨"BalancedLine", "binds", "(I)I"⟩, prog_1_method_29_code, 2, (some .int), 6, 143)
theorem d_B_binds_0 : decode (mC M_B_binds) 0 = .ok (.iload_n 1, 1) := by decide +kernel
theorem d_B_binds_1 : decode (mC M_B_binds) 1 = .ok (.iconst (-1), 1) := by decide +kernel
theorem d_B_binds_2 : decode (mC M_B_binds) 2 = .ok (.if_icmp .ge 5, 3) := by decide +kernel
theorem d_B_binds_5 : decode (mC M_B_binds) 5 = .ok (.iconst (-1), 1) := by decide +kernel
theorem d_B_binds_6 : decode (mC M_B_binds) 6 = .ok (.ireturn, 1) := by decide +kernel
theorem d_B_binds_7 : decode (mC M_B_binds) 7 = .ok (.aload_n 0, 1) := by decide +kernel
theorem d_B_binds_8 : decode (mC M_B_binds) 8 = .ok (.getfield 61, 3) := by decide +kernel
theorem d_B_binds_11 : decode (mC M_B_binds) 11 = .ok (.invokevirtual 204, 3) := by decide +kernel
theorem d_B_binds_14 : decode (mC M_B_binds) 14 = .ok (.aload_n 0, 1) := by decide +kernel
theorem d_B_binds_15 : decode (mC M_B_binds) 15 = .ok (.getfield 61, 3) := by decide +kernel
theorem d_B_binds_18 : decode (mC M_B_binds) 18 = .ok (.iload_n 1, 1) := by decide +kernel
theorem d_B_binds_19 : decode (mC M_B_binds) 19 = .ok (.invokevirtual 207, 3) := by decide +kernel
theorem d_B_binds_22 : decode (mC M_B_binds) 22 = .ok (.ireturn, 1) := by decide +kernel
def vc_B_binds_7 (r : Option Value) (hf : hc_H) (J : Nat → hc_K) (lv : hc_L) (st : List Value) (h : hc_H) : Prop := (qi_aload 0 (qi_get 5 4 (qi_invV hc_tt M_Y_findBindings 0 4 (qi_aload 0 (qi_get 5 4 (qi_iload 1 (qi_invV hc_tt M_Y_listedBinding 1 4 (qi_iret r hf)))))))) lv st h
theorem sn_B_binds_7 {Ph : Nat → State → Prop} {h0 hf : hc_H} {r : Option Value} : qk Ph M_B_binds h0 hf r 7 (vc_B_binds_7 r hf (cx Ph M_B_binds h0 hf r)) := (qs_aload_n d_B_binds_7 rfl (qs_get d_B_binds_8 ff_B_61 (qs_invV hc_Ph_tt (fun _ _ _ => trivial) d_B_binds_11 zz_Y_findBindings wk_804 ⟨wk_805, wk_806⟩ ⟨_, rfl, rfl⟩ ⟨by decide, by decide⟩ (qs_aload_n d_B_binds_14 rfl (qs_get d_B_binds_15 ff_B_61 (qs_iload_n d_B_binds_18 rfl (qs_invV hc_Ph_tt (fun _ _ _ => trivial) d_B_binds_19 zz_Y_listedBinding wk_819 ⟨wk_820, wk_821⟩ ⟨_, rfl, rfl⟩ ⟨by decide, by decide⟩ (qs_iret d_B_binds_22 rfl))))))))
def vc_B_binds_0 (r : Option Value) (hf : hc_H) (J : Nat → hc_K) (lv : hc_L) (st : List Value) (h : hc_H) : Prop := (qi_iload 1 (qi_push (-1) (qi_icmp_ge (vc_B_binds_7 r hf J) (qi_push (-1) (qi_iret r hf))))) lv st h
theorem sn_B_binds_0 {Ph : Nat → State → Prop} {h0 hf : hc_H} {r : Option Value} : qk Ph M_B_binds h0 hf r 0 (vc_B_binds_0 r hf (cx Ph M_B_binds h0 hf r)) := (qs_iload_n d_B_binds_0 rfl (qs_iconst d_B_binds_1 (by decide) (qs_icmp_ge (tgt := 7) d_B_binds_2 (by decide) sn_B_binds_7 (qs_iconst d_B_binds_5 (by decide) (qs_iret d_B_binds_6 rfl)))))
/-! BalancedLine.idleOfBest()I -/
abbrev M_B_idleOfBest : hc_M := (⟨"BalancedLine", "idleOfBest", "()I"⟩, prog_1_method_31_code, 1, (some .int), 5, 119)
theorem d_B_idleOfBest_0 : decode (mC M_B_idleOfBest) 0 = .ok (.aload_n 0, 1) := by decide +kernel
theorem d_B_idleOfBest_1 : decode (mC M_B_idleOfBest) 1 = .ok (.getfield 61, 3) := by decide +kernel
theorem d_B_idleOfBest_4 : decode (mC M_B_idleOfBest) 4 = .ok (.invokevirtual 167, 3) := by decide +kernel
theorem d_B_idleOfBest_7 : decode (mC M_B_idleOfBest) 7 = .ok (.aload_n 0, 1) := by decide +kernel
theorem d_B_idleOfBest_8 : decode (mC M_B_idleOfBest) 8 = .ok (.getfield 61, 3) := by decide +kernel
theorem d_B_idleOfBest_11 : decode (mC M_B_idleOfBest) 11 = .ok (.getfield 170, 3) := by decide +kernel
theorem d_B_idleOfBest_14 : decode (mC M_B_idleOfBest) 14 = .ok (.bipush (-4), 2) := by decide +kernel
theorem d_B_idleOfBest_16 : decode (mC M_B_idleOfBest) 16 = .ok (.if_icmp .ne 8, 3) := by decide +kernel
theorem d_B_idleOfBest_19 : decode (mC M_B_idleOfBest) 19 = .ok (.bipush (-4), 2) := by decide +kernel
theorem d_B_idleOfBest_21 : decode (mC M_B_idleOfBest) 21 = .ok (.goto 26, 3) := by decide +kernel
theorem d_B_idleOfBest_24 : decode (mC M_B_idleOfBest) 24 = .ok (.aload_n 0, 1) := by decide +kernel
theorem d_B_idleOfBest_25 : decode (mC M_B_idleOfBest) 25 = .ok (.getfield 61, 3) := by decide +kernel
theorem d_B_idleOfBest_28 : decode (mC M_B_idleOfBest) 28 = .ok (.getfield 170, 3) := by decide +kernel
theorem d_B_idleOfBest_31 : decode (mC M_B_idleOfBest) 31 = .ok (.aload_n 0, 1) := by decide +kernel
theorem d_B_idleOfBest_32 : decode (mC M_B_idleOfBest) 32 = .ok (.getfield 19, 3) := by decide +kernel
theorem d_B_idleOfBest_35 : decode (mC M_B_idleOfBest) 35 = .ok (.getfield 84, 3) := by decide +kernel
theorem d_B_idleOfBest_38 : decode (mC M_B_idleOfBest) 38 = .ok (.imul, 1) := by decide +kernel
theorem d_B_idleOfBest_39 : decode (mC M_B_idleOfBest) 39 = .ok (.aload_n 0, 1) := by decide +kernel
theorem d_B_idleOfBest_40 : decode (mC M_B_idleOfBest) 40 = .ok (.getfield 19, 3) := by decide +kernel
theorem d_B_idleOfBest_43 : decode (mC M_B_idleOfBest) 43 = .ok (.invokevirtual 225, 3) := by decide +kernel
theorem d_B_idleOfBest_46 : decode (mC M_B_idleOfBest) 46 = .ok (.isub, 1) := by decide +kernel
theorem d_B_idleOfBest_47 : decode (mC M_B_idleOfBest) 47 = .ok (.ireturn, 1) := by decide +kernel
def vc_B_idleOfBest_47 (r : Option Value) (hf : hc_H) (J : Nat → hc_K) (lv : hc_L) (st : List Value) (h : hc_H) : Prop := (qi_iret r hf) lv st h
theorem sn_B_idleOfBest_47 {Ph : Nat → State → Prop} {h0 hf : hc_H} {r : Option Value} : qk Ph M_B_idleOfBest h0 hf r 47 (vc_B_idleOfBest_47 r hf (cx Ph M_B_idleOfBest h0 hf r)) := (qs_iret d_B_idleOfBest_47 rfl)
def vc_B_idleOfBest_24 (r : Option Value) (hf : hc_H) (J : Nat → hc_K) (lv : hc_L) (st : List Value) (h : hc_H) : Prop := (qi_aload 0 (qi_get 5 4 (qi_get 4 6 (qi_aload 0 (qi_get 5 1 (qi_get 2 1 (qi_imul (qi_aload 0 (qi_get 5 1 (qi_invV hc_tt M_P_total 0 2 (qi_isub (vc_B_idleOfBest_47 r hf J)))))))))))) lv st h
theorem sn_B_idleOfBest_24 {Ph : Nat → State → Prop} {h0 hf : hc_H} {r : Option Value} : qk Ph M_B_idleOfBest h0 hf r 24 (vc_B_idleOfBest_24 r hf (cx Ph M_B_idleOfBest h0 hf r)) := (qs_aload_n d_B_idleOfBest_24 rfl (qs_get d_B_idleOfBest_25 ff_B_61 (qs_get d_B_idleOfBest_28 ff_B_170 (qs_aload_n d_B_idleOfBest_31 rfl (qs_get d_B_idleOfBest_32 ff_B_19 (qs_get d_B_idleOfBest_35 ff_B_84 (qs_imul d_B_idleOfBest_38 (qs_aload_n d_B_idleOfBest_39 rfl (qs_get d_B_idleOfBest_40 ff_B_19 (qs_invV hc_Ph_tt (fun _ _ _ => trivial) d_B_idleOfBest_43 zz_P_total wk_837 ⟨wk_623, wk_624⟩ ⟨_, rfl, rfl⟩ ⟨by decide, by decide⟩ (qs_isub d_B_idleOfBest_46 sn_B_idleOfBest_47)))))))))))
def vc_B_idleOfBest_0 (r : Option Value) (hf : hc_H) (J : Nat → hc_K) (lv : hc_L) (st : List Value) (h : hc_H) : Prop := (qi_aload 0 (qi_get 5 4 (qi_invV hc_tt M_Y_solve 0 4 (qi_aload 0 (qi_get 5 4 (qi_get 4 6 (qi_push (-4) (qi_icmp_ne (vc_B_idleOfBest_24 r hf J) (qi_push (-4) (vc_B_idleOfBest_47 r hf J)))))))))) lv st h
theorem sn_B_idleOfBest_0 {Ph : Nat → State → Prop} {h0 hf : hc_H} {r : Option Value} : qk Ph M_B_idleOfBest h0 hf r 0 (vc_B_idleOfBest_0 r hf (cx Ph M_B_idleOfBest h0 hf r)) := (qs_aload_n d_B_idleOfBest_0 rfl (qs_get d_B_idleOfBest_1 ff_B_61 (qs_invV hc_Ph_tt (fun _ _ _ => trivial) d_B_idleOfBest_4 zz_Y_solve wk_668 ⟨wk_669, wk_670⟩ ⟨_, rfl, rfl⟩ ⟨by decide, by decide⟩ (qs_aload_n d_B_idleOfBest_7 rfl (qs_get d_B_idleOfBest_8 ff_B_61 (qs_get d_B_idleOfBest_11 ff_B_170 (qs_bipush d_B_idleOfBest_14 (by decide) (qs_icmp_ne (tgt := 24) d_B_idleOfBest_16 (by decide) sn_B_idleOfBest_24 (qs_bipush d_B_idleOfBest_19 (by decide) (qs_goto (tgt := 47) d_B_idleOfBest_21 (by decide) sn_B_idleOfBest_47))))))))))
theorem zz_P_stationsInUse : hc_z M_P_stationsInUse 0 := ⟨wk_836, wk_56, by decide +kernel⟩
theorem zz_B_idleOfBest : hc_z M_B_idleOfBest 0 := ⟨wk_841, wk_54, by decide +kernel⟩
theorem zz_P_pairs : hc_z M_P_pairs 1 := ⟨wk_830, wk_56, by decide +kernel⟩
/-! BalancedLine.count(I)I -/
abbrev M_B_count : hc_M := (⟨"BalancedLine", "count", "(I)I"⟩, prog_1_method_30_code, 2, (some .int), 6, 139)
theorem d_B_count_0 : decode (mC M_B_count) 0 = .ok (.iload_n 1, 1) := by decide +kernel
theorem d_B_count_1 : decode (mC M_B_count) 1 = .ok (.tableswitch 196 0 11 #[63, 71, 79, 87, 102, 117, 128, 136, 144, 152, 160, 165], 63) := by decide +kernel
theorem d_B_count_64 : decode (mC M_B_count) 64 = .ok (.aload_n 0, 1) := by decide +kernel
theorem d_B_count_65 : decode (mC M_B_count) 65 = .ok (.getfield 19, 3) := by decide +kernel
theorem d_B_count_68 : decode (mC M_B_count) 68 = .ok (.getfield 72, 3) := by decide +kernel
theorem d_B_count_71 : decode (mC M_B_count) 71 = .ok (.ireturn, 1) := by decide +kernel
theorem d_B_count_72 : decode (mC M_B_count) 72 = .ok (.aload_n 0, 1) := by decide +kernel
theorem d_B_count_73 : decode (mC M_B_count) 73 = .ok (.getfield 19, 3) := by decide +kernel
theorem d_B_count_76 : decode (mC M_B_count) 76 = .ok (.getfield 84, 3) := by decide +kernel
theorem d_B_count_79 : decode (mC M_B_count) 79 = .ok (.ireturn, 1) := by decide +kernel
theorem d_B_count_80 : decode (mC M_B_count) 80 = .ok (.aload_n 0, 1) := by decide +kernel
theorem d_B_count_81 : decode (mC M_B_count) 81 = .ok (.getfield 19, 3) := by decide +kernel
theorem d_B_count_84 : decode (mC M_B_count) 84 = .ok (.invokevirtual 115, 3) := by decide +kernel
theorem d_B_count_87 : decode (mC M_B_count) 87 = .ok (.ireturn, 1) := by decide +kernel
theorem d_B_count_88 : decode (mC M_B_count) 88 = .ok (.aload_n 0, 1) := by decide +kernel
theorem d_B_count_89 : decode (mC M_B_count) 89 = .ok (.getfield 19, 3) := by decide +kernel
theorem d_B_count_92 : decode (mC M_B_count) 92 = .ok (.aload_n 0, 1) := by decide +kernel
theorem d_B_count_93 : decode (mC M_B_count) 93 = .ok (.getfield 19, 3) := by decide +kernel
theorem d_B_count_96 : decode (mC M_B_count) 96 = .ok (.getfield 143, 3) := by decide +kernel
theorem d_B_count_99 : decode (mC M_B_count) 99 = .ok (.invokevirtual 210, 3) := by decide +kernel
theorem d_B_count_102 : decode (mC M_B_count) 102 = .ok (.ireturn, 1) := by decide +kernel
theorem d_B_count_103 : decode (mC M_B_count) 103 = .ok (.aload_n 0, 1) := by decide +kernel
theorem d_B_count_104 : decode (mC M_B_count) 104 = .ok (.getfield 19, 3) := by decide +kernel
theorem d_B_count_107 : decode (mC M_B_count) 107 = .ok (.aload_n 0, 1) := by decide +kernel
theorem d_B_count_108 : decode (mC M_B_count) 108 = .ok (.getfield 19, 3) := by decide +kernel
theorem d_B_count_111 : decode (mC M_B_count) 111 = .ok (.getfield 146, 3) := by decide +kernel
theorem d_B_count_114 : decode (mC M_B_count) 114 = .ok (.invokevirtual 210, 3) := by decide +kernel
theorem d_B_count_117 : decode (mC M_B_count) 117 = .ok (.ireturn, 1) := by decide +kernel
theorem d_B_count_118 : decode (mC M_B_count) 118 = .ok (.aload_n 0, 1) := by decide +kernel
theorem d_B_count_119 : decode (mC M_B_count) 119 = .ok (.getfield 19, 3) := by decide +kernel
theorem d_B_count_122 : decode (mC M_B_count) 122 = .ok (.invokevirtual 214, 3) := by decide +kernel
theorem d_B_count_125 : decode (mC M_B_count) 125 = .ok (.invokestatic 217, 3) := by decide +kernel
theorem d_B_count_128 : decode (mC M_B_count) 128 = .ok (.ireturn, 1) := by decide +kernel
theorem d_B_count_129 : decode (mC M_B_count) 129 = .ok (.aload_n 0, 1) := by decide +kernel
theorem d_B_count_130 : decode (mC M_B_count) 130 = .ok (.getfield 19, 3) := by decide +kernel
theorem d_B_count_133 : decode (mC M_B_count) 133 = .ok (.invokevirtual 222, 3) := by decide +kernel
theorem d_B_count_136 : decode (mC M_B_count) 136 = .ok (.ireturn, 1) := by decide +kernel
theorem d_B_count_137 : decode (mC M_B_count) 137 = .ok (.aload_n 0, 1) := by decide +kernel
theorem d_B_count_138 : decode (mC M_B_count) 138 = .ok (.getfield 19, 3) := by decide +kernel
theorem d_B_count_141 : decode (mC M_B_count) 141 = .ok (.invokevirtual 225, 3) := by decide +kernel
theorem d_B_count_144 : decode (mC M_B_count) 144 = .ok (.ireturn, 1) := by decide +kernel
theorem d_B_count_145 : decode (mC M_B_count) 145 = .ok (.aload_n 0, 1) := by decide +kernel
theorem d_B_count_146 : decode (mC M_B_count) 146 = .ok (.getfield 29, 3) := by decide +kernel
theorem d_B_count_149 : decode (mC M_B_count) 149 = .ok (.getfield 130, 3) := by decide +kernel
theorem d_B_count_152 : decode (mC M_B_count) 152 = .ok (.ireturn, 1) := by decide +kernel
theorem d_B_count_153 : decode (mC M_B_count) 153 = .ok (.aload_n 0, 1) := by decide +kernel
theorem d_B_count_154 : decode (mC M_B_count) 154 = .ok (.getfield 12, 3) := by decide +kernel
theorem d_B_count_157 : decode (mC M_B_count) 157 = .ok (.getfield 69, 3) := by decide +kernel
theorem d_B_count_160 : decode (mC M_B_count) 160 = .ok (.ireturn, 1) := by decide +kernel
theorem d_B_count_161 : decode (mC M_B_count) 161 = .ok (.aload_n 0, 1) := by decide +kernel
theorem d_B_count_162 : decode (mC M_B_count) 162 = .ok (.invokevirtual 228, 3) := by decide +kernel
theorem d_B_count_165 : decode (mC M_B_count) 165 = .ok (.ireturn, 1) := by decide +kernel
theorem d_B_count_166 : decode (mC M_B_count) 166 = .ok (.aload_n 0, 1) := by decide +kernel
theorem d_B_count_167 : decode (mC M_B_count) 167 = .ok (.getfield 19, 3) := by decide +kernel
theorem d_B_count_170 : decode (mC M_B_count) 170 = .ok (.invokevirtual 222, 3) := by decide +kernel
theorem d_B_count_173 : decode (mC M_B_count) 173 = .ok (.aload_n 0, 1) := by decide +kernel
theorem d_B_count_174 : decode (mC M_B_count) 174 = .ok (.getfield 19, 3) := by decide +kernel
theorem d_B_count_177 : decode (mC M_B_count) 177 = .ok (.getfield 84, 3) := by decide +kernel
theorem d_B_count_180 : decode (mC M_B_count) 180 = .ok (.imul, 1) := by decide +kernel
theorem d_B_count_181 : decode (mC M_B_count) 181 = .ok (.aload_n 0, 1) := by decide +kernel
theorem d_B_count_182 : decode (mC M_B_count) 182 = .ok (.getfield 19, 3) := by decide +kernel
theorem d_B_count_185 : decode (mC M_B_count) 185 = .ok (.aload_n 0, 1) := by decide +kernel
theorem d_B_count_186 : decode (mC M_B_count) 186 = .ok (.getfield 19, 3) := by decide +kernel
theorem d_B_count_189 : decode (mC M_B_count) 189 = .ok (.invokevirtual 214, 3) := by decide +kernel
theorem d_B_count_192 : decode (mC M_B_count) 192 = .ok (.invokevirtual 161, 3) := by decide +kernel
theorem d_B_count_195 : decode (mC M_B_count) 195 = .ok (.isub, 1) := by decide +kernel
theorem d_B_count_196 : decode (mC M_B_count) 196 = .ok (.ireturn, 1) := by decide +kernel
theorem d_B_count_197 : decode (mC M_B_count) 197 = .ok (.iconst (-1), 1) := by decide +kernel
theorem d_B_count_198 : decode (mC M_B_count) 198 = .ok (.ireturn, 1) := by decide +kernel
def vc_B_count_197 (r : Option Value) (hf : hc_H) (J : Nat → hc_K) (lv : hc_L) (st : List Value) (h : hc_H) : Prop := (qi_push (-1) (qi_iret r hf)) lv st h
theorem sn_B_count_197 {Ph : Nat → State → Prop} {h0 hf : hc_H} {r : Option Value} : qk Ph M_B_count h0 hf r 197 (vc_B_count_197 r hf (cx Ph M_B_count h0 hf r)) := (qs_iconst d_B_count_197 (by decide) (qs_iret d_B_count_198 rfl))
def vc_B_count_166 (r : Option Value) (hf : hc_H) (J : Nat → hc_K) (lv : hc_L) (st : List Value) (h : hc_H) : Prop := (qi_aload 0 (qi_get 5 1 (qi_invV hc_tt M_P_stationsInUse 0 2 (qi_aload 0 (qi_get 5 1 (qi_get 2 1 (qi_imul (qi_aload 0 (qi_get 5 1 (qi_aload 0 (qi_get 5 1 (qi_invV hc_tt M_P_allPut 0 2 (qi_invV hc_tt M_P_timeOf 1 2 (qi_isub (qi_iret r hf))))))))))))))) lv st h
theorem sn_B_count_166 {Ph : Nat → State → Prop} {h0 hf : hc_H} {r : Option Value} : qk Ph M_B_count h0 hf r 166 (vc_B_count_166 r hf (cx Ph M_B_count h0 hf r)) := (qs_aload_n d_B_count_166 rfl (qs_get d_B_count_167 ff_B_19 (qs_invV hc_Ph_tt (fun _ _ _ => trivial) d_B_count_170 zz_P_stationsInUse wk_833 ⟨wk_834, wk_835⟩ ⟨_, rfl, rfl⟩ ⟨by decide, by decide⟩ (qs_aload_n d_B_count_173 rfl (qs_get d_B_count_174 ff_B_19 (qs_get d_B_count_177 ff_B_84 (qs_imul d_B_count_180 (qs_aload_n d_B_count_181 rfl (qs_get d_B_count_182 ff_B_19 (qs_aload_n d_B_count_185 rfl (qs_get d_B_count_186 ff_B_19 (qs_invV hc_Ph_tt (fun _ _ _ => trivial) d_B_count_189 zz_P_allPut wk_831 ⟨wk_603, wk_604⟩ ⟨_, rfl, rfl⟩ ⟨by decide, by decide⟩ (qs_invV hc_Ph_tt (fun _ _ _ => trivial) d_B_count_192 zz_P_timeOf wk_543 ⟨wk_544, wk_545⟩ ⟨_, rfl, rfl⟩ ⟨by decide, by decide⟩ (qs_isub d_B_count_195 (qs_iret d_B_count_196 rfl)))))))))))))))
def vc_B_count_161 (r : Option Value) (hf : hc_H) (J : Nat → hc_K) (lv : hc_L) (st : List Value) (h : hc_H) : Prop := (qi_aload 0 (qi_invV hc_tt M_B_idleOfBest 0 5 (qi_iret r hf))) lv st h
theorem sn_B_count_161 {Ph : Nat → State → Prop} {h0 hf : hc_H} {r : Option Value} : qk Ph M_B_count h0 hf r 161 (vc_B_count_161 r hf (cx Ph M_B_count h0 hf r)) := (qs_aload_n d_B_count_161 rfl (qs_invV hc_Ph_tt (fun _ _ _ => trivial) d_B_count_162 zz_B_idleOfBest wk_838 ⟨wk_840, wk_23⟩ ⟨_, rfl, rfl⟩ ⟨by decide, by decide⟩ (qs_iret d_B_count_165 rfl)))
def vc_B_count_153 (r : Option Value) (hf : hc_H) (J : Nat → hc_K) (lv : hc_L) (st : List Value) (h : hc_H) : Prop := (qi_aload 0 (qi_get 5 0 (qi_get 3 1 (qi_iret r hf)))) lv st h
theorem sn_B_count_153 {Ph : Nat → State → Prop} {h0 hf : hc_H} {r : Option Value} : qk Ph M_B_count h0 hf r 153 (vc_B_count_153 r hf (cx Ph M_B_count h0 hf r)) := (qs_aload_n d_B_count_153 rfl (qs_get d_B_count_154 ff_B_12 (qs_get d_B_count_157 ff_B_69 (qs_iret d_B_count_160 rfl))))
def vc_B_count_145 (r : Option Value) (hf : hc_H) (J : Nat → hc_K) (lv : hc_L) (st : List Value) (h : hc_H) : Prop := (qi_aload 0 (qi_get 5 3 (qi_get 1 1 (qi_iret r hf)))) lv st h
theorem sn_B_count_145 {Ph : Nat → State → Prop} {h0 hf : hc_H} {r : Option Value} : qk Ph M_B_count h0 hf r 145 (vc_B_count_145 r hf (cx Ph M_B_count h0 hf r)) := (qs_aload_n d_B_count_145 rfl (qs_get d_B_count_146 ff_B_29 (qs_get d_B_count_149 ff_B_130 (qs_iret d_B_count_152 rfl))))
def vc_B_count_137 (r : Option Value) (hf : hc_H) (J : Nat → hc_K) (lv : hc_L) (st : List Value) (h : hc_H) : Prop := (qi_aload 0 (qi_get 5 1 (qi_invV hc_tt M_P_total 0 2 (qi_iret r hf)))) lv st h
theorem sn_B_count_137 {Ph : Nat → State → Prop} {h0 hf : hc_H} {r : Option Value} : qk Ph M_B_count h0 hf r 137 (vc_B_count_137 r hf (cx Ph M_B_count h0 hf r)) := (qs_aload_n d_B_count_137 rfl (qs_get d_B_count_138 ff_B_19 (qs_invV hc_Ph_tt (fun _ _ _ => trivial) d_B_count_141 zz_P_total wk_837 ⟨wk_623, wk_624⟩ ⟨_, rfl, rfl⟩ ⟨by decide, by decide⟩ (qs_iret d_B_count_144 rfl))))
def vc_B_count_129 (r : Option Value) (hf : hc_H) (J : Nat → hc_K) (lv : hc_L) (st : List Value) (h : hc_H) : Prop := (qi_aload 0 (qi_get 5 1 (qi_invV hc_tt M_P_stationsInUse 0 2 (qi_iret r hf)))) lv st h
theorem sn_B_count_129 {Ph : Nat → State → Prop} {h0 hf : hc_H} {r : Option Value} : qk Ph M_B_count h0 hf r 129 (vc_B_count_129 r hf (cx Ph M_B_count h0 hf r)) := (qs_aload_n d_B_count_129 rfl (qs_get d_B_count_130 ff_B_19 (qs_invV hc_Ph_tt (fun _ _ _ => trivial) d_B_count_133 zz_P_stationsInUse wk_833 ⟨wk_834, wk_835⟩ ⟨_, rfl, rfl⟩ ⟨by decide, by decide⟩ (qs_iret d_B_count_136 rfl))))
def vc_B_count_118 (r : Option Value) (hf : hc_H) (J : Nat → hc_K) (lv : hc_L) (st : List Value) (h : hc_H) : Prop := (qi_aload 0 (qi_get 5 1 (qi_invV hc_tt M_P_allPut 0 2 (qi_invS hc_tt M_J_bitCount 1 (qi_iret r hf))))) lv st h
theorem sn_B_count_118 {Ph : Nat → State → Prop} {h0 hf : hc_H} {r : Option Value} : qk Ph M_B_count h0 hf r 118 (vc_B_count_118 r hf (cx Ph M_B_count h0 hf r)) := (qs_aload_n d_B_count_118 rfl (qs_get d_B_count_119 ff_B_19 (qs_invV hc_Ph_tt (fun _ _ _ => trivial) d_B_count_122 zz_P_allPut wk_831 ⟨wk_603, wk_604⟩ ⟨_, rfl, rfl⟩ ⟨by decide, by decide⟩ (qs_invS hc_Ph_tt (fun _ _ _ => trivial) d_B_count_125 zz_J_bitCount wk_832 wk_503 ⟨by decide, by decide⟩ (qs_iret d_B_count_128 rfl)))))
def vc_B_count_103 (r : Option Value) (hf : hc_H) (J : Nat → hc_K) (lv : hc_L) (st : List Value) (h : hc_H) : Prop := (qi_aload 0 (qi_get 5 1 (qi_aload 0 (qi_get 5 1 (qi_get 2 5 (qi_invV hc_tt M_P_pairs 1 2 (qi_iret r hf))))))) lv st h
theorem sn_B_count_103 {Ph : Nat → State → Prop} {h0 hf : hc_H} {r : Option Value} : qk Ph M_B_count h0 hf r 103 (vc_B_count_103 r hf (cx Ph M_B_count h0 hf r)) := (qs_aload_n d_B_count_103 rfl (qs_get d_B_count_104 ff_B_19 (qs_aload_n d_B_count_107 rfl (qs_get d_B_count_108 ff_B_19 (qs_get d_B_count_111 ff_B_146 (qs_invV hc_Ph_tt (fun _ _ _ => trivial) d_B_count_114 zz_P_pairs wk_827 ⟨wk_828, wk_829⟩ ⟨_, rfl, rfl⟩ ⟨by decide, by decide⟩ (qs_iret d_B_count_117 rfl)))))))
def vc_B_count_88 (r : Option Value) (hf : hc_H) (J : Nat → hc_K) (lv : hc_L) (st : List Value) (h : hc_H) : Prop := (qi_aload 0 (qi_get 5 1 (qi_aload 0 (qi_get 5 1 (qi_get 2 4 (qi_invV hc_tt M_P_pairs 1 2 (qi_iret r hf))))))) lv st h
theorem sn_B_count_88 {Ph : Nat → State → Prop} {h0 hf : hc_H} {r : Option Value} : qk Ph M_B_count h0 hf r 88 (vc_B_count_88 r hf (cx Ph M_B_count h0 hf r)) := (qs_aload_n d_B_count_88 rfl (qs_get d_B_count_89 ff_B_19 (qs_aload_n d_B_count_92 rfl (qs_get d_B_count_93 ff_B_19 (qs_get d_B_count_96 ff_B_143 (qs_invV hc_Ph_tt (fun _ _ _ => trivial) d_B_count_99 zz_P_pairs wk_827 ⟨wk_828, wk_829⟩ ⟨_, rfl, rfl⟩ ⟨by decide, by decide⟩ (qs_iret d_B_count_102 rfl)))))))
def vc_B_count_80 (r : Option Value) (hf : hc_H) (J : Nat → hc_K) (lv : hc_L) (st : List Value) (h : hc_H) : Prop := (qi_aload 0 (qi_get 5 1 (qi_invV hc_tt M_P_orders 0 2 (qi_iret r hf)))) lv st h
theorem sn_B_count_80 {Ph : Nat → State → Prop} {h0 hf : hc_H} {r : Option Value} : qk Ph M_B_count h0 hf r 80 (vc_B_count_80 r hf (cx Ph M_B_count h0 hf r)) := (qs_aload_n d_B_count_80 rfl (qs_get d_B_count_81 ff_B_19 (qs_invV hc_Ph_tt (fun _ _ _ => trivial) d_B_count_84 zz_P_orders wk_498 ⟨wk_499, wk_500⟩ ⟨_, rfl, rfl⟩ ⟨by decide, by decide⟩ (qs_iret d_B_count_87 rfl))))
def vc_B_count_72 (r : Option Value) (hf : hc_H) (J : Nat → hc_K) (lv : hc_L) (st : List Value) (h : hc_H) : Prop := (qi_aload 0 (qi_get 5 1 (qi_get 2 1 (qi_iret r hf)))) lv st h
theorem sn_B_count_72 {Ph : Nat → State → Prop} {h0 hf : hc_H} {r : Option Value} : qk Ph M_B_count h0 hf r 72 (vc_B_count_72 r hf (cx Ph M_B_count h0 hf r)) := (qs_aload_n d_B_count_72 rfl (qs_get d_B_count_73 ff_B_19 (qs_get d_B_count_76 ff_B_84 (qs_iret d_B_count_79 rfl))))
def vc_B_count_64 (r : Option Value) (hf : hc_H) (J : Nat → hc_K) (lv : hc_L) (st : List Value) (h : hc_H) : Prop := (qi_aload 0 (qi_get 5 1 (qi_get 2 0 (qi_iret r hf)))) lv st h
theorem sn_B_count_64 {Ph : Nat → State → Prop} {h0 hf : hc_H} {r : Option Value} : qk Ph M_B_count h0 hf r 64 (vc_B_count_64 r hf (cx Ph M_B_count h0 hf r)) := (qs_aload_n d_B_count_64 rfl (qs_get d_B_count_65 ff_B_19 (qs_get d_B_count_68 ff_B_72 (qs_iret d_B_count_71 rfl))))
def vc_B_count_0 (r : Option Value) (hf : hc_H) (J : Nat → hc_K) (lv : hc_L) (st : List Value) (h : hc_H) : Prop := (qi_iload 1 (qi_sw (vc_B_count_197 r hf J) [((nI 0), (vc_B_count_64 r hf J)), ((nI 1), (vc_B_count_72 r hf J)), ((nI 2), (vc_B_count_80 r hf J)), ((nI 3), (vc_B_count_88 r hf J)), ((nI 4), (vc_B_count_103 r hf J)), ((nI 5), (vc_B_count_118 r hf J)), ((nI 6), (vc_B_count_129 r hf J)), ((nI 7), (vc_B_count_137 r hf J)), ((nI 8), (vc_B_count_145 r hf J)), ((nI 9), (vc_B_count_153 r hf J)), ((nI 10), (vc_B_count_161 r hf J)), ((nI 11), (vc_B_count_166 r hf J))])) lv st h
theorem sn_B_count_0 {Ph : Nat → State → Prop} {h0 hf : hc_H} {r : Option Value} : qk Ph M_B_count h0 hf r 0 (vc_B_count_0 r hf (cx Ph M_B_count h0 hf r)) := (qs_iload_n d_B_count_0 rfl (qs_table (tgt := 197) d_B_count_1 rfl (by decide) ⟨by decide, ⟨64, by decide, sn_B_count_64⟩, ⟨by decide, ⟨72, by decide, sn_B_count_72⟩, ⟨by decide, ⟨80, by decide, sn_B_count_80⟩, ⟨by decide, ⟨88, by decide, sn_B_count_88⟩, ⟨by decide, ⟨103, by decide, sn_B_count_103⟩, ⟨by decide, ⟨118, by decide, sn_B_count_118⟩, ⟨by decide, ⟨129, by decide, sn_B_count_129⟩, ⟨by decide, ⟨137, by decide, sn_B_count_137⟩, ⟨by decide, ⟨145, by decide, sn_B_count_145⟩, ⟨by decide, ⟨153, by decide, sn_B_count_153⟩, ⟨by decide, ⟨161, by decide, sn_B_count_161⟩, ⟨by decide, ⟨166, by decide, sn_B_count_166⟩, trivial⟩⟩⟩⟩⟩⟩⟩⟩⟩⟩⟩⟩ (by decide) sn_B_count_197))
