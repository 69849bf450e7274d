theorem zz_P_init : hc_z M_P_init 0 := ⟨wk_96, wk_56, by decide +kernel⟩
/-! BalancedLine$Past.<init>()V -/
abbrev M_H_init : hc_M := (⟨"BalancedLine$Past", "<init>", "()V"⟩, prog_3_method_1_code, 2, none, 2, 40)
theorem d_H_init_0 : decode (mC M_H_init) 0 = .ok (.aload_n 0, 1) := by decide +kernel
theorem d_H_init_1 : decode (mC M_H_init) 1 = .ok (.invokespecial 3, 3) := by decide +kernel
theorem d_H_init_4 : decode (mC M_H_init) 4 = .ok (.aload_n 0, 1) := by decide +kernel
theorem d_H_init_5 : decode (mC M_H_init) 5 = .ok (.bipush 6, 2) := by decide +kernel
theorem d_H_init_7 : decode (mC M_H_init) 7 = .ok (.anewarray 9, 3) := by decide +kernel
theorem d_H_init_10 : decode (mC M_H_init) 10 = .ok (.putfield 11, 3) := by decide +kernel
theorem d_H_init_13 : decode (mC M_H_init) 13 = .ok (.iconst 0, 1) := by decide +kernel
theorem d_H_init_14 : decode (mC M_H_init) 14 = .ok (.istore_n 1, 1) := by decide +kernel
theorem d_H_init_15 : decode (mC M_H_init) 15 = .ok (.iload_n 1, 1) := by decide +kernel
theorem d_H_init_16 : decode (mC M_H_init) 16 = .ok (.bipush 6, 2) := by decide +kernel
theorem d_H_init_18 : decode (mC M_H_init) 18 = .ok (.if_icmp .ge 22, 3) := by decide +kernel
theorem d_H_init_21 : decode (mC M_H_init) 21 = .ok (.aload_n 0, 1) := by decide +kernel
theorem d_H_init_22 : decode (mC M_H_init) 22 = .ok (.getfield 11, 3) := by decide +kernel
theorem d_H_init_25 : decode (mC M_H_init) 25 = .ok (.iload_n 1, 1) := by decide +kernel
theorem d_H_init_26 : decode (mC M_H_init) 26 = .ok (.new 9, 3) := by decide +kernel
theorem d_H_init_29 : decode (mC M_H_init) 29 = .ok (.dup, 1) := by decide +kernel
theorem d_H_init_30 : decode (mC M_H_init) 30 = .ok (.invokespecial 17, 3) := by decide +kernel
theorem d_H_init_33 : decode (mC M_H_init) 33 = .ok (.aastore, 1) := by decide +kernel
theorem d_H_init_34 : decode (mC M_H_init) 34 = .ok (.iinc 1 1, 3) := by decide +kernel
theorem d_H_init_37 : decode (mC M_H_init) 37 = .ok (.goto (-22), 3) := by decide +kernel
theorem d_H_init_40 : decode (mC M_H_init) 40 = .ok (.return_, 1) := by decide +kernel
def vc_H_init_40 (r : Option Value) (hf : hc_H) (J : Nat → hc_K) (lv : hc_L) (st : List Value) (h : hc_H) : Prop := (qi_vret r hf) lv st h
theorem sn_H_init_40 {Ph : Nat → State → Prop} {h0 hf : hc_H} {r : Option Value} : qk Ph M_H_init h0 hf r 40 (vc_H_init_40 r hf (cx Ph M_H_init h0 hf r)) := (qs_vret d_H_init_40 rfl)
def vc_H_init_15 (r : Option Value) (hf : hc_H) (J : Nat → hc_K) (lv : hc_L) (st : List Value) (h : hc_H) : Prop := (qi_iload 1 (qi_push (nI 6) (qi_icmp_ge (vc_H_init_40 r hf J) (qi_aload 0 (qi_get 1 0 (qi_iload 1 (qi_new 2 7 [.int 0, .int 0, .null, .null, .null, .null, .null] (qi_dup (qi_invI hc_tt M_P_init 0 (qi_aast (qi_iinc 1 (nI 1) (J 15)))))))))))) lv st h
theorem sn_H_init_15 {Ph : Nat → State → Prop} {h0 hf : hc_H} {r : Option Value} : qk Ph M_H_init h0 hf r 15 (vc_H_init_15 r hf (cx Ph M_H_init h0 hf r)) := (qs_iload_n d_H_init_15 rfl (qs_bipush d_H_init_16 (by decide) (qs_icmp_ge (tgt := 40) d_H_init_18 (by decide) sn_H_init_40 (qs_aload_n d_H_init_21 rfl (qs_get d_H_init_22 ff_H_11 (qs_iload_n d_H_init_25 rfl (qs_new tyX2 d_H_init_26 rfl inG_2 tyX2_ok wk_144 wk_93 wk_56 hcd_2 (qs_dup d_H_init_29 (qs_invIN hc_Ph_tt (fun _ _ _ => trivial) d_H_init_30 zz_P_init (fun U hN => hN.2.2.1) wk_95 rfl rfl ⟨by decide, by decide⟩ (qs_aastore d_H_init_33 (qs_iinc d_H_init_34 (by decide) (by decide) (qs_goto (tgt := 15) d_H_init_37 (by decide) (fun _ _ _ h9 => h9)))))))))))))
def vc_H_init_0 (r : Option Value) (hf : hc_H) (J : Nat → hc_K) (lv : hc_L) (st : List Value) (h : hc_H) : Prop := (qi_aload 0 (qi_obj (qi_aload 0 (qi_push (nI 6) (qi_newq (qi_put 1 0 (.array (.object "BalancedLine$Plan")) (qi_push (nI 0) (qi_istore 1 (J 15))))))))) lv st h
theorem sn_H_init_0 {Ph : Nat → State → Prop} {h0 hf : hc_H} {r : Option Value} : qk Ph M_H_init h0 hf r 0 (vc_H_init_0 r hf (cx Ph M_H_init h0 hf r)) := (qs_aload_n d_H_init_0 rfl (qs_obj d_H_init_1 wk_143 wk_75 wk_obj (by decide) (by decide) (qs_aload_n d_H_init_4 rfl (qs_bipush d_H_init_5 (by decide) (qs_newq d_H_init_7 wk_144 (qs_putF d_H_init_10 ff_H_11 rfl ⟨_, _, _, rfl, rfl, rfl, by decide +kernel⟩ (qs_iconst d_H_init_13 (by decide) (qs_istore_n d_H_init_14 rfl (by decide) (fun _ _ _ h9 => h9)))))))))
/-! BalancedLine$Past.clear()V -/
abbrev M_H_clear : hc_M := (⟨"BalancedLine$Past", "clear", "()V"⟩, prog_3_method_2_code, 1, none, 0, 0)
theorem d_H_clear_0 : decode (mC M_H_clear) 0 = .ok (.aload_n 0, 1) := by decide +kernel
theorem d_H_clear_1 : decode (mC M_H_clear) 1 = .ok (.iconst 0, 1) := by decide +kernel
theorem d_H_clear_2 : decode (mC M_H_clear) 2 = .ok (.putfield 18, 3) := by decide +kernel
theorem d_H_clear_5 : decode (mC M_H_clear) 5 = .ok (.return_, 1) := by decide +kernel
def vc_H_clear_0 (r : Option Value) (hf : hc_H) (J : Nat → hc_K) (lv : hc_L) (st : List Value) (h : hc_H) : Prop := (qi_aload 0 (qi_push (nI 0) (qi_put 1 1 .int (qi_vret r hf)))) lv st h
theorem sn_H_clear_0 {Ph : Nat → State → Prop} {h0 hf : hc_H} {r : Option Value} : qk Ph M_H_clear h0 hf r 0 (vc_H_clear_0 r hf (cx Ph M_H_clear h0 hf r)) := (qs_aload_n d_H_clear_0 rfl (qs_iconst d_H_clear_1 (by decide) (qs_put d_H_clear_2 ff_H_18 ⟨_, _, _, rfl, rfl, by decide +kernel⟩ (qs_vret d_H_clear_5 rfl))))
/-! BalancedLine$Past.dropOldest()V -/
abbrev M_H_dropOldest : hc_M := (⟨"BalancedLine$Past", "dropOldest", "()V"⟩, prog_3_method_4_code, 3, none, 0, 0)
theorem d_H_dropOldest_0 : decode (mC M_H_dropOldest) 0 = .ok (.aload_n 0, 1) := by decide +kernel
theorem d_H_dropOldest_1 : decode (mC M_H_dropOldest) 1 = .ok (.getfield 11, 3) := by decide +kernel
theorem d_H_dropOldest_4 : decode (mC M_H_dropOldest) 4 = .ok (.iconst 0, 1) := by decide +kernel
theorem d_H_dropOldest_5 : decode (mC M_H_dropOldest) 5 = .ok (.aaload, 1) := by decide +kernel
theorem d_H_dropOldest_6 : decode (mC M_H_dropOldest) 6 = .ok (.astore_n 1, 1) := by decide +kernel
theorem d_H_dropOldest_7 : decode (mC M_H_dropOldest) 7 = .ok (.iconst 1, 1) := by decide +kernel
theorem d_H_dropOldest_8 : decode (mC M_H_dropOldest) 8 = .ok (.istore_n 2, 1) := by decide +kernel
theorem d_H_dropOldest_9 : decode (mC M_H_dropOldest) 9 = .ok (.iload_n 2, 1) := by decide +kernel
theorem d_H_dropOldest_10 : decode (mC M_H_dropOldest) 10 = .ok (.bipush 6, 2) := by decide +kernel
theorem d_H_dropOldest_12 : decode (mC M_H_dropOldest) 12 = .ok (.if_icmp .ge 23, 3) := by decide +kernel
theorem d_H_dropOldest_15 : decode (mC M_H_dropOldest) 15 = .ok (.aload_n 0, 1) := by decide +kernel
theorem d_H_dropOldest_16 : decode (mC M_H_dropOldest) 16 = .ok (.getfield 11, 3) := by decide +kernel
theorem d_H_dropOldest_19 : decode (mC M_H_dropOldest) 19 = .ok (.iload_n 2, 1) := by decide +kernel
theorem d_H_dropOldest_20 : decode (mC M_H_dropOldest) 20 = .ok (.iconst 1, 1) := by decide +kernel
theorem d_H_dropOldest_21 : decode (mC M_H_dropOldest) 21 = .ok (.isub, 1) := by decide +kernel
theorem d_H_dropOldest_22 : decode (mC M_H_dropOldest) 22 = .ok (.aload_n 0, 1) := by decide +kernel
theorem d_H_dropOldest_23 : decode (mC M_H_dropOldest) 23 = .ok (.getfield 11, 3) := by decide +kernel
theorem d_H_dropOldest_26 : decode (mC M_H_dropOldest) 26 = .ok (.iload_n 2, 1) := by decide +kernel
theorem d_H_dropOldest_27 : decode (mC M_H_dropOldest) 27 = .ok (.aaload, 1) := by decide +kernel
theorem d_H_dropOldest_28 : decode (mC M_H_dropOldest) 28 = .ok (.aastore, 1) := by decide +kernel
theorem d_H_dropOldest_29 : decode (mC M_H_dropOldest) 29 = .ok (.iinc 2 1, 3) := by decide +kernel
theorem d_H_dropOldest_32 : decode (mC M_H_dropOldest) 32 = .ok (.goto (-23), 3) := by decide +kernel
theorem d_H_dropOldest_35 : decode (mC M_H_dropOldest) 35 = .ok (.aload_n 0, 1) := by decide +kernel
theorem d_H_dropOldest_36 : decode (mC M_H_dropOldest) 36 = .ok (.getfield 11, 3) := by decide +kernel
theorem d_H_dropOldest_39 : decode (mC M_H_dropOldest) 39 = .ok (.iconst 5, 1) := by decide +kernel
theorem d_H_dropOldest_40 : decode (mC M_H_dropOldest) 40 = .ok (.aload_n 1, 1) := by decide +kernel
theorem d_H_dropOldest_41 : decode (mC M_H_dropOldest) 41 = .ok (.aastore, 1) := by decide +kernel
theorem d_H_dropOldest_42 : decode (mC M_H_dropOldest) 42 = .ok (.aload_n 0, 1) := by decide +kernel
theorem d_H_dropOldest_43 : decode (mC M_H_dropOldest) 43 = .ok (.iconst 5, 1) := by decide +kernel
theorem d_H_dropOldest_44 : decode (mC M_H_dropOldest) 44 = .ok (.putfield 18, 3) := by decide +kernel
theorem d_H_dropOldest_47 : decode (mC M_H_dropOldest) 47 = .ok (.return_, 1) := by decide +kernel
def vc_H_dropOldest_35 (r : Option Value) (hf : hc_H) (J : Nat → hc_K) (lv : hc_L) (st : List Value) (h : hc_H) : Prop := (qi_aload 0 (qi_get 1 0 (qi_push (nI 5) (qi_aload 1 (qi_aast (qi_aload 0 (qi_push (nI 5) (qi_put 1 1 .int (qi_vret r hf))))))))) lv st h
theorem sn_H_dropOldest_35 {Ph : Nat → State → Prop} {h0 hf : hc_H} {r : Option Value} : qk Ph M_H_dropOldest h0 hf r 35 (vc_H_dropOldest_35 r hf (cx Ph M_H_dropOldest h0 hf r)) := (qs_aload_n d_H_dropOldest_35 rfl (qs_get d_H_dropOldest_36 ff_H_11 (qs_iconst d_H_dropOldest_39 (by decide) (qs_aload_n d_H_dropOldest_40 rfl (qs_aastore d_H_dropOldest_41 (qs_aload_n d_H_dropOldest_42 rfl (qs_iconst d_H_dropOldest_43 (by decide) (qs_put d_H_dropOldest_44 ff_H_18 ⟨_, _, _, rfl, rfl, by decide +kernel⟩ (qs_vret d_H_dropOldest_47 rfl)))))))))
def vc_H_dropOldest_9 (r : Option Value) (hf : hc_H) (J : Nat → hc_K) (lv : hc_L) (st : List Value) (h : hc_H) : Prop := (qi_iload 2 (qi_push (nI 6) (qi_icmp_ge (vc_H_dropOldest_35 r hf J) (qi_aload 0 (qi_get 1 0 (qi_iload 2 (qi_push (nI 1) (qi_isub (qi_aload 0 (qi_get 1 0 (qi_iload 2 (qi_aald (qi_aast (qi_iinc 2 (nI 1) (J 9))))))))))))))) lv st h
theorem sn_H_dropOldest_9 {Ph : Nat → State → Prop} {h0 hf : hc_H} {r : Option Value} : qk Ph M_H_dropOldest h0 hf r 9 (vc_H_dropOldest_9 r hf (cx Ph M_H_dropOldest h0 hf r)) := (qs_iload_n d_H_dropOldest_9 rfl (qs_bipush d_H_dropOldest_10 (by decide) (qs_icmp_ge (tgt := 35) d_H_dropOldest_12 (by decide) sn_H_dropOldest_35 (qs_aload_n d_H_dropOldest_15 rfl (qs_get d_H_dropOldest_16 ff_H_11 (qs_iload_n d_H_dropOldest_19 rfl (qs_iconst d_H_dropOldest_20 (by decide) (qs_isub d_H_dropOldest_21 (qs_aload_n d_H_dropOldest_22 rfl (qs_get d_H_dropOldest_23 ff_H_11 (qs_iload_n d_H_dropOldest_26 rfl (qs_aaload d_H_dropOldest_27 (qs_aastore d_H_dropOldest_28 (qs_iinc d_H_dropOldest_29 (by decide) (by decide) (qs_goto (tgt := 9) d_H_dropOldest_32 (by decide) (fun _ _ _ h9 => h9))))))))))))))))
def vc_H_dropOldest_0 (r : Option Value) (hf : hc_H) (J : Nat → hc_K) (lv : hc_L) (st : List Value) (h : hc_H) : Prop := (qi_aload 0 (qi_get 1 0 (qi_push (nI 0) (qi_aald (qi_astore 1 (qi_push (nI 1) (qi_istore 2 (J 9)))))))) lv st h
theorem sn_H_dropOldest_0 {Ph : Nat → State → Prop} {h0 hf : hc_H} {r : Option Value} : qk Ph M_H_dropOldest h0 hf r 0 (vc_H_dropOldest_0 r hf (cx Ph M_H_dropOldest h0 hf r)) := (qs_aload_n d_H_dropOldest_0 rfl (qs_get d_H_dropOldest_1 ff_H_11 (qs_iconst d_H_dropOldest_4 (by decide) (qs_aaload d_H_dropOldest_5 (qs_astore_n d_H_dropOldest_6 rfl (by decide) (qs_iconst d_H_dropOldest_7 (by decide) (qs_istore_n d_H_dropOldest_8 rfl (by decide) (fun _ _ _ h9 => h9))))))))
theorem zz_P_copy : hc_z M_P_copy 1 := ⟨wk_438, wk_56, by decide +kernel⟩
theorem zz_H_dropOldest : hc_z M_H_dropOldest 0 := ⟨wk_461, wk_57, by decide +kernel⟩
/-! BalancedLine$Past.keep(LBalancedLine$Plan;)V -/
abbrev M_H_keep : hc_M := (⟨"BalancedLine$Past", "keep", "(LBalancedLine$Plan;)V"⟩, prog_3_method_3_code, 2, none, 2, 47)
theorem d_H_keep_0 : decode (mC M_H_keep) 0 = .ok (.aload_n 0, 1) := by decide +kernel
theorem d_H_keep_1 : decode (mC M_H_keep) 1 = .ok (.getfield 18, 3) := by decide +kernel
theorem d_H_keep_4 : decode (mC M_H_keep) 4 = .ok (.bipush 6, 2) := by decide +kernel
theorem d_H_keep_6 : decode (mC M_H_keep) 6 = .ok (.if_icmp .lt 7, 3) := by decide +kernel
theorem d_H_keep_9 : decode (mC M_H_keep) 9 = .ok (.aload_n 0, 1) := by decide +kernel
theorem d_H_keep_10 : decode (mC M_H_keep) 10 = .ok (.invokevirtual 22, 3) := by decide +kernel
theorem d_H_keep_13 : decode (mC M_H_keep) 13 = .ok (.aload_n 0, 1) := by decide +kernel
theorem d_H_keep_14 : decode (mC M_H_keep) 14 = .ok (.getfield 11, 3) := by decide +kernel
theorem d_H_keep_17 : decode (mC M_H_keep) 17 = .ok (.aload_n 0, 1) := by decide +kernel
theorem d_H_keep_18 : decode (mC M_H_keep) 18 = .ok (.getfield 18, 3) := by decide +kernel
theorem d_H_keep_21 : decode (mC M_H_keep) 21 = .ok (.aaload, 1) := by decide +kernel
theorem d_H_keep_22 : decode (mC M_H_keep) 22 = .ok (.aload_n 1, 1) := by decide +kernel
theorem d_H_keep_23 : decode (mC M_H_keep) 23 = .ok (.invokevirtual 25, 3) := by decide +kernel
theorem d_H_keep_26 : decode (mC M_H_keep) 26 = .ok (.aload_n 0, 1) := by decide +kernel
theorem d_H_keep_27 : decode (mC M_H_keep) 27 = .ok (.dup, 1) := by decide +kernel
theorem d_H_keep_28 : decode (mC M_H_keep) 28 = .ok (.getfield 18, 3) := by decide +kernel
theorem d_H_keep_31 : decode (mC M_H_keep) 31 = .ok (.iconst 1, 1) := by decide +kernel
theorem d_H_keep_32 : decode (mC M_H_keep) 32 = .ok (.iadd, 1) := by decide +kernel
theorem d_H_keep_33 : decode (mC M_H_keep) 33 = .ok (.putfield 18, 3) := by decide +kernel
theorem d_H_keep_36 : decode (mC M_H_keep) 36 = .ok (.return_, 1) := by decide +kernel
def vc_H_keep_13 (r : Option Value) (hf : hc_H) (J : Nat → hc_K) (lv : hc_L) (st : List Value) (h : hc_H) : Prop := (qi_aload 0 (qi_get 1 0 (qi_aload 0 (qi_get 1 1 (qi_aald (qi_aload 1 (qi_invV hc_tt M_P_copy 1 2 (qi_aload 0 (qi_dup (qi_get 1 1 (qi_push (nI 1) (qi_iadd (qi_put 1 1 .int (qi_vret r hf)))))))))))))) lv st h
theorem sn_H_keep_13 {Ph : Nat → State → Prop} {h0 hf : hc_H} {r : Option Value} : qk Ph M_H_keep h0 hf r 13 (vc_H_keep_13 r hf (cx Ph M_H_keep h0 hf r)) := (qs_aload_n d_H_keep_13 rfl (qs_get d_H_keep_14 ff_H_11 (qs_aload_n d_H_keep_17 rfl (qs_get d_H_keep_18 ff_H_18 (qs_aaload d_H_keep_21 (qs_aload_n d_H_keep_22 rfl (qs_invV hc_Ph_tt (fun _ _ _ => trivial) d_H_keep_23 zz_P_copy wk_462 ⟨wk_436, wk_437⟩ ⟨_, rfl, rfl⟩ ⟨by decide, by decide⟩ (qs_aload_n d_H_keep_26 rfl (qs_dup d_H_keep_27 (qs_get d_H_keep_28 ff_H_18 (qs_iconst d_H_keep_31 (by decide) (qs_iadd d_H_keep_32 (qs_put d_H_keep_33 ff_H_18 ⟨_, _, _, rfl, rfl, by decide +kernel⟩ (qs_vret d_H_keep_36 rfl))))))))))))))
def vc_H_keep_0 (r : Option Value) (hf : hc_H) (J : Nat → hc_K) (lv : hc_L) (st : List Value) (h : hc_H) : Prop := (qi_aload 0 (qi_get 1 1 (qi_push (nI 6) (qi_icmp_lt (vc_H_keep_13 r hf J) (qi_aload 0 (qi_invV hc_tt M_H_dropOldest 0 1 (vc_H_keep_13 r hf J))))))) lv st h
theorem sn_H_keep_0 {Ph : Nat → State → Prop} {h0 hf : hc_H} {r : Option Value} : qk Ph M_H_keep h0 hf r 0 (vc_H_keep_0 r hf (cx Ph M_H_keep h0 hf r)) := (qs_aload_n d_H_keep_0 rfl (qs_get d_H_keep_1 ff_H_18 (qs_bipush d_H_keep_4 (by decide) (qs_icmp_lt (tgt := 13) d_H_keep_6 (by decide) sn_H_keep_13 (qs_aload_n d_H_keep_9 rfl (qs_invV hc_Ph_tt (fun _ _ _ => trivial) d_H_keep_10 zz_H_dropOldest wk_458 ⟨wk_460, wk_7⟩ ⟨_, rfl, rfl⟩ ⟨by decide, by decide⟩ sn_H_keep_13))))))
/-! BalancedLine$Past.bringBack(LBalancedLine$Plan;)Z -/
abbrev M_H_bringBack : hc_M := (⟨"BalancedLine$Past", "bringBack", "(LBalancedLine$Plan;)Z"⟩, prog_3_method_5_code, 2, (some .boolean), 2, 47)
theorem d_H_bringBack_0 : decode (mC M_H_bringBack) 0 = .ok (.aload_n 0, 1) := by decide +kernel
theorem d_H_bringBack_1 : decode (mC M_H_bringBack) 1 = .ok (.getfield 18, 3) := by decide +kernel
theorem d_H_bringBack_4 : decode (mC M_H_bringBack) 4 = .ok (.ifCond .gt 5, 3) := by decide +kernel
theorem d_H_bringBack_7 : decode (mC M_H_bringBack) 7 = .ok (.iconst 0, 1) := by decide +kernel
theorem d_H_bringBack_8 : decode (mC M_H_bringBack) 8 = .ok (.ireturn, 1) := by decide +kernel
theorem d_H_bringBack_9 : decode (mC M_H_bringBack) 9 = .ok (.aload_n 0, 1) := by decide +kernel
theorem d_H_bringBack_10 : decode (mC M_H_bringBack) 10 = .ok (.dup, 1) := by decide +kernel
theorem d_H_bringBack_11 : decode (mC M_H_bringBack) 11 = .ok (.getfield 18, 3) := by decide +kernel
theorem d_H_bringBack_14 : decode (mC M_H_bringBack) 14 = .ok (.iconst 1, 1) := by decide +kernel
theorem d_H_bringBack_15 : decode (mC M_H_bringBack) 15 = .ok (.isub, 1) := by decide +kernel
theorem d_H_bringBack_16 : decode (mC M_H_bringBack) 16 = .ok (.putfield 18, 3) := by decide +kernel
theorem d_H_bringBack_19 : decode (mC M_H_bringBack) 19 = .ok (.aload_n 1, 1) := by decide +kernel
theorem d_H_bringBack_20 : decode (mC M_H_bringBack) 20 = .ok (.aload_n 0, 1) := by decide +kernel
theorem d_H_bringBack_21 : decode (mC M_H_bringBack) 21 = .ok (.getfield 11, 3) := by decide +kernel
theorem d_H_bringBack_24 : decode (mC M_H_bringBack) 24 = .ok (.aload_n 0, 1) := by decide +kernel
theorem d_H_bringBack_25 : decode (mC M_H_bringBack) 25 = .ok (.getfield 18, 3) := by decide +kernel
theorem d_H_bringBack_28 : decode (mC M_H_bringBack) 28 = .ok (.aaload, 1) := by decide +kernel
theorem d_H_bringBack_29 : decode (mC M_H_bringBack) 29 = .ok (.invokevirtual 25, 3) := by decide +kernel
theorem d_H_bringBack_32 : decode (mC M_H_bringBack) 32 = .ok (.iconst 1, 1) := by decide +kernel
theorem d_H_bringBack_33 : decode (mC M_H_bringBack) 33 = .ok (.ireturn, 1) := by decide +kernel
def vc_H_bringBack_9 (r : Option Value) (hf : hc_H) (J : Nat → hc_K) (lv : hc_L) (st : List Value) (h : hc_H) : Prop := (qi_aload 0 (qi_dup (qi_get 1 1 (qi_push (nI 1) (qi_isub (qi_put 1 1 .int (qi_aload 1 (qi_aload 0 (qi_get 1 0 (qi_aload 0 (qi_get 1 1 (qi_aald (qi_invV hc_tt M_P_copy 1 2 (qi_push (nI 1) (qi_zret r hf))))))))))))))) lv st h
theorem sn_H_bringBack_9 {Ph : Nat → State → Prop} {h0 hf : hc_H} {r : Option Value} : qk Ph M_H_bringBack h0 hf r 9 (vc_H_bringBack_9 r hf (cx Ph M_H_bringBack h0 hf r)) := (qs_aload_n d_H_bringBack_9 rfl (qs_dup d_H_bringBack_10 (qs_get d_H_bringBack_11 ff_H_18 (qs_iconst d_H_bringBack_14 (by decide) (qs_isub d_H_bringBack_15 (qs_put d_H_bringBack_16 ff_H_18 ⟨_, _, _, rfl, rfl, by decide +kernel⟩ (qs_aload_n d_H_bringBack_19 rfl (qs_aload_n d_H_bringBack_20 rfl (qs_get d_H_bringBack_21 ff_H_11 (qs_aload_n d_H_bringBack_24 rfl (qs_get d_H_bringBack_25 ff_H_18 (qs_aaload d_H_bringBack_28 (qs_invV hc_Ph_tt (fun _ _ _ => trivial) d_H_bringBack_29 zz_P_copy wk_462 ⟨wk_436, wk_437⟩ ⟨_, rfl, rfl⟩ ⟨by decide, by decide⟩ (qs_iconst d_H_bringBack_32 (by decide) (qs_zret d_H_bringBack_33 rfl)))))))))))))))
def vc_H_bringBack_0 (r : Option Value) (hf : hc_H) (J : Nat → hc_K) (lv : hc_L) (st : List Value) (h : hc_H) : Prop := (qi_aload 0 (qi_get 1 1 (qi_if_gt (vc_H_bringBack_9 r hf J) (qi_push (nI 0) (qi_zret r hf))))) lv st h
theorem sn_H_bringBack_0 {Ph : Nat → State → Prop} {h0 hf : hc_H} {r : Option Value} : qk Ph M_H_bringBack h0 hf r 0 (vc_H_bringBack_0 r hf (cx Ph M_H_bringBack h0 hf r)) := (qs_aload_n d_H_bringBack_0 rfl (qs_get d_H_bringBack_1 ff_H_18 (qs_if_gt (tgt := 9) d_H_bringBack_4 (by decide) sn_H_bringBack_9 (qs_iconst d_H_bringBack_7 (by decide) (qs_zret d_H_bringBack_8 rfl)))))
/-! BalancedLine$Script.<init>()V -/
abbrev M_S_init : hc_M := (⟨"BalancedLine$Script", "<init>", "()V"⟩, prog_5_method_1_code, 1, none, 1, 20)
theorem d_S_init_0 : decode (mC M_S_init) 0 = .ok (.aload_n 0, 1) := by decide +kernel
theorem d_S_init_1 : decode (mC M_S_init) 1 = .ok (.invokespecial 3, 3) := by decide +kernel
theorem d_S_init_4 : decode (mC M_S_init) 4 = .ok (.aload_n 0, 1) := by decide +kernel
theorem d_S_init_5 : decode (mC M_S_init) 5 = .ok (.sipush 200, 3) := by decide +kernel
theorem d_S_init_8 : decode (mC M_S_init) 8 = .ok (.newarray .char, 2) := by decide +kernel
theorem d_S_init_10 : decode (mC M_S_init) 10 = .ok (.putfield 9, 3) := by decide +kernel
theorem d_S_init_13 : decode (mC M_S_init) 13 = .ok (.return_, 1) := by decide +kernel
def vc_S_init_0 (r : Option Value) (hf : hc_H) (J : Nat → hc_K) (lv : hc_L) (st : List Value) (h : hc_H) : Prop := (qi_aload 0 (qi_obj (qi_aload 0 (qi_push (nI 200) (qi_newa 3 (qi_put 3 0 (.array .char) (qi_vret r hf))))))) lv st h
theorem sn_S_init_0 {Ph : Nat → State → Prop} {h0 hf : hc_H} {r : Option Value} : qk Ph M_S_init h0 hf r 0 (vc_S_init_0 r hf (cx Ph M_S_init h0 hf r)) := (qs_aload_n d_S_init_0 rfl (qs_obj d_S_init_1 wk_82 wk_75 wk_obj (by decide) (by decide) (qs_aload_n d_S_init_4 rfl (qs_sipush d_S_init_5 (by decide) (qs_new_char d_S_init_8 (qs_putF d_S_init_10 ff_S_9 rfl ⟨_, _, _, rfl, rfl, rfl, by decide +kernel⟩ (qs_vret d_S_init_13 rfl)))))))
/-! BalancedLine$Script.add(C)Z -/
abbrev M_S_add : hc_M := (⟨"BalancedLine$Script", "add", "(C)Z"⟩, prog_5_method_2_code, 2, (some .boolean), 0, 0)
theorem d_S_add_0 : decode (mC M_S_add) 0 = .ok (.aload_n 0, 1) := by decide +kernel
theorem d_S_add_1 : decode (mC M_S_add) 1 = .ok (.getfield 15, 3) := by decide +kernel
theorem d_S_add_4 : decode (mC M_S_add) 4 = .ok (.sipush 200, 3) := by decide +kernel
theorem d_S_add_7 : decode (mC M_S_add) 7 = .ok (.if_icmp .lt 5, 3) := by decide +kernel
theorem d_S_add_10 : decode (mC M_S_add) 10 = .ok (.iconst 0, 1) := by decide +kernel
theorem d_S_add_11 : decode (mC M_S_add) 11 = .ok (.ireturn, 1) := by decide +kernel
theorem d_S_add_12 : decode (mC M_S_add) 12 = .ok (.aload_n 0, 1) := by decide +kernel
theorem d_S_add_13 : decode (mC M_S_add) 13 = .ok (.getfield 9, 3) := by decide +kernel
theorem d_S_add_16 : decode (mC M_S_add) 16 = .ok (.aload_n 0, 1) := by decide +kernel
theorem d_S_add_17 : decode (mC M_S_add) 17 = .ok (.getfield 15, 3) := by decide +kernel
theorem d_S_add_20 : decode (mC M_S_add) 20 = .ok (.iload_n 1, 1) := by decide +kernel
theorem d_S_add_21 : decode (mC M_S_add) 21 = .ok (.castore, 1) := by decide +kernel
theorem d_S_add_22 : decode (mC M_S_add) 22 = .ok (.aload_n 0, 1) := by decide +kernel
theorem d_S_add_23 : decode (mC M_S_add) 23 = .ok (.dup, 1) := by decide +kernel
theorem d_S_add_24 : decode (mC M_S_add) 24 = .ok (.getfield 15, 3) := by decide +kernel
theorem d_S_add_27 : decode (mC M_S_add) 27 = .ok (.iconst 1, 1) := by decide +kernel
theorem d_S_add_28 : decode (mC M_S_add) 28 = .ok (.iadd, 1) := by decide +kernel
theorem d_S_add_29 : decode (mC M_S_add) 29 = .ok (.putfield 15, 3) := by decide +kernel
theorem d_S_add_32 : decode (mC M_S_add) 32 = .ok (.iconst 1, 1) := by decide +kernel
theorem d_S_add_33 : decode (mC M_S_add) 33 = .ok (.ireturn, 1) := by decide +kernel
def vc_S_add_12 (r : Option Value) (hf : hc_H) (J : Nat → hc_K) (lv : hc_L) (st : List Value) (h : hc_H) : Prop := (qi_aload 0 (qi_get 3 0 (qi_aload 0 (qi_get 3 1 (qi_iload 1 (qi_cast (qi_aload 0 (qi_dup (qi_get 3 1 (qi_push (nI 1) (qi_iadd (qi_put 3 1 .int (qi_push (nI 1) (qi_zret r hf)))))))))))))) lv st h
theorem sn_S_add_12 {Ph : Nat → State → Prop} {h0 hf : hc_H} {r : Option Value} : qk Ph M_S_add h0 hf r 12 (vc_S_add_12 r hf (cx Ph M_S_add h0 hf r)) := (qs_aload_n d_S_add_12 rfl (qs_get d_S_add_13 ff_S_9 (qs_aload_n d_S_add_16 rfl (qs_get d_S_add_17 ff_S_15 (qs_iload_n d_S_add_20 rfl (qs_castore d_S_add_21 (qs_aload_n d_S_add_22 rfl (qs_dup d_S_add_23 (qs_get d_S_add_24 ff_S_15 (qs_iconst d_S_add_27 (by decide) (qs_iadd d_S_add_28 (qs_put d_S_add_29 ff_S_15 ⟨_, _, _, rfl, rfl, by decide +kernel⟩ (qs_iconst d_S_add_32 (by decide) (qs_zret d_S_add_33 rfl))))))))))))))
def vc_S_add_0 (r : Option Value) (hf : hc_H) (J : Nat → hc_K) (lv : hc_L) (st : List Value) (h : hc_H) : Prop := (qi_aload 0 (qi_get 3 1 (qi_push (nI 200) (qi_icmp_lt (vc_S_add_12 r hf J) (qi_push (nI 0) (qi_zret r hf)))))) lv st h
theorem sn_S_add_0 {Ph : Nat → State → Prop} {h0 hf : hc_H} {r : Option Value} : qk Ph M_S_add h0 hf r 0 (vc_S_add_0 r hf (cx Ph M_S_add h0 hf r)) := (qs_aload_n d_S_add_0 rfl (qs_get d_S_add_1 ff_S_15 (qs_sipush d_S_add_4 (by decide) (qs_icmp_lt (tgt := 12) d_S_add_7 (by decide) sn_S_add_12 (qs_iconst d_S_add_10 (by decide) (qs_zret d_S_add_11 rfl))))))
/-! BalancedLine$Script.clear()I -/
abbrev M_S_clear : hc_M := (⟨"BalancedLine$Script", "clear", "()I"⟩, prog_5_method_3_code, 2, (some .int), 0, 0)
theorem d_S_clear_0 : decode (mC M_S_clear) 0 = .ok (.aload_n 0, 1) := by decide +kernel
theorem d_S_clear_1 : decode (mC M_S_clear) 1 = .ok (.getfield 15, 3) := by decide +kernel
theorem d_S_clear_4 : decode (mC M_S_clear) 4 = .ok (.istore_n 1, 1) := by decide +kernel
theorem d_S_clear_5 : decode (mC M_S_clear) 5 = .ok (.aload_n 0, 1) := by decide +kernel
theorem d_S_clear_6 : decode (mC M_S_clear) 6 = .ok (.iconst 0, 1) := by decide +kernel
theorem d_S_clear_7 : decode (mC M_S_clear) 7 = .ok (.putfield 15, 3) := by decide +kernel
theorem d_S_clear_10 : decode (mC M_S_clear) 10 = .ok (.iload_n 1, 1) := by decide +kernel
theorem d_S_clear_11 : decode (mC M_S_clear) 11 = .ok (.ireturn, 1) := by decide +kernel
def vc_S_clear_0 (r : Option Value) (hf : hc_H) (J : Nat → hc_K) (lv : hc_L) (st : List Value) (h : hc_H) : Prop := (qi_aload 0 (qi_get 3 1 (qi_istore 1 (qi_aload 0 (qi_push (nI 0) (qi_put 3 1 .int (qi_iload 1 (qi_iret r hf)))))))) lv st h
theorem sn_S_clear_0 {Ph : Nat → State → Prop} {h0 hf : hc_H} {r : Option Value} : qk Ph M_S_clear h0 hf r 0 (vc_S_clear_0 r hf (cx Ph M_S_clear h0 hf r)) := (qs_aload_n d_S_clear_0 rfl (qs_get d_S_clear_1 ff_S_15 (qs_istore_n d_S_clear_4 rfl (by decide) (qs_aload_n d_S_clear_5 rfl (qs_iconst d_S_clear_6 (by decide) (qs_put d_S_clear_7 ff_S_15 ⟨_, _, _, rfl, rfl, by decide +kernel⟩ (qs_iload_n d_S_clear_10 rfl (qs_iret d_S_clear_11 rfl))))))))
/-! BalancedLine$Script.endOfItem(I)I -/
abbrev M_S_endOfItem : hc_M := (⟨"BalancedLine$Script", "endOfItem", "(I)I"⟩, prog_5_method_5_code, 3, (some .int), 0, 0)
theorem d_S_endOfItem_0 : decode (mC M_S_endOfItem) 0 = .ok (.iload_n 1, 1) := by decide +kernel
theorem d_S_endOfItem_1 : decode (mC M_S_endOfItem) 1 = .ok (.istore_n 2, 1) := by decide +kernel
theorem d_S_endOfItem_2 : decode (mC M_S_endOfItem) 2 = .ok (.iload_n 2, 1) := by decide +kernel
theorem d_S_endOfItem_3 : decode (mC M_S_endOfItem) 3 = .ok (.aload_n 0, 1) := by decide +kernel
theorem d_S_endOfItem_4 : decode (mC M_S_endOfItem) 4 = .ok (.getfield 15, 3) := by decide +kernel
theorem d_S_endOfItem_7 : decode (mC M_S_endOfItem) 7 = .ok (.if_icmp .ge 20, 3) := by decide +kernel
theorem d_S_endOfItem_10 : decode (mC M_S_endOfItem) 10 = .ok (.aload_n 0, 1) := by decide +kernel
theorem d_S_endOfItem_11 : decode (mC M_S_endOfItem) 11 = .ok (.getfield 9, 3) := by decide +kernel
theorem d_S_endOfItem_14 : decode (mC M_S_endOfItem) 14 = .ok (.iload_n 2, 1) := by decide +kernel
theorem d_S_endOfItem_15 : decode (mC M_S_endOfItem) 15 = .ok (.caload, 1) := by decide +kernel
theorem d_S_endOfItem_16 : decode (mC M_S_endOfItem) 16 = .ok (.bipush 59, 2) := by decide +kernel
theorem d_S_endOfItem_18 : decode (mC M_S_endOfItem) 18 = .ok (.if_icmp .eq 9, 3) := by decide +kernel
theorem d_S_endOfItem_21 : decode (mC M_S_endOfItem) 21 = .ok (.iinc 2 1, 3) := by decide +kernel
theorem d_S_endOfItem_24 : decode (mC M_S_endOfItem) 24 = .ok (.goto (-22), 3) := by decide +kernel
theorem d_S_endOfItem_27 : decode (mC M_S_endOfItem) 27 = .ok (.iload_n 2, 1) := by decide +kernel
theorem d_S_endOfItem_28 : decode (mC M_S_endOfItem) 28 = .ok (.ireturn, 1) := by decide +kernel
def vc_S_endOfItem_27 (r : Option Value) (hf : hc_H) (J : Nat → hc_K) (lv : hc_L) (st : List Value) (h : hc_H) : Prop := (qi_iload 2 (qi_iret r hf)) lv st h
theorem sn_S_endOfItem_27 {Ph : Nat → State → Prop} {h0 hf : hc_H} {r : Option Value} : qk Ph M_S_endOfItem h0 hf r 27 (vc_S_endOfItem_27 r hf (cx Ph M_S_endOfItem h0 hf r)) := (qs_iload_n d_S_endOfItem_27 rfl (qs_iret d_S_endOfItem_28 rfl))
def vc_S_endOfItem_2 (r : Option Value) (hf : hc_H) (J : Nat → hc_K) (lv : hc_L) (st : List Value) (h : hc_H) : Prop := (qi_iload 2 (qi_aload 0 (qi_get 3 1 (qi_icmp_ge (vc_S_endOfItem_27 r hf J) (qi_aload 0 (qi_get 3 0 (qi_iload 2 (qi_iald 3 (qi_push (nI 59) (qi_icmp_eq (vc_S_endOfItem_27 r hf J) (qi_iinc 2 (nI 1) (J 2)))))))))))) lv st h
theorem sn_S_endOfItem_2 {Ph : Nat → State → Prop} {h0 hf : hc_H} {r : Option Value} : qk Ph M_S_endOfItem h0 hf r 2 (vc_S_endOfItem_2 r hf (cx Ph M_S_endOfItem h0 hf r)) := (qs_iload_n d_S_endOfItem_2 rfl (qs_aload_n d_S_endOfItem_3 rfl (qs_get d_S_endOfItem_4 ff_S_15 (qs_icmp_ge (tgt := 27) d_S_endOfItem_7 (by decide) sn_S_endOfItem_27 (qs_aload_n d_S_endOfItem_10 rfl (qs_get d_S_endOfItem_11 ff_S_9 (qs_iload_n d_S_endOfItem_14 rfl (qs_caload d_S_endOfItem_15 (qs_bipush d_S_endOfItem_16 (by decide) (qs_icmp_eq (tgt := 27) d_S_endOfItem_18 (by decide) sn_S_endOfItem_27 (qs_iinc d_S_endOfItem_21 (by decide) (by decide) (qs_goto (tgt := 2) d_S_endOfItem_24 (by decide) (fun _ _ _ h9 => h9)))))))))))))
def vc_S_endOfItem_0 (r : Option Value) (hf : hc_H) (J : Nat → hc_K) (lv : hc_L) (st : List Value) (h : hc_H) : Prop := (qi_iload 1 (qi_istore 2 (J 2))) lv st h
theorem sn_S_endOfItem_0 {Ph : Nat → State → Prop} {h0 hf : hc_H} {r : Option Value} : qk Ph M_S_endOfItem h0 hf r 0 (vc_S_endOfItem_0 r hf (cx Ph M_S_endOfItem h0 hf r)) := (qs_iload_n d_S_endOfItem_0 rfl (qs_istore_n d_S_endOfItem_1 rfl (by decide) (fun _ _ _ h9 => h9)))
/-! BalancedLine.isWithin(III)Z -/
abbrev M_B_isWithin : hc_M := (⟨"BalancedLine", "isWithin", "(III)Z"⟩, prog_1_method_33_code, 3, (some .boolean), 0, 0)
theorem d_B_isWithin_0 : decode (mC M_B_isWithin) 0 = .ok (.iload_n 0, 1) := by decide +kernel
theorem d_B_isWithin_1 : decode (mC M_B_isWithin) 1 = .ok (.iload_n 1, 1) := by decide +kernel
theorem d_B_isWithin_2 : decode (mC M_B_isWithin) 2 = .ok (.if_icmp .lt 12, 3) := by decide +kernel
theorem d_B_isWithin_5 : decode (mC M_B_isWithin) 5 = .ok (.iload_n 0, 1) := by decide +kernel
theorem d_B_isWithin_6 : decode (mC M_B_isWithin) 6 = .ok (.iload_n 2, 1) := by decide +kernel
theorem d_B_isWithin_7 : decode (mC M_B_isWithin) 7 = .ok (.if_icmp .gt 7, 3) := by decide +kernel
theorem d_B_isWithin_10 : decode (mC M_B_isWithin) 10 = .ok (.iconst 1, 1) := by decide +kernel
theorem d_B_isWithin_11 : decode (mC M_B_isWithin) 11 = .ok (.goto 4, 3) := by decide +kernel
theorem d_B_isWithin_14 : decode (mC M_B_isWithin) 14 = .ok (.iconst 0, 1) := by decide +kernel
theorem d_B_isWithin_15 : decode (mC M_B_isWithin) 15 = .ok (.ireturn, 1) := by decide +kernel
def vc_B_isWithin_15 (r : Option Value) (hf : hc_H) (J : Nat → hc_K) (lv : hc_L) (st : List Value) (h : hc_H) : Prop := (qi_zret r hf) lv st h
theorem sn_B_isWithin_15 {Ph : Nat → State → Prop} {h0 hf : hc_H} {r : Option Value} : qk Ph M_B_isWithin h0 hf r 15 (vc_B_isWithin_15 r hf (cx Ph M_B_isWithin h0 hf r)) := (qs_zret d_B_isWithin_15 rfl)
def vc_B_isWithin_14 (r : Option Value) (hf : hc_H) (J : Nat → hc_K) (lv : hc_L) (st : List Value) (h : hc_H) : Prop := (qi_push (nI 0) (vc_B_isWithin_15 r hf J)) lv st h
theorem sn_B_isWithin_14 {Ph : Nat → State → Prop} {h0 hf : hc_H} {r : Option Value} : qk Ph M_B_isWithin h0 hf r 14 (vc_B_isWithin_14 r hf (cx Ph M_B_isWithin h0 hf r)) := (qs_iconst d_B_isWithin_14 (by decide) sn_B_isWithin_15)
def vc_B_isWithin_0 (r : Option Value) (hf : hc_H) (J : Nat → hc_K) (lv : hc_L) (st : List Value) (h : hc_H) : Prop := (qi_iload 0 (qi_iload 1 (qi_icmp_lt (vc_B_isWithin_14 r hf J) (qi_iload 0 (qi_iload 2 (qi_icmp_gt (vc_B_isWithin_14 r hf J) (qi_push (nI 1) (vc_B_isWithin_15 r hf J)))))))) lv st h
theorem sn_B_isWithin_0 {Ph : Nat → State → Prop} {h0 hf : hc_H} {r : Option Value} : qk Ph M_B_isWithin h0 hf r 0 (vc_B_isWithin_0 r hf (cx Ph M_B_isWithin h0 hf r)) := (qs_iload_n d_B_isWithin_0 rfl (qs_iload_n d_B_isWithin_1 rfl (qs_icmp_lt (tgt := 14) d_B_isWithin_2 (by decide) sn_B_isWithin_14 (qs_iload_n d_B_isWithin_5 rfl (qs_iload_n d_B_isWithin_6 rfl (qs_icmp_gt (tgt := 14) d_B_isWithin_7 (by decide) sn_B_isWithin_14 (qs_iconst d_B_isWithin_10 (by decide) (qs_goto (tgt := 15) d_B_isWithin_11 (by decide) sn_B_isWithin_15))))))))
theorem zz_B_isWithin : hc_z M_B_isWithin 3 := ⟨wk_237, wk_54, by decide +kernel⟩
/-! BalancedLine$Script.figures(III)I -/
abbrev M_S_figures : hc_M := (⟨"BalancedLine$Script", "figures", "(III)I"⟩, prog_5_method_9_code, 6, (some .int), 1, 22)
theorem d_S_figures_0 : decode (mC M_S_figures) 0 = .ok (.iload_n 2, 1) := by decide +kernel
theorem d_S_figures_1 : decode (mC M_S_figures) 1 = .ok (.iload_n 1, 1) := by decide +kernel
theorem d_S_figures_2 : decode (mC M_S_figures) 2 = .ok (.isub, 1) := by decide +kernel
theorem d_S_figures_3 : decode (mC M_S_figures) 3 = .ok (.iconst 1, 1) := by decide +kernel
theorem d_S_figures_4 : decode (mC M_S_figures) 4 = .ok (.iload_n 3, 1) := by decide +kernel
theorem d_S_figures_5 : decode (mC M_S_figures) 5 = .ok (.invokestatic 49, 3) := by decide +kernel
theorem d_S_figures_8 : decode (mC M_S_figures) 8 = .ok (.ifCond .ne 5, 3) := by decide +kernel
theorem d_S_figures_11 : decode (mC M_S_figures) 11 = .ok (.iconst (-1), 1) := by decide +kernel
theorem d_S_figures_12 : decode (mC M_S_figures) 12 = .ok (.ireturn, 1) := by decide +kernel
theorem d_S_figures_13 : decode (mC M_S_figures) 13 = .ok (.iconst 0, 1) := by decide +kernel
theorem d_S_figures_14 : decode (mC M_S_figures) 14 = .ok (.istore 4, 2) := by decide +kernel
theorem d_S_figures_16 : decode (mC M_S_figures) 16 = .ok (.iload_n 1, 1) := by decide +kernel
theorem d_S_figures_17 : decode (mC M_S_figures) 17 = .ok (.istore 5, 2) := by decide +kernel
theorem d_S_figures_19 : decode (mC M_S_figures) 19 = .ok (.iload 5, 2) := by decide +kernel
theorem d_S_figures_21 : decode (mC M_S_figures) 21 = .ok (.iload_n 2, 1) := by decide +kernel
theorem d_S_figures_22 : decode (mC M_S_figures) 22 = .ok (.if_icmp .ge 46, 3) := by decide +kernel
theorem d_S_figures_25 : decode (mC M_S_figures) 25 = .ok (.aload_n 0, 1) := by decide +kernel
theorem d_S_figures_26 : decode (mC M_S_figures) 26 = .ok (.getfield 9, 3) := by decide +kernel
theorem d_S_figures_29 : decode (mC M_S_figures) 29 = .ok (.iload 5, 2) := by decide +kernel
theorem d_S_figures_31 : decode (mC M_S_figures) 31 = .ok (.caload, 1) := by decide +kernel
theorem d_S_figures_32 : decode (mC M_S_figures) 32 = .ok (.bipush 48, 2) := by decide +kernel
theorem d_S_figures_34 : decode (mC M_S_figures) 34 = .ok (.bipush 57, 2) := by decide +kernel
theorem d_S_figures_36 : decode (mC M_S_figures) 36 = .ok (.invokestatic 49, 3) := by decide +kernel
theorem d_S_figures_39 : decode (mC M_S_figures) 39 = .ok (.ifCond .ne 5, 3) := by decide +kernel
theorem d_S_figures_42 : decode (mC M_S_figures) 42 = .ok (.iconst (-1), 1) := by decide +kernel
theorem d_S_figures_43 : decode (mC M_S_figures) 43 = .ok (.ireturn, 1) := by decide +kernel
theorem d_S_figures_44 : decode (mC M_S_figures) 44 = .ok (.iload 4, 2) := by decide +kernel
theorem d_S_figures_46 : decode (mC M_S_figures) 46 = .ok (.bipush 10, 2) := by decide +kernel
theorem d_S_figures_48 : decode (mC M_S_figures) 48 = .ok (.imul, 1) := by decide +kernel
theorem d_S_figures_49 : decode (mC M_S_figures) 49 = .ok (.aload_n 0, 1) := by decide +kernel
theorem d_S_figures_50 : decode (mC M_S_figures) 50 = .ok (.getfield 9, 3) := by decide +kernel
theorem d_S_figures_53 : decode (mC M_S_figures) 53 = .ok (.iload 5, 2) := by decide +kernel
theorem d_S_figures_55 : decode (mC M_S_figures) 55 = .ok (.caload, 1) := by decide +kernel
theorem d_S_figures_56 : decode (mC M_S_figures) 56 = .ok (.iadd, 1) := by decide +kernel
theorem d_S_figures_57 : decode (mC M_S_figures) 57 = .ok (.bipush 48, 2) := by decide +kernel
theorem d_S_figures_59 : decode (mC M_S_figures) 59 = .ok (.isub, 1) := by decide +kernel
theorem d_S_figures_60 : decode (mC M_S_figures) 60 = .ok (.istore 4, 2) := by decide +kernel
theorem d_S_figures_62 : decode (mC M_S_figures) 62 = .ok (.iinc 5 1, 3) := by decide +kernel
theorem d_S_figures_65 : decode (mC M_S_figures) 65 = .ok (.goto (-46), 3) := by decide +kernel
theorem d_S_figures_68 : decode (mC M_S_figures) 68 = .ok (.iload 4, 2) := by decide +kernel
theorem d_S_figures_70 : decode (mC M_S_figures) 70 = .ok (.ireturn, 1) := by decide +kernel
def vc_S_figures_68 (r : Option Value) (hf : hc_H) (J : Nat → hc_K) (lv : hc_L) (st : List Value) (h : hc_H) : Prop := (qi_iload 4 (qi_iret r hf)) lv st h
theorem sn_S_figures_68 {Ph : Nat → State → Prop} {h0 hf : hc_H} {r : Option Value} : qk Ph M_S_figures h0 hf r 68 (vc_S_figures_68 r hf (cx Ph M_S_figures h0 hf r)) := (qs_iload d_S_figures_68 (qs_iret d_S_figures_70 rfl))
def vc_S_figures_44 (r : Option Value) (hf : hc_H) (J : Nat → hc_K) (lv : hc_L) (st : List Value) (h : hc_H) : Prop := (qi_iload 4 (qi_push (nI 10) (qi_imul (qi_aload 0 (qi_get 3 0 (qi_iload 5 (qi_iald 3 (qi_iadd (qi_push (nI 48) (qi_isub (qi_istore 4 (qi_iinc 5 (nI 1) (J 19))))))))))))) lv st h
theorem sn_S_figures_44 {Ph : Nat → State → Prop} {h0 hf : hc_H} {r : Option Value} : qk Ph M_S_figures h0 hf r 44 (vc_S_figures_44 r hf (cx Ph M_S_figures h0 hf r)) := (qs_iload d_S_figures_44 (qs_bipush d_S_figures_46 (by decide) (qs_imul d_S_figures_48 (qs_aload_n d_S_figures_49 rfl (qs_get d_S_figures_50 ff_S_9 (qs_iload d_S_figures_53 (qs_caload d_S_figures_55 (qs_iadd d_S_figures_56 (qs_bipush d_S_figures_57 (by decide) (qs_isub d_S_figures_59 (qs_istore d_S_figures_60 (by decide) (qs_iinc d_S_figures_62 (by decide) (by decide) (qs_goto (tgt := 19) d_S_figures_65 (by decide) (fun _ _ _ h9 => h9))))))))))))))
def vc_S_figures_19 (r : Option Value) (hf : hc_H) (J : Nat → hc_K) (lv : hc_L) (st : List Value) (h : hc_H) : Prop := (qi_iload 5 (qi_iload 2 (qi_icmp_ge (vc_S_figures_68 r hf J) (qi_aload 0 (qi_get 3 0 (qi_iload 5 (qi_iald 3 (qi_push (nI 48) (qi_push (nI 57) (qi_invS hc_tt M_B_isWithin 3 (qi_if_ne (vc_S_figures_44 r hf J) (qi_push (-1) (qi_iret r hf))))))))))))) lv st h
theorem sn_S_figures_19 {Ph : Nat → State → Prop} {h0 hf : hc_H} {r : Option Value} : qk Ph M_S_figures h0 hf r 19 (vc_S_figures_19 r hf (cx Ph M_S_figures h0 hf r)) := (qs_iload d_S_figures_19 (qs_iload_n d_S_figures_21 rfl (qs_icmp_ge (tgt := 68) d_S_figures_22 (by decide) sn_S_figures_68 (qs_aload_n d_S_figures_25 rfl (qs_get d_S_figures_26 ff_S_9 (qs_iload d_S_figures_29 (qs_caload d_S_figures_31 (qs_bipush d_S_figures_32 (by decide) (qs_bipush d_S_figures_34 (by decide) (qs_invSN hc_Ph_tt (fun _ _ _ => trivial) d_S_figures_36 zz_B_isWithin (fun U hN => hN.2.2.2.1) wk_236 ⟨by decide, by decide⟩ (qs_if_ne (tgt := 44) d_S_figures_39 (by decide) sn_S_figures_44 (qs_iconst d_S_figures_42 (by decide) (qs_iret d_S_figures_43 rfl)))))))))))))
def vc_S_figures_13 (r : Option Value) (hf : hc_H) (J : Nat → hc_K) (lv : hc_L) (st : List Value) (h : hc_H) : Prop := (qi_push (nI 0) (qi_istore 4 (qi_iload 1 (qi_istore 5 (J 19))))) lv st h
theorem sn_S_figures_13 {Ph : Nat → State → Prop} {h0 hf : hc_H} {r : Option Value} : qk Ph M_S_figures h0 hf r 13 (vc_S_figures_13 r hf (cx Ph M_S_figures h0 hf r)) := (qs_iconst d_S_figures_13 (by decide) (qs_istore d_S_figures_14 (by decide) (qs_iload_n d_S_figures_16 rfl (qs_istore d_S_figures_17 (by decide) (fun _ _ _ h9 => h9)))))
def vc_S_figures_0 (r : Option Value) (hf : hc_H) (J : Nat → hc_K) (lv : hc_L) (st : List Value) (h : hc_H) : Prop := (qi_iload 2 (qi_iload 1 (qi_isub (qi_push (nI 1) (qi_iload 3 (qi_invS hc_tt M_B_isWithin 3 (qi_if_ne (vc_S_figures_13 r hf J) (qi_push (-1) (qi_iret r hf))))))))) lv st h
theorem sn_S_figures_0 {Ph : Nat → State → Prop} {h0 hf : hc_H} {r : Option Value} : qk Ph M_S_figures h0 hf r 0 (vc_S_figures_0 r hf (cx Ph M_S_figures h0 hf r)) := (qs_iload_n d_S_figures_0 rfl (qs_iload_n d_S_figures_1 rfl (qs_isub d_S_figures_2 (qs_iconst d_S_figures_3 (by decide) (qs_iload_n d_S_figures_4 rfl (qs_invSN hc_Ph_tt (fun _ _ _ => trivial) d_S_figures_5 zz_B_isWithin (fun U hN => hN.2.2.2.1) wk_236 ⟨by decide, by decide⟩ (qs_if_ne (tgt := 13) d_S_figures_8 (by decide) sn_S_figures_13 (qs_iconst d_S_figures_11 (by decide) (qs_iret d_S_figures_12 rfl)))))))))
theorem zz_S_figures : hc_z M_S_figures 3 := ⟨wk_234, wk_55, by decide +kernel⟩
/-! BalancedLine$Script.takeCycle(ILBalancedLine$Plan;)Z -/
abbrev M_S_takeCycle : hc_M := (⟨"BalancedLine$Script", "takeCycle", "(ILBalancedLine$Plan;)Z"⟩, prog_5_method_7_code, 3, (some .boolean), 2, 47)
theorem d_S_takeCycle_0 : decode (mC M_S_takeCycle) 0 = .ok (.aload_n 2, 1) := by decide +kernel
theorem d_S_takeCycle_1 : decode (mC M_S_takeCycle) 1 = .ok (.aload_n 0, 1) := by decide +kernel
theorem d_S_takeCycle_2 : decode (mC M_S_takeCycle) 2 = .ok (.iconst 1, 1) := by decide +kernel
theorem d_S_takeCycle_3 : decode (mC M_S_takeCycle) 3 = .ok (.iload_n 1, 1) := by decide +kernel
theorem d_S_takeCycle_4 : decode (mC M_S_takeCycle) 4 = .ok (.iconst 3, 1) := by decide +kernel
theorem d_S_takeCycle_5 : decode (mC M_S_takeCycle) 5 = .ok (.invokevirtual 42, 3) := by decide +kernel
theorem d_S_takeCycle_8 : decode (mC M_S_takeCycle) 8 = .ok (.putfield 46, 3) := by decide +kernel
theorem d_S_takeCycle_11 : decode (mC M_S_takeCycle) 11 = .ok (.aload_n 2, 1) := by decide +kernel
theorem d_S_takeCycle_12 : decode (mC M_S_takeCycle) 12 = .ok (.getfield 46, 3) := by decide +kernel
theorem d_S_takeCycle_15 : decode (mC M_S_takeCycle) 15 = .ok (.iconst 1, 1) := by decide +kernel
theorem d_S_takeCycle_16 : decode (mC M_S_takeCycle) 16 = .ok (.bipush 120, 2) := by decide +kernel
theorem d_S_takeCycle_18 : decode (mC M_S_takeCycle) 18 = .ok (.invokestatic 49, 3) := by decide +kernel
theorem d_S_takeCycle_21 : decode (mC M_S_takeCycle) 21 = .ok (.ireturn, 1) := by decide +kernel
def vc_S_takeCycle_0 (r : Option Value) (hf : hc_H) (J : Nat → hc_K) (lv : hc_L) (st : List Value) (h : hc_H) : Prop := (qi_aload 2 (qi_aload 0 (qi_push (nI 1) (qi_iload 1 (qi_push (nI 3) (qi_invV hc_tt M_S_figures 3 3 (qi_put 2 1 .int (qi_aload 2 (qi_get 2 1 (qi_push (nI 1) (qi_push (nI 120) (qi_invS hc_tt M_B_isWithin 3 (qi_zret r hf))))))))))))) lv st h
theorem sn_S_takeCycle_0 {Ph : Nat → State → Prop} {h0 hf : hc_H} {r : Option Value} : qk Ph M_S_takeCycle h0 hf r 0 (vc_S_takeCycle_0 r hf (cx Ph M_S_takeCycle h0 hf r)) := (qs_aload_n d_S_takeCycle_0 rfl (qs_aload_n d_S_takeCycle_1 rfl (qs_iconst d_S_takeCycle_2 (by decide) (qs_iload_n d_S_takeCycle_3 rfl (qs_iconst d_S_takeCycle_4 (by decide) (qs_invV hc_Ph_tt (fun _ _ _ => trivial) d_S_takeCycle_5 zz_S_figures wk_231 ⟨wk_233, wk_3⟩ ⟨_, rfl, rfl⟩ ⟨by decide, by decide⟩ (qs_put d_S_takeCycle_8 ff_S_46 ⟨_, _, _, rfl, rfl, by decide +kernel⟩ (qs_aload_n d_S_takeCycle_11 rfl (qs_get d_S_takeCycle_12 ff_S_46 (qs_iconst d_S_takeCycle_15 (by decide) (qs_bipush d_S_takeCycle_16 (by decide) (qs_invSN hc_Ph_tt (fun _ _ _ => trivial) d_S_takeCycle_18 zz_B_isWithin (fun U hN => hN.2.2.2.1) wk_236 ⟨by decide, by decide⟩ (qs_zret d_S_takeCycle_21 rfl)))))))))))))
theorem zz_P_addTask : hc_z M_P_addTask 1 := ⟨wk_245, wk_56, by decide +kernel⟩
/-! BalancedLine$Script.takeTask(IILBalancedLine$Plan;)Z -/
abbrev M_S_takeTask : hc_M := (⟨"BalancedLine$Script", "takeTask", "(IILBalancedLine$Plan;)Z"⟩, prog_5_method_8_code, 5, (some .boolean), 2, 47)
theorem d_S_takeTask_0 : decode (mC M_S_takeTask) 0 = .ok (.aload_n 0, 1) := by decide +kernel
theorem d_S_takeTask_1 : decode (mC M_S_takeTask) 1 = .ok (.iload_n 1, 1) := by decide +kernel
theorem d_S_takeTask_2 : decode (mC M_S_takeTask) 2 = .ok (.iconst 1, 1) := by decide +kernel
theorem d_S_takeTask_3 : decode (mC M_S_takeTask) 3 = .ok (.iadd, 1) := by decide +kernel
theorem d_S_takeTask_4 : decode (mC M_S_takeTask) 4 = .ok (.iload_n 2, 1) := by decide +kernel
theorem d_S_takeTask_5 : decode (mC M_S_takeTask) 5 = .ok (.iconst 2, 1) := by decide +kernel
theorem d_S_takeTask_6 : decode (mC M_S_takeTask) 6 = .ok (.invokevirtual 42, 3) := by decide +kernel
theorem d_S_takeTask_9 : decode (mC M_S_takeTask) 9 = .ok (.istore 4, 2) := by decide +kernel
theorem d_S_takeTask_11 : decode (mC M_S_takeTask) 11 = .ok (.iload 4, 2) := by decide +kernel
theorem d_S_takeTask_13 : decode (mC M_S_takeTask) 13 = .ok (.iconst 1, 1) := by decide +kernel
theorem d_S_takeTask_14 : decode (mC M_S_takeTask) 14 = .ok (.bipush 60, 2) := by decide +kernel
theorem d_S_takeTask_16 : decode (mC M_S_takeTask) 16 = .ok (.invokestatic 49, 3) := by decide +kernel
theorem d_S_takeTask_19 : decode (mC M_S_takeTask) 19 = .ok (.ifCond .eq 16, 3) := by decide +kernel
theorem d_S_takeTask_22 : decode (mC M_S_takeTask) 22 = .ok (.aload_n 3, 1) := by decide +kernel
theorem d_S_takeTask_23 : decode (mC M_S_takeTask) 23 = .ok (.iload 4, 2) := by decide +kernel
theorem d_S_takeTask_25 : decode (mC M_S_takeTask) 25 = .ok (.invokevirtual 53, 3) := by decide +kernel
theorem d_S_takeTask_28 : decode (mC M_S_takeTask) 28 = .ok (.ifCond .eq 7, 3) := by decide +kernel
theorem d_S_takeTask_31 : decode (mC M_S_takeTask) 31 = .ok (.iconst 1, 1) := by decide +kernel
theorem d_S_takeTask_32 : decode (mC M_S_takeTask) 32 = .ok (.goto 4, 3) := by decide +kernel
theorem d_S_takeTask_35 : decode (mC M_S_takeTask) 35 = .ok (.iconst 0, 1) := by decide +kernel
theorem d_S_takeTask_36 : decode (mC M_S_takeTask) 36 = .ok (.ireturn, 1) := by decide +kernel
def vc_S_takeTask_36 (r : Option Value) (hf : hc_H) (J : Nat → hc_K) (lv : hc_L) (st : List Value) (h : hc_H) : Prop := (qi_zret r hf) lv st h
theorem sn_S_takeTask_36 {Ph : Nat → State → Prop} {h0 hf : hc_H} {r : Option Value} : qk Ph M_S_takeTask h0 hf r 36 (vc_S_takeTask_36 r hf (cx Ph M_S_takeTask h0 hf r)) := (qs_zret d_S_takeTask_36 rfl)
def vc_S_takeTask_35 (r : Option Value) (hf : hc_H) (J : Nat → hc_K) (lv : hc_L) (st : List Value) (h : hc_H) : Prop := (qi_push (nI 0) (vc_S_takeTask_36 r hf J)) lv st h
theorem sn_S_takeTask_35 {Ph : Nat → State → Prop} {h0 hf : hc_H} {r : Option Value} : qk Ph M_S_takeTask h0 hf r 35 (vc_S_takeTask_35 r hf (cx Ph M_S_takeTask h0 hf r)) := (qs_iconst d_S_takeTask_35 (by decide) sn_S_takeTask_36)
def vc_S_takeTask_0 (r : Option Value) (hf : hc_H) (J : Nat → hc_K) (lv : hc_L) (st : List Value) (h : hc_H) : Prop := (qi_aload 0 (qi_iload 1 (qi_push (nI 1) (qi_iadd (qi_iload 2 (qi_push (nI 2) (qi_invV hc_tt M_S_figures 3 3 (qi_istore 4 (qi_iload 4 (qi_push (nI 1) (qi_push (nI 60) (qi_invS hc_tt M_B_isWithin 3 (qi_if_eq (vc_S_takeTask_35 r hf J) (qi_aload 3 (qi_iload 4 (qi_invV hc_tt M_P_addTask 1 2 (qi_if_eq (vc_S_takeTask_35 r hf J) (qi_push (nI 1) (vc_S_takeTask_36 r hf J))))))))))))))))))) lv st h
theorem sn_S_takeTask_0 {Ph : Nat → State → Prop} {h0 hf : hc_H} {r : Option Value} : qk Ph M_S_takeTask h0 hf r 0 (vc_S_takeTask_0 r hf (cx Ph M_S_takeTask h0 hf r)) := (qs_aload_n d_S_takeTask_0 rfl (qs_iload_n d_S_takeTask_1 rfl (qs_iconst d_S_takeTask_2 (by decide) (qs_iadd d_S_takeTask_3 (qs_iload_n d_S_takeTask_4 rfl (qs_iconst d_S_takeTask_5 (by decide) (qs_invV hc_Ph_tt (fun _ _ _ => trivial) d_S_takeTask_6 zz_S_figures wk_231 ⟨wk_233, wk_3⟩ ⟨_, rfl, rfl⟩ ⟨by decide, by decide⟩ (qs_istore d_S_takeTask_9 (by decide) (qs_iload d_S_takeTask_11 (qs_iconst d_S_takeTask_13 (by decide) (qs_bipush d_S_takeTask_14 (by decide) (qs_invSN hc_Ph_tt (fun _ _ _ => trivial) d_S_takeTask_16 zz_B_isWithin (fun U hN => hN.2.2.2.1) wk_236 ⟨by decide, by decide⟩ (qs_if_eq (tgt := 35) d_S_takeTask_19 (by decide) sn_S_takeTask_35 (qs_aload_n d_S_takeTask_22 rfl (qs_iload d_S_takeTask_23 (qs_invV hc_Ph_tt (fun _ _ _ => trivial) d_S_takeTask_25 zz_P_addTask wk_242 ⟨wk_243, wk_244⟩ ⟨_, rfl, rfl⟩ ⟨by decide, by decide⟩ (qs_if_eq (tgt := 35) d_S_takeTask_28 (by decide) sn_S_takeTask_35 (qs_iconst d_S_takeTask_31 (by decide) (qs_goto (tgt := 36) d_S_takeTask_32 (by decide) sn_S_takeTask_36)))))))))))))))))))
theorem zz_P_setOrder : hc_z M_P_setOrder 3 := ⟨wk_277, wk_56, by decide +kernel⟩
theorem zz_P_wouldGoRound : hc_z M_P_wouldGoRound 2 := ⟨wk_269, wk_56, by decide +kernel⟩
/-! BalancedLine$Script.takeOrder(IILBalancedLine$Plan;)Z -/
abbrev M_S_takeOrder : hc_M := (⟨"BalancedLine$Script", "takeOrder", "(IILBalancedLine$Plan;)Z"⟩, prog_5_method_11_code, 4, (some .boolean), 2, 46)
theorem d_S_takeOrder_0 : decode (mC M_S_takeOrder) 0 = .ok (.aload_n 3, 1) := by decide +kernel
theorem d_S_takeOrder_1 : decode (mC M_S_takeOrder) 1 = .ok (.iload_n 2, 1) := by decide +kernel
theorem d_S_takeOrder_2 : decode (mC M_S_takeOrder) 2 = .ok (.iload_n 1, 1) := by decide +kernel
theorem d_S_takeOrder_3 : decode (mC M_S_takeOrder) 3 = .ok (.invokevirtual 72, 3) := by decide +kernel
theorem d_S_takeOrder_6 : decode (mC M_S_takeOrder) 6 = .ok (.ifCond .ne 12, 3) := by decide +kernel
theorem d_S_takeOrder_9 : decode (mC M_S_takeOrder) 9 = .ok (.aload_n 3, 1) := by decide +kernel
theorem d_S_takeOrder_10 : decode (mC M_S_takeOrder) 10 = .ok (.iload_n 1, 1) := by decide +kernel
theorem d_S_takeOrder_11 : decode (mC M_S_takeOrder) 11 = .ok (.iload_n 2, 1) := by decide +kernel
theorem d_S_takeOrder_12 : decode (mC M_S_takeOrder) 12 = .ok (.invokevirtual 75, 3) := by decide +kernel
theorem d_S_takeOrder_15 : decode (mC M_S_takeOrder) 15 = .ok (.ifCond .eq 5, 3) := by decide +kernel
theorem d_S_takeOrder_18 : decode (mC M_S_takeOrder) 18 = .ok (.iconst 0, 1) := by decide +kernel
theorem d_S_takeOrder_19 : decode (mC M_S_takeOrder) 19 = .ok (.ireturn, 1) := by decide +kernel
theorem d_S_takeOrder_20 : decode (mC M_S_takeOrder) 20 = .ok (.aload_n 3, 1) := by decide +kernel
theorem d_S_takeOrder_21 : decode (mC M_S_takeOrder) 21 = .ok (.iload_n 1, 1) := by decide +kernel
theorem d_S_takeOrder_22 : decode (mC M_S_takeOrder) 22 = .ok (.iload_n 2, 1) := by decide +kernel
theorem d_S_takeOrder_23 : decode (mC M_S_takeOrder) 23 = .ok (.iconst 1, 1) := by decide +kernel
theorem d_S_takeOrder_24 : decode (mC M_S_takeOrder) 24 = .ok (.invokevirtual 78, 3) := by decide +kernel
theorem d_S_takeOrder_27 : decode (mC M_S_takeOrder) 27 = .ok (.iconst 1, 1) := by decide +kernel
theorem d_S_takeOrder_28 : decode (mC M_S_takeOrder) 28 = .ok (.ireturn, 1) := by decide +kernel
def vc_S_takeOrder_20 (r : Option Value) (hf : hc_H) (J : Nat → hc_K) (lv : hc_L) (st : List Value) (h : hc_H) : Prop := (qi_aload 3 (qi_iload 1 (qi_iload 2 (qi_push (nI 1) (qi_invV hc_tt M_P_setOrder 3 2 (qi_push (nI 1) (qi_zret r hf))))))) lv st h
theorem sn_S_takeOrder_20 {Ph : Nat → State → Prop} {h0 hf : hc_H} {r : Option Value} : qk Ph M_S_takeOrder h0 hf r 20 (vc_S_takeOrder_20 r hf (cx Ph M_S_takeOrder h0 hf r)) := (qs_aload_n d_S_takeOrder_20 rfl (qs_iload_n d_S_takeOrder_21 rfl (qs_iload_n d_S_takeOrder_22 rfl (qs_iconst d_S_takeOrder_23 (by decide) (qs_invV hc_Ph_tt (fun _ _ _ => trivial) d_S_takeOrder_24 zz_P_setOrder wk_274 ⟨wk_275, wk_276⟩ ⟨_, rfl, rfl⟩ ⟨by decide, by decide⟩ (qs_iconst d_S_takeOrder_27 (by decide) (qs_zret d_S_takeOrder_28 rfl)))))))
def vc_S_takeOrder_18 (r : Option Value) (hf : hc_H) (J : Nat → hc_K) (lv : hc_L) (st : List Value) (h : hc_H) : Prop := (qi_push (nI 0) (qi_zret r hf)) lv st h
theorem sn_S_takeOrder_18 {Ph : Nat → State → Prop} {h0 hf : hc_H} {r : Option Value} : qk Ph M_S_takeOrder h0 hf r 18 (vc_S_takeOrder_18 r hf (cx Ph M_S_takeOrder h0 hf r)) := (qs_iconst d_S_takeOrder_18 (by decide) (qs_zret d_S_takeOrder_19 rfl))
def vc_S_takeOrder_0 (r : Option Value) (hf : hc_H) (J : Nat → hc_K) (lv : hc_L) (st : List Value) (h : hc_H) : Prop := (qi_aload 3 (qi_iload 2 (qi_iload 1 (qi_invV hc_tt M_P_isBehind 2 2 (qi_if_ne (vc_S_takeOrder_18 r hf J) (qi_aload 3 (qi_iload 1 (qi_iload 2 (qi_invV hc_tt M_P_wouldGoRound 2 2 (qi_if_eq (vc_S_takeOrder_20 r hf J) (vc_S_takeOrder_18 r hf J))))))))))) lv st h
theorem sn_S_takeOrder_0 {Ph : Nat → State → Prop} {h0 hf : hc_H} {r : Option Value} : qk Ph M_S_takeOrder h0 hf r 0 (vc_S_takeOrder_0 r hf (cx Ph M_S_takeOrder h0 hf r)) := (qs_aload_n d_S_takeOrder_0 rfl (qs_iload_n d_S_takeOrder_1 rfl (qs_iload_n d_S_takeOrder_2 rfl (qs_invV hc_Ph_tt (fun _ _ _ => trivial) d_S_takeOrder_3 zz_P_isBehind wk_262 ⟨wk_263, wk_264⟩ ⟨_, rfl, rfl⟩ ⟨by decide, by decide⟩ (qs_if_ne (tgt := 18) d_S_takeOrder_6 (by decide) sn_S_takeOrder_18 (qs_aload_n d_S_takeOrder_9 rfl (qs_iload_n d_S_takeOrder_10 rfl (qs_iload_n d_S_takeOrder_11 rfl (qs_invV hc_Ph_tt (fun _ _ _ => trivial) d_S_takeOrder_12 zz_P_wouldGoRound wk_266 ⟨wk_267, wk_268⟩ ⟨_, rfl, rfl⟩ ⟨by decide, by decide⟩ (qs_if_eq (tgt := 20) d_S_takeOrder_15 (by decide) sn_S_takeOrder_20 sn_S_takeOrder_18))))))))))
theorem zz_P_setZone : hc_z M_P_setZone 3 := ⟨wk_285, wk_56, by decide +kernel⟩
theorem zz_S_takeOrder : hc_z M_S_takeOrder 3 := ⟨wk_261, wk_55, by decide +kernel⟩
theorem zz_P_hasPair : hc_z M_P_hasPair 2 := ⟨wk_253, wk_56, by decide +kernel⟩
/-! BalancedLine$Script.takePair(ILBalancedLine$Plan;)Z -/
abbrev M_S_takePair : hc_M := (⟨"BalancedLine$Script", "takePair", "(ILBalancedLine$Plan;)Z"⟩, prog_5_method_10_code, 5, (some .boolean), 3, 69)
theorem d_S_takePair_0 : decode (mC M_S_takePair) 0 = .ok (.aload_n 0, 1) := by decide +kernel
theorem d_S_takePair_1 : decode (mC M_S_takePair) 1 = .ok (.getfield 9, 3) := by decide +kernel
theorem d_S_takePair_4 : decode (mC M_S_takePair) 4 = .ok (.iload_n 1, 1) := by decide +kernel
theorem d_S_takePair_5 : decode (mC M_S_takePair) 5 = .ok (.iconst 1, 1) := by decide +kernel
theorem d_S_takePair_6 : decode (mC M_S_takePair) 6 = .ok (.iadd, 1) := by decide +kernel
theorem d_S_takePair_7 : decode (mC M_S_takePair) 7 = .ok (.caload, 1) := by decide +kernel
theorem d_S_takePair_8 : decode (mC M_S_takePair) 8 = .ok (.bipush 97, 2) := by decide +kernel
theorem d_S_takePair_10 : decode (mC M_S_takePair) 10 = .ok (.isub, 1) := by decide +kernel
theorem d_S_takePair_11 : decode (mC M_S_takePair) 11 = .ok (.istore_n 3, 1) := by decide +kernel
theorem d_S_takePair_12 : decode (mC M_S_takePair) 12 = .ok (.aload_n 0, 1) := by decide +kernel
theorem d_S_takePair_13 : decode (mC M_S_takePair) 13 = .ok (.getfield 9, 3) := by decide +kernel
theorem d_S_takePair_16 : decode (mC M_S_takePair) 16 = .ok (.iload_n 1, 1) := by decide +kernel
theorem d_S_takePair_17 : decode (mC M_S_takePair) 17 = .ok (.iconst 2, 1) := by decide +kernel
theorem d_S_takePair_18 : decode (mC M_S_takePair) 18 = .ok (.iadd, 1) := by decide +kernel
theorem d_S_takePair_19 : decode (mC M_S_takePair) 19 = .ok (.caload, 1) := by decide +kernel
theorem d_S_takePair_20 : decode (mC M_S_takePair) 20 = .ok (.bipush 97, 2) := by decide +kernel
theorem d_S_takePair_22 : decode (mC M_S_takePair) 22 = .ok (.isub, 1) := by decide +kernel
theorem d_S_takePair_23 : decode (mC M_S_takePair) 23 = .ok (.istore 4, 2) := by decide +kernel
theorem d_S_takePair_25 : decode (mC M_S_takePair) 25 = .ok (.aload_n 2, 1) := by decide +kernel
theorem d_S_takePair_26 : decode (mC M_S_takePair) 26 = .ok (.iload_n 3, 1) := by decide +kernel
theorem d_S_takePair_27 : decode (mC M_S_takePair) 27 = .ok (.iload 4, 2) := by decide +kernel
theorem d_S_takePair_29 : decode (mC M_S_takePair) 29 = .ok (.invokevirtual 57, 3) := by decide +kernel
theorem d_S_takePair_32 : decode (mC M_S_takePair) 32 = .ok (.ifCond .ne 5, 3) := by decide +kernel
theorem d_S_takePair_35 : decode (mC M_S_takePair) 35 = .ok (.iconst 0, 1) := by decide +kernel
theorem d_S_takePair_36 : decode (mC M_S_takePair) 36 = .ok (.ireturn, 1) := by decide +kernel
theorem d_S_takePair_37 : decode (mC M_S_takePair) 37 = .ok (.aload_n 0, 1) := by decide +kernel
theorem d_S_takePair_38 : decode (mC M_S_takePair) 38 = .ok (.getfield 9, 3) := by decide +kernel
theorem d_S_takePair_41 : decode (mC M_S_takePair) 41 = .ok (.iload_n 1, 1) := by decide +kernel
theorem d_S_takePair_42 : decode (mC M_S_takePair) 42 = .ok (.caload, 1) := by decide +kernel
theorem d_S_takePair_43 : decode (mC M_S_takePair) 43 = .ok (.bipush 112, 2) := by decide +kernel
theorem d_S_takePair_45 : decode (mC M_S_takePair) 45 = .ok (.if_icmp .ne 12, 3) := by decide +kernel
theorem d_S_takePair_48 : decode (mC M_S_takePair) 48 = .ok (.aload_n 0, 1) := by decide +kernel
theorem d_S_takePair_49 : decode (mC M_S_takePair) 49 = .ok (.iload_n 3, 1) := by decide +kernel
theorem d_S_takePair_50 : decode (mC M_S_takePair) 50 = .ok (.iload 4, 2) := by decide +kernel
theorem d_S_takePair_52 : decode (mC M_S_takePair) 52 = .ok (.aload_n 2, 1) := by decide +kernel
theorem d_S_takePair_53 : decode (mC M_S_takePair) 53 = .ok (.invokevirtual 61, 3) := by decide +kernel
theorem d_S_takePair_56 : decode (mC M_S_takePair) 56 = .ok (.ireturn, 1) := by decide +kernel
theorem d_S_takePair_57 : decode (mC M_S_takePair) 57 = .ok (.aload_n 2, 1) := by decide +kernel
theorem d_S_takePair_58 : decode (mC M_S_takePair) 58 = .ok (.iload_n 3, 1) := by decide +kernel
theorem d_S_takePair_59 : decode (mC M_S_takePair) 59 = .ok (.iload 4, 2) := by decide +kernel
theorem d_S_takePair_61 : decode (mC M_S_takePair) 61 = .ok (.invokevirtual 64, 3) := by decide +kernel
theorem d_S_takePair_64 : decode (mC M_S_takePair) 64 = .ok (.ifCond .eq 5, 3) := by decide +kernel
theorem d_S_takePair_67 : decode (mC M_S_takePair) 67 = .ok (.iconst 0, 1) := by decide +kernel
theorem d_S_takePair_68 : decode (mC M_S_takePair) 68 = .ok (.ireturn, 1) := by decide +kernel
theorem d_S_takePair_69 : decode (mC M_S_takePair) 69 = .ok (.aload_n 2, 1) := by decide +kernel
theorem d_S_takePair_70 : decode (mC M_S_takePair) 70 = .ok (.iload_n 3, 1) := by decide +kernel
theorem d_S_takePair_71 : decode (mC M_S_takePair) 71 = .ok (.iload 4, 2) := by decide +kernel
theorem d_S_takePair_73 : decode (mC M_S_takePair) 73 = .ok (.aload_n 0, 1) := by decide +kernel
theorem d_S_takePair_74 : decode (mC M_S_takePair) 74 = .ok (.getfield 9, 3) := by decide +kernel
theorem d_S_takePair_77 : decode (mC M_S_takePair) 77 = .ok (.iload_n 1, 1) := by decide +kernel
theorem d_S_takePair_78 : decode (mC M_S_takePair) 78 = .ok (.caload, 1) := by decide +kernel
theorem d_S_takePair_79 : decode (mC M_S_takePair) 79 = .ok (.bipush 120, 2) := by decide +kernel
theorem d_S_takePair_81 : decode (mC M_S_takePair) 81 = .ok (.if_icmp .ne 7, 3) := by decide +kernel
theorem d_S_takePair_84 : decode (mC M_S_takePair) 84 = .ok (.iconst 1, 1) := by decide +kernel
theorem d_S_takePair_85 : decode (mC M_S_takePair) 85 = .ok (.goto 4, 3) := by decide +kernel
theorem d_S_takePair_88 : decode (mC M_S_takePair) 88 = .ok (.iconst 2, 1) := by decide +kernel
theorem d_S_takePair_89 : decode (mC M_S_takePair) 89 = .ok (.invokevirtual 68, 3) := by decide +kernel
theorem d_S_takePair_92 : decode (mC M_S_takePair) 92 = .ok (.iconst 1, 1) := by decide +kernel
theorem d_S_takePair_93 : decode (mC M_S_takePair) 93 = .ok (.ireturn, 1) := by decide +kernel
def vc_S_takePair_89 (r : Option Value) (hf : hc_H) (J : Nat → hc_K) (lv : hc_L) (st : List Value) (h : hc_H) : Prop := (qi_invV hc_tt M_P_setZone 3 2 (qi_push (nI 1) (qi_zret r hf))) lv st h
theorem sn_S_takePair_89 {Ph : Nat → State → Prop} {h0 hf : hc_H} {r : Option Value} : qk Ph M_S_takePair h0 hf r 89 (vc_S_takePair_89 r hf (cx Ph M_S_takePair h0 hf r)) := (qs_invV hc_Ph_tt (fun _ _ _ => trivial) d_S_takePair_89 zz_P_setZone wk_282 ⟨wk_283, wk_284⟩ ⟨_, rfl, rfl⟩ ⟨by decide, by decide⟩ (qs_iconst d_S_takePair_92 (by decide) (qs_zret d_S_takePair_93 rfl)))
def vc_S_takePair_88 (r : Option Value) (hf : hc_H) (J : Nat → hc_K) (lv : hc_L) (st : List Value) (h : hc_H) : Prop := (qi_push (nI 2) (vc_S_takePair_89 r hf J)) lv st h
theorem sn_S_takePair_88 {Ph : Nat → State → Prop} {h0 hf : hc_H} {r : Option Value} : qk Ph M_S_takePair h0 hf r 88 (vc_S_takePair_88 r hf (cx Ph M_S_takePair h0 hf r)) := (qs_iconst d_S_takePair_88 (by decide) sn_S_takePair_89)
def vc_S_takePair_69 (r : Option Value) (hf : hc_H) (J : Nat → hc_K) (lv : hc_L) (st : List Value) (h : hc_H) : Prop := (qi_aload 2 (qi_iload 3 (qi_iload 4 (qi_aload 0 (qi_get 3 0 (qi_iload 1 (qi_iald 3 (qi_push (nI 120) (qi_icmp_ne (vc_S_takePair_88 r hf J) (qi_push (nI 1) (vc_S_takePair_89 r hf J))))))))))) lv st h
theorem sn_S_takePair_69 {Ph : Nat → State → Prop} {h0 hf : hc_H} {r : Option Value} : qk Ph M_S_takePair h0 hf r 69 (vc_S_takePair_69 r hf (cx Ph M_S_takePair h0 hf r)) := (qs_aload_n d_S_takePair_69 rfl (qs_iload_n d_S_takePair_70 rfl (qs_iload d_S_takePair_71 (qs_aload_n d_S_takePair_73 rfl (qs_get d_S_takePair_74 ff_S_9 (qs_iload_n d_S_takePair_77 rfl (qs_caload d_S_takePair_78 (qs_bipush d_S_takePair_79 (by decide) (qs_icmp_ne (tgt := 88) d_S_takePair_81 (by decide) sn_S_takePair_88 (qs_iconst d_S_takePair_84 (by decide) (qs_goto (tgt := 89) d_S_takePair_85 (by decide) sn_S_takePair_89)))))))))))
def vc_S_takePair_57 (r : Option Value) (hf : hc_H) (J : Nat → hc_K) (lv : hc_L) (st : List Value) (h : hc_H) : Prop := (qi_aload 2 (qi_iload 3 (qi_iload 4 (qi_invV hc_tt M_P_zoneOf 2 2 (qi_if_eq (vc_S_takePair_69 r hf J) (qi_push (nI 0) (qi_zret r hf))))))) lv st h
theorem sn_S_takePair_57 {Ph : Nat → State → Prop} {h0 hf : hc_H} {r : Option Value} : qk Ph M_S_takePair h0 hf r 57 (vc_S_takePair_57 r hf (cx Ph M_S_takePair h0 hf r)) := (qs_aload_n d_S_takePair_57 rfl (qs_iload_n d_S_takePair_58 rfl (qs_iload d_S_takePair_59 (qs_invV hc_Ph_tt (fun _ _ _ => trivial) d_S_takePair_61 zz_P_zoneOf wk_278 ⟨wk_279, wk_280⟩ ⟨_, rfl, rfl⟩ ⟨by decide, by decide⟩ (qs_if_eq (tgt := 69) d_S_takePair_64 (by decide) sn_S_takePair_69 (qs_iconst d_S_takePair_67 (by decide) (qs_zret d_S_takePair_68 rfl)))))))
def vc_S_takePair_37 (r : Option Value) (hf : hc_H) (J : Nat → hc_K) (lv : hc_L) (st : List Value) (h : hc_H) : Prop := (qi_aload 0 (qi_get 3 0 (qi_iload 1 (qi_iald 3 (qi_push (nI 112) (qi_icmp_ne (vc_S_takePair_57 r hf J) (qi_aload 0 (qi_iload 3 (qi_iload 4 (qi_aload 2 (qi_invV hc_tt M_S_takeOrder 3 3 (qi_zret r hf)))))))))))) lv st h
theorem sn_S_takePair_37 {Ph : Nat → State → Prop} {h0 hf : hc_H} {r : Option Value} : qk Ph M_S_takePair h0 hf r 37 (vc_S_takePair_37 r hf (cx Ph M_S_takePair h0 hf r)) := (qs_aload_n d_S_takePair_37 rfl (qs_get d_S_takePair_38 ff_S_9 (qs_iload_n d_S_takePair_41 rfl (qs_caload d_S_takePair_42 (qs_bipush d_S_takePair_43 (by decide) (qs_icmp_ne (tgt := 57) d_S_takePair_45 (by decide) sn_S_takePair_57 (qs_aload_n d_S_takePair_48 rfl (qs_iload_n d_S_takePair_49 rfl (qs_iload d_S_takePair_50 (qs_aload_n d_S_takePair_52 rfl (qs_invV hc_Ph_tt (fun _ _ _ => trivial) d_S_takePair_53 zz_S_takeOrder wk_258 ⟨wk_260, wk_6⟩ ⟨_, rfl, rfl⟩ ⟨by decide, by decide⟩ (qs_zret d_S_takePair_56 rfl))))))))))))
def vc_S_takePair_0 (r : Option Value) (hf : hc_H) (J : Nat → hc_K) (lv : hc_L) (st : List Value) (h : hc_H) : Prop := (qi_aload 0 (qi_get 3 0 (qi_iload 1 (qi_push (nI 1) (qi_iadd (qi_iald 3 (qi_push (nI 97) (qi_isub (qi_istore 3 (qi_aload 0 (qi_get 3 0 (qi_iload 1 (qi_push (nI 2) (qi_iadd (qi_iald 3 (qi_push (nI 97) (qi_isub (qi_istore 4 (qi_aload 2 (qi_iload 3 (qi_iload 4 (qi_invV hc_tt M_P_hasPair 2 2 (qi_if_ne (vc_S_takePair_37 r hf J) (qi_push (nI 0) (qi_zret r hf))))))))))))))))))))))))) lv st h
theorem sn_S_takePair_0 {Ph : Nat → State → Prop} {h0 hf : hc_H} {r : Option Value} : qk Ph M_S_takePair h0 hf r 0 (vc_S_takePair_0 r hf (cx Ph M_S_takePair h0 hf r)) := (qs_aload_n d_S_takePair_0 rfl (qs_get d_S_takePair_1 ff_S_9 (qs_iload_n d_S_takePair_4 rfl (qs_iconst d_S_takePair_5 (by decide) (qs_iadd d_S_takePair_6 (qs_caload d_S_takePair_7 (qs_bipush d_S_takePair_8 (by decide) (qs_isub d_S_takePair_10 (qs_istore_n d_S_takePair_11 rfl (by decide) (qs_aload_n d_S_takePair_12 rfl (qs_get d_S_takePair_13 ff_S_9 (qs_iload_n d_S_takePair_16 rfl (qs_iconst d_S_takePair_17 (by decide) (qs_iadd d_S_takePair_18 (qs_caload d_S_takePair_19 (qs_bipush d_S_takePair_20 (by decide) (qs_isub d_S_takePair_22 (qs_istore d_S_takePair_23 (by decide) (qs_aload_n d_S_takePair_25 rfl (qs_iload_n d_S_takePair_26 rfl (qs_iload d_S_takePair_27 (qs_invV hc_Ph_tt (fun _ _ _ => trivial) d_S_takePair_29 zz_P_hasPair wk_250 ⟨wk_251, wk_252⟩ ⟨_, rfl, rfl⟩ ⟨by decide, by decide⟩ (qs_if_ne (tgt := 37) d_S_takePair_32 (by decide) sn_S_takePair_37 (qs_iconst d_S_takePair_35 (by decide) (qs_zret d_S_takePair_36 rfl)))))))))))))))))))))))))
theorem zz_S_takePair : hc_z M_S_takePair 2 := ⟨wk_249, wk_55, by decide +kernel⟩
theorem zz_S_takeTask : hc_z M_S_takeTask 3 := ⟨wk_241, wk_55, by decide +kernel⟩
theorem zz_S_takeCycle : hc_z M_S_takeCycle 2 := ⟨wk_230, wk_55, by decide +kernel⟩
/-! BalancedLine$Script.takeItem(IILBalancedLine$Plan;)Z -/
abbrev M_S_takeItem : hc_M := (⟨"BalancedLine$Script", "takeItem", "(IILBalancedLine$Plan;)Z"⟩, prog_5_method_6_code, 6, (some .boolean), 4, 93)
theorem d_S_takeItem_0 : decode (mC M_S_takeItem) 0 = .ok (.aload_n 0, 1) := by decide +kernel
theorem d_S_takeItem_1 : decode (mC M_S_takeItem) 1 = .ok (.getfield 9, 3) := by decide +kernel
theorem d_S_takeItem_4 : decode (mC M_S_takeItem) 4 = .ok (.iload_n 1, 1) := by decide +kernel
theorem d_S_takeItem_5 : decode (mC M_S_takeItem) 5 = .ok (.caload, 1) := by decide +kernel
theorem d_S_takeItem_6 : decode (mC M_S_takeItem) 6 = .ok (.istore 4, 2) := by decide +kernel
theorem d_S_takeItem_8 : decode (mC M_S_takeItem) 8 = .ok (.iload_n 1, 1) := by decide +kernel
theorem d_S_takeItem_9 : decode (mC M_S_takeItem) 9 = .ok (.ifCond .ne 25, 3) := by decide +kernel
theorem d_S_takeItem_12 : decode (mC M_S_takeItem) 12 = .ok (.iload 4, 2) := by decide +kernel
theorem d_S_takeItem_14 : decode (mC M_S_takeItem) 14 = .ok (.bipush 99, 2) := by decide +kernel
theorem d_S_takeItem_16 : decode (mC M_S_takeItem) 16 = .ok (.if_icmp .ne 16, 3) := by decide +kernel
theorem d_S_takeItem_19 : decode (mC M_S_takeItem) 19 = .ok (.aload_n 0, 1) := by decide +kernel
theorem d_S_takeItem_20 : decode (mC M_S_takeItem) 20 = .ok (.iload_n 2, 1) := by decide +kernel
theorem d_S_takeItem_21 : decode (mC M_S_takeItem) 21 = .ok (.aload_n 3, 1) := by decide +kernel
theorem d_S_takeItem_22 : decode (mC M_S_takeItem) 22 = .ok (.invokevirtual 32, 3) := by decide +kernel
theorem d_S_takeItem_25 : decode (mC M_S_takeItem) 25 = .ok (.ifCond .eq 7, 3) := by decide +kernel
theorem d_S_takeItem_28 : decode (mC M_S_takeItem) 28 = .ok (.iconst 1, 1) := by decide +kernel
theorem d_S_takeItem_29 : decode (mC M_S_takeItem) 29 = .ok (.goto 4, 3) := by decide +kernel
theorem d_S_takeItem_32 : decode (mC M_S_takeItem) 32 = .ok (.iconst 0, 1) := by decide +kernel
theorem d_S_takeItem_33 : decode (mC M_S_takeItem) 33 = .ok (.ireturn, 1) := by decide +kernel
theorem d_S_takeItem_34 : decode (mC M_S_takeItem) 34 = .ok (.iload 4, 2) := by decide +kernel
theorem d_S_takeItem_36 : decode (mC M_S_takeItem) 36 = .ok (.bipush 116, 2) := by decide +kernel
theorem d_S_takeItem_38 : decode (mC M_S_takeItem) 38 = .ok (.if_icmp .ne 11, 3) := by decide +kernel
theorem d_S_takeItem_41 : decode (mC M_S_takeItem) 41 = .ok (.aload_n 0, 1) := by decide +kernel
theorem d_S_takeItem_42 : decode (mC M_S_takeItem) 42 = .ok (.iload_n 1, 1) := by decide +kernel
theorem d_S_takeItem_43 : decode (mC M_S_takeItem) 43 = .ok (.iload_n 2, 1) := by decide +kernel
theorem d_S_takeItem_44 : decode (mC M_S_takeItem) 44 = .ok (.aload_n 3, 1) := by decide +kernel
theorem d_S_takeItem_45 : decode (mC M_S_takeItem) 45 = .ok (.invokevirtual 36, 3) := by decide +kernel
theorem d_S_takeItem_48 : decode (mC M_S_takeItem) 48 = .ok (.ireturn, 1) := by decide +kernel
theorem d_S_takeItem_49 : decode (mC M_S_takeItem) 49 = .ok (.iload 4, 2) := by decide +kernel
theorem d_S_takeItem_51 : decode (mC M_S_takeItem) 51 = .ok (.bipush 112, 2) := by decide +kernel
theorem d_S_takeItem_53 : decode (mC M_S_takeItem) 53 = .ok (.if_icmp .eq 17, 3) := by decide +kernel
theorem d_S_takeItem_56 : decode (mC M_S_takeItem) 56 = .ok (.iload 4, 2) := by decide +kernel
theorem d_S_takeItem_58 : decode (mC M_S_takeItem) 58 = .ok (.bipush 120, 2) := by decide +kernel
theorem d_S_takeItem_60 : decode (mC M_S_takeItem) 60 = .ok (.if_icmp .eq 10, 3) := by decide +kernel
theorem d_S_takeItem_63 : decode (mC M_S_takeItem) 63 = .ok (.iload 4, 2) := by decide +kernel
theorem d_S_takeItem_65 : decode (mC M_S_takeItem) 65 = .ok (.bipush 106, 2) := by decide +kernel
theorem d_S_takeItem_67 : decode (mC M_S_takeItem) 67 = .ok (.if_icmp .ne 7, 3) := by decide +kernel
theorem d_S_takeItem_70 : decode (mC M_S_takeItem) 70 = .ok (.iconst 1, 1) := by decide +kernel
theorem d_S_takeItem_71 : decode (mC M_S_takeItem) 71 = .ok (.goto 4, 3) := by decide +kernel
theorem d_S_takeItem_74 : decode (mC M_S_takeItem) 74 = .ok (.iconst 0, 1) := by decide +kernel
theorem d_S_takeItem_75 : decode (mC M_S_takeItem) 75 = .ok (.istore 5, 2) := by decide +kernel
theorem d_S_takeItem_77 : decode (mC M_S_takeItem) 77 = .ok (.iload 5, 2) := by decide +kernel
theorem d_S_takeItem_79 : decode (mC M_S_takeItem) 79 = .ok (.ifCond .eq 23, 3) := by decide +kernel
theorem d_S_takeItem_82 : decode (mC M_S_takeItem) 82 = .ok (.iload_n 2, 1) := by decide +kernel
theorem d_S_takeItem_83 : decode (mC M_S_takeItem) 83 = .ok (.iload_n 1, 1) := by decide +kernel
theorem d_S_takeItem_84 : decode (mC M_S_takeItem) 84 = .ok (.isub, 1) := by decide +kernel
theorem d_S_takeItem_85 : decode (mC M_S_takeItem) 85 = .ok (.iconst 3, 1) := by decide +kernel
theorem d_S_takeItem_86 : decode (mC M_S_takeItem) 86 = .ok (.if_icmp .ne 16, 3) := by decide +kernel
theorem d_S_takeItem_89 : decode (mC M_S_takeItem) 89 = .ok (.aload_n 0, 1) := by decide +kernel
theorem d_S_takeItem_90 : decode (mC M_S_takeItem) 90 = .ok (.iload_n 1, 1) := by decide +kernel
theorem d_S_takeItem_91 : decode (mC M_S_takeItem) 91 = .ok (.aload_n 3, 1) := by decide +kernel
theorem d_S_takeItem_92 : decode (mC M_S_takeItem) 92 = .ok (.invokevirtual 39, 3) := by decide +kernel
theorem d_S_takeItem_95 : decode (mC M_S_takeItem) 95 = .ok (.ifCond .eq 7, 3) := by decide +kernel
theorem d_S_takeItem_98 : decode (mC M_S_takeItem) 98 = .ok (.iconst 1, 1) := by decide +kernel
theorem d_S_takeItem_99 : decode (mC M_S_takeItem) 99 = .ok (.goto 4, 3) := by decide +kernel
theorem d_S_takeItem_102 : decode (mC M_S_takeItem) 102 = .ok (.iconst 0, 1) := by decide +kernel
theorem d_S_takeItem_103 : decode (mC M_S_takeItem) 103 = .ok (.ireturn, 1) := by decide +kernel
def vc_S_takeItem_103 (r : Option Value) (hf : hc_H) (J : Nat → hc_K) (lv : hc_L) (st : List Value) (h : hc_H) : Prop := (qi_zret r hf) lv st h
theorem sn_S_takeItem_103 {Ph : Nat → State → Prop} {h0 hf : hc_H} {r : Option Value} : qk Ph M_S_takeItem h0 hf r 103 (vc_S_takeItem_103 r hf (cx Ph M_S_takeItem h0 hf r)) := (qs_zret d_S_takeItem_103 rfl)
def vc_S_takeItem_102 (r : Option Value) (hf : hc_H) (J : Nat → hc_K) (lv : hc_L) (st : List Value) (h : hc_H) : Prop := (qi_push (nI 0) (vc_S_takeItem_103 r hf J)) lv st h
theorem sn_S_takeItem_102 {Ph : Nat → State → Prop} {h0 hf : hc_H} {r : Option Value} : qk Ph M_S_takeItem h0 hf r 102 (vc_S_takeItem_102 r hf (cx Ph M_S_takeItem h0 hf r)) := (qs_iconst d_S_takeItem_102 (by decide) sn_S_takeItem_103)
def vc_S_takeItem_75 (r : Option Value) (hf : hc_H) (J : Nat → hc_K) (lv : hc_L) (st : List Value) (h : hc_H) : Prop := (qi_istore 5 (qi_iload 5 (qi_if_eq (vc_S_takeItem_102 r hf J) (qi_iload 2 (qi_iload 1 (qi_isub (qi_push (nI 3) (qi_icmp_ne (vc_S_takeItem_102 r hf J) (qi_aload 0 (qi_iload 1 (qi_aload 3 (qi_invV hc_tt M_S_takePair 2 3 (qi_if_eq (vc_S_takeItem_102 r hf J) (qi_push (nI 1) (vc_S_takeItem_103 r hf J))))))))))))))) lv st h
theorem sn_S_takeItem_75 {Ph : Nat → State → Prop} {h0 hf : hc_H} {r : Option Value} : qk Ph M_S_takeItem h0 hf r 75 (vc_S_takeItem_75 r hf (cx Ph M_S_takeItem h0 hf r)) := (qs_istore d_S_takeItem_75 (by decide) (qs_iload d_S_takeItem_77 (qs_if_eq (tgt := 102) d_S_takeItem_79 (by decide) sn_S_takeItem_102 (qs_iload_n d_S_takeItem_82 rfl (qs_iload_n d_S_takeItem_83 rfl (qs_isub d_S_takeItem_84 (qs_iconst d_S_takeItem_85 (by decide) (qs_icmp_ne (tgt := 102) d_S_takeItem_86 (by decide) sn_S_takeItem_102 (qs_aload_n d_S_takeItem_89 rfl (qs_iload_n d_S_takeItem_90 rfl (qs_aload_n d_S_takeItem_91 rfl (qs_invV hc_Ph_tt (fun _ _ _ => trivial) d_S_takeItem_92 zz_S_takePair wk_246 ⟨wk_248, wk_5⟩ ⟨_, rfl, rfl⟩ ⟨by decide, by decide⟩ (qs_if_eq (tgt := 102) d_S_takeItem_95 (by decide) sn_S_takeItem_102 (qs_iconst d_S_takeItem_98 (by decide) (qs_goto (tgt := 103) d_S_takeItem_99 (by decide) sn_S_takeItem_103)))))))))))))))
def vc_S_takeItem_74 (r : Option Value) (hf : hc_H) (J : Nat → hc_K) (lv : hc_L) (st : List Value) (h : hc_H) : Prop := (qi_push (nI 0) (vc_S_takeItem_75 r hf J)) lv st h
theorem sn_S_takeItem_74 {Ph : Nat → State → Prop} {h0 hf : hc_H} {r : Option Value} : qk Ph M_S_takeItem h0 hf r 74 (vc_S_takeItem_74 r hf (cx Ph M_S_takeItem h0 hf r)) := (qs_iconst d_S_takeItem_74 (by decide) sn_S_takeItem_75)
def vc_S_takeItem_70 (r : Option Value) (hf : hc_H) (J : Nat → hc_K) (lv : hc_L) (st : List Value) (h : hc_H) : Prop := (qi_push (nI 1) (vc_S_takeItem_75 r hf J)) lv st h
theorem sn_S_takeItem_70 {Ph : Nat → State → Prop} {h0 hf : hc_H} {r : Option Value} : qk Ph M_S_takeItem h0 hf r 70 (vc_S_takeItem_70 r hf (cx Ph M_S_takeItem h0 hf r)) := (qs_iconst d_S_takeItem_70 (by decide) (qs_goto (tgt := 75) d_S_takeItem_71 (by decide) sn_S_takeItem_75))
def vc_S_takeItem_49 (r : Option Value) (hf : hc_H) (J : Nat → hc_K) (lv : hc_L) (st : List Value) (h : hc_H) : Prop := (qi_iload 4 (qi_push (nI 112) (qi_icmp_eq (vc_S_takeItem_70 r hf J) (qi_iload 4 (qi_push (nI 120) (qi_icmp_eq (vc_S_takeItem_70 r hf J) (qi_iload 4 (qi_push (nI 106) (qi_icmp_ne (vc_S_takeItem_74 r hf J) (vc_S_takeItem_70 r hf J)))))))))) lv st h
theorem sn_S_takeItem_49 {Ph : Nat → State → Prop} {h0 hf : hc_H} {r : Option Value} : qk Ph M_S_takeItem h0 hf r 49 (vc_S_takeItem_49 r hf (cx Ph M_S_takeItem h0 hf r)) := (qs_iload d_S_takeItem_49 (qs_bipush d_S_takeItem_51 (by decide) (qs_icmp_eq (tgt := 70) d_S_takeItem_53 (by decide) sn_S_takeItem_70 (qs_iload d_S_takeItem_56 (qs_bipush d_S_takeItem_58 (by decide) (qs_icmp_eq (tgt := 70) d_S_takeItem_60 (by decide) sn_S_takeItem_70 (qs_iload d_S_takeItem_63 (qs_bipush d_S_takeItem_65 (by decide) (qs_icmp_ne (tgt := 74) d_S_takeItem_67 (by decide) sn_S_takeItem_74 sn_S_takeItem_70)))))))))
def vc_S_takeItem_34 (r : Option Value) (hf : hc_H) (J : Nat → hc_K) (lv : hc_L) (st : List Value) (h : hc_H) : Prop := (qi_iload 4 (qi_push (nI 116) (qi_icmp_ne (vc_S_takeItem_49 r hf J) (qi_aload 0 (qi_iload 1 (qi_iload 2 (qi_aload 3 (qi_invV hc_tt M_S_takeTask 3 3 (qi_zret r hf))))))))) lv st h
theorem sn_S_takeItem_34 {Ph : Nat → State → Prop} {h0 hf : hc_H} {r : Option Value} : qk Ph M_S_takeItem h0 hf r 34 (vc_S_takeItem_34 r hf (cx Ph M_S_takeItem h0 hf r)) := (qs_iload d_S_takeItem_34 (qs_bipush d_S_takeItem_36 (by decide) (qs_icmp_ne (tgt := 49) d_S_takeItem_38 (by decide) sn_S_takeItem_49 (qs_aload_n d_S_takeItem_41 rfl (qs_iload_n d_S_takeItem_42 rfl (qs_iload_n d_S_takeItem_43 rfl (qs_aload_n d_S_takeItem_44 rfl (qs_invV hc_Ph_tt (fun _ _ _ => trivial) d_S_takeItem_45 zz_S_takeTask wk_238 ⟨wk_240, wk_4⟩ ⟨_, rfl, rfl⟩ ⟨by decide, by decide⟩ (qs_zret d_S_takeItem_48 rfl)))))))))
def vc_S_takeItem_33 (r : Option Value) (hf : hc_H) (J : Nat → hc_K) (lv : hc_L) (st : List Value) (h : hc_H) : Prop := (qi_zret r hf) lv st h
theorem sn_S_takeItem_33 {Ph : Nat → State → Prop} {h0 hf : hc_H} {r : Option Value} : qk Ph M_S_takeItem h0 hf r 33 (vc_S_takeItem_33 r hf (cx Ph M_S_takeItem h0 hf r)) := (qs_zret d_S_takeItem_33 rfl)
def vc_S_takeItem_32 (r : Option Value) (hf : hc_H) (J : Nat → hc_K) (lv : hc_L) (st : List Value) (h : hc_H) : Prop := (qi_push (nI 0) (vc_S_takeItem_33 r hf J)) lv st h
theorem sn_S_takeItem_32 {Ph : Nat → State → Prop} {h0 hf : hc_H} {r : Option Value} : qk Ph M_S_takeItem h0 hf r 32 (vc_S_takeItem_32 r hf (cx Ph M_S_takeItem h0 hf r)) := (qs_iconst d_S_takeItem_32 (by decide) sn_S_takeItem_33)
def vc_S_takeItem_0 (r : Option Value) (hf : hc_H) (J : Nat → hc_K) (lv : hc_L) (st : List Value) (h : hc_H) : Prop := (qi_aload 0 (qi_get 3 0 (qi_iload 1 (qi_iald 3 (qi_istore 4 (qi_iload 1 (qi_if_ne (vc_S_takeItem_34 r hf J) (qi_iload 4 (qi_push (nI 99) (qi_icmp_ne (vc_S_takeItem_32 r hf J) (qi_aload 0 (qi_iload 2 (qi_aload 3 (qi_invV hc_tt M_S_takeCycle 2 3 (qi_if_eq (vc_S_takeItem_32 r hf J) (qi_push (nI 1) (vc_S_takeItem_33 r hf J))))))))))))))))) lv st h
theorem sn_S_takeItem_0 {Ph : Nat → State → Prop} {h0 hf : hc_H} {r : Option Value} : qk Ph M_S_takeItem h0 hf r 0 (vc_S_takeItem_0 r hf (cx Ph M_S_takeItem h0 hf r)) := (qs_aload_n d_S_takeItem_0 rfl (qs_get d_S_takeItem_1 ff_S_9 (qs_iload_n d_S_takeItem_4 rfl (qs_caload d_S_takeItem_5 (qs_istore d_S_takeItem_6 (by decide) (qs_iload_n d_S_takeItem_8 rfl (qs_if_ne (tgt := 34) d_S_takeItem_9 (by decide) sn_S_takeItem_34 (qs_iload d_S_takeItem_12 (qs_bipush d_S_takeItem_14 (by decide) (qs_icmp_ne (tgt := 32) d_S_takeItem_16 (by decide) sn_S_takeItem_32 (qs_aload_n d_S_takeItem_19 rfl (qs_iload_n d_S_takeItem_20 rfl (qs_aload_n d_S_takeItem_21 rfl (qs_invV hc_Ph_tt (fun _ _ _ => trivial) d_S_takeItem_22 zz_S_takeCycle wk_227 ⟨wk_229, wk_2⟩ ⟨_, rfl, rfl⟩ ⟨by decide, by decide⟩ (qs_if_eq (tgt := 32) d_S_takeItem_25 (by decide) sn_S_takeItem_32 (qs_iconst d_S_takeItem_28 (by decide) (qs_goto (tgt := 33) d_S_takeItem_29 (by decide) sn_S_takeItem_33)))))))))))))))))
theorem zz_S_endOfItem : hc_z M_S_endOfItem 1 := ⟨wk_222, wk_55, by decide +kernel⟩
theorem zz_S_takeItem : hc_z M_S_takeItem 3 := ⟨wk_226, wk_55, by decide +kernel⟩
theorem zz_P_clear : hc_z M_P_clear 0 := ⟨wk_215, wk_56, by decide +kernel⟩
/-! BalancedLine$Script.readInto(LBalancedLine$Plan;)I -/
abbrev M_S_readInto : hc_M := (⟨"BalancedLine$Script", "readInto", "(LBalancedLine$Plan;)I"⟩, prog_5_method_4_code, 5, (some .int), 5, 118)
theorem d_S_readInto_0 : decode (mC M_S_readInto) 0 = .ok (.aload_n 1, 1) := by decide +kernel
theorem d_S_readInto_1 : decode (mC M_S_readInto) 1 = .ok (.invokevirtual 19, 3) := by decide +kernel
theorem d_S_readInto_4 : decode (mC M_S_readInto) 4 = .ok (.iconst 0, 1) := by decide +kernel
theorem d_S_readInto_5 : decode (mC M_S_readInto) 5 = .ok (.istore_n 2, 1) := by decide +kernel
theorem d_S_readInto_6 : decode (mC M_S_readInto) 6 = .ok (.iconst 0, 1) := by decide +kernel
theorem d_S_readInto_7 : decode (mC M_S_readInto) 7 = .ok (.istore_n 3, 1) := by decide +kernel
theorem d_S_readInto_8 : decode (mC M_S_readInto) 8 = .ok (.iload_n 3, 1) := by decide +kernel
theorem d_S_readInto_9 : decode (mC M_S_readInto) 9 = .ok (.sipush 200, 3) := by decide +kernel
theorem d_S_readInto_12 : decode (mC M_S_readInto) 12 = .ok (.if_icmp .ge 51, 3) := by decide +kernel
theorem d_S_readInto_15 : decode (mC M_S_readInto) 15 = .ok (.iload_n 2, 1) := by decide +kernel
theorem d_S_readInto_16 : decode (mC M_S_readInto) 16 = .ok (.aload_n 0, 1) := by decide +kernel
theorem d_S_readInto_17 : decode (mC M_S_readInto) 17 = .ok (.getfield 15, 3) := by decide +kernel
theorem d_S_readInto_20 : decode (mC M_S_readInto) 20 = .ok (.if_icmp .ge 43, 3) := by decide +kernel
theorem d_S_readInto_23 : decode (mC M_S_readInto) 23 = .ok (.aload_n 0, 1) := by decide +kernel
theorem d_S_readInto_24 : decode (mC M_S_readInto) 24 = .ok (.iload_n 2, 1) := by decide +kernel
theorem d_S_readInto_25 : decode (mC M_S_readInto) 25 = .ok (.invokevirtual 24, 3) := by decide +kernel
theorem d_S_readInto_28 : decode (mC M_S_readInto) 28 = .ok (.istore 4, 2) := by decide +kernel
theorem d_S_readInto_30 : decode (mC M_S_readInto) 30 = .ok (.iload 4, 2) := by decide +kernel
theorem d_S_readInto_32 : decode (mC M_S_readInto) 32 = .ok (.aload_n 0, 1) := by decide +kernel
theorem d_S_readInto_33 : decode (mC M_S_readInto) 33 = .ok (.getfield 15, 3) := by decide +kernel
theorem d_S_readInto_36 : decode (mC M_S_readInto) 36 = .ok (.if_icmp .ge 14, 3) := by decide +kernel
theorem d_S_readInto_39 : decode (mC M_S_readInto) 39 = .ok (.aload_n 0, 1) := by decide +kernel
theorem d_S_readInto_40 : decode (mC M_S_readInto) 40 = .ok (.iload_n 2, 1) := by decide +kernel
theorem d_S_readInto_41 : decode (mC M_S_readInto) 41 = .ok (.iload 4, 2) := by decide +kernel
theorem d_S_readInto_43 : decode (mC M_S_readInto) 43 = .ok (.aload_n 1, 1) := by decide +kernel
theorem d_S_readInto_44 : decode (mC M_S_readInto) 44 = .ok (.invokevirtual 28, 3) := by decide +kernel
theorem d_S_readInto_47 : decode (mC M_S_readInto) 47 = .ok (.ifCond .ne 5, 3) := by decide +kernel
theorem d_S_readInto_50 : decode (mC M_S_readInto) 50 = .ok (.iload_n 2, 1) := by decide +kernel
theorem d_S_readInto_51 : decode (mC M_S_readInto) 51 = .ok (.ireturn, 1) := by decide +kernel
theorem d_S_readInto_52 : decode (mC M_S_readInto) 52 = .ok (.iload 4, 2) := by decide +kernel
theorem d_S_readInto_54 : decode (mC M_S_readInto) 54 = .ok (.iconst 1, 1) := by decide +kernel
theorem d_S_readInto_55 : decode (mC M_S_readInto) 55 = .ok (.iadd, 1) := by decide +kernel
theorem d_S_readInto_56 : decode (mC M_S_readInto) 56 = .ok (.istore_n 2, 1) := by decide +kernel
theorem d_S_readInto_57 : decode (mC M_S_readInto) 57 = .ok (.iinc 3 1, 3) := by decide +kernel
theorem d_S_readInto_60 : decode (mC M_S_readInto) 60 = .ok (.goto (-52), 3) := by decide +kernel
theorem d_S_readInto_63 : decode (mC M_S_readInto) 63 = .ok (.bipush (-4), 2) := by decide +kernel
theorem d_S_readInto_65 : decode (mC M_S_readInto) 65 = .ok (.ireturn, 1) := by decide +kernel
def vc_S_readInto_63 (r : Option Value) (hf : hc_H) (J : Nat → hc_K) (lv : hc_L) (st : List Value) (h : hc_H) : Prop := (qi_push (-4) (qi_iret r hf)) lv st h
theorem sn_S_readInto_63 {Ph : Nat → State → Prop} {h0 hf : hc_H} {r : Option Value} : qk Ph M_S_readInto h0 hf r 63 (vc_S_readInto_63 r hf (cx Ph M_S_readInto h0 hf r)) := (qs_bipush d_S_readInto_63 (by decide) (qs_iret d_S_readInto_65 rfl))
def vc_S_readInto_52 (r : Option Value) (hf : hc_H) (J : Nat → hc_K) (lv : hc_L) (st : List Value) (h : hc_H) : Prop := (qi_iload 4 (qi_push (nI 1) (qi_iadd (qi_istore 2 (qi_iinc 3 (nI 1) (J 8)))))) lv st h
theorem sn_S_readInto_52 {Ph : Nat → State → Prop} {h0 hf : hc_H} {r : Option Value} : qk Ph M_S_readInto h0 hf r 52 (vc_S_readInto_52 r hf (cx Ph M_S_readInto h0 hf r)) := (qs_iload d_S_readInto_52 (qs_iconst d_S_readInto_54 (by decide) (qs_iadd d_S_readInto_55 (qs_istore_n d_S_readInto_56 rfl (by decide) (qs_iinc d_S_readInto_57 (by decide) (by decide) (qs_goto (tgt := 8) d_S_readInto_60 (by decide) (fun _ _ _ h9 => h9)))))))
def vc_S_readInto_50 (r : Option Value) (hf : hc_H) (J : Nat → hc_K) (lv : hc_L) (st : List Value) (h : hc_H) : Prop := (qi_iload 2 (qi_iret r hf)) lv st h
theorem sn_S_readInto_50 {Ph : Nat → State → Prop} {h0 hf : hc_H} {r : Option Value} : qk Ph M_S_readInto h0 hf r 50 (vc_S_readInto_50 r hf (cx Ph M_S_readInto h0 hf r)) := (qs_iload_n d_S_readInto_50 rfl (qs_iret d_S_readInto_51 rfl))
def vc_S_readInto_8 (r : Option Value) (hf : hc_H) (J : Nat → hc_K) (lv : hc_L) (st : List Value) (h : hc_H) : Prop := (qi_iload 3 (qi_push (nI 200) (qi_icmp_ge (vc_S_readInto_63 r hf J) (qi_iload 2 (qi_aload 0 (qi_get 3 1 (qi_icmp_ge (vc_S_readInto_63 r hf J) (qi_aload 0 (qi_iload 2 (qi_invV hc_tt M_S_endOfItem 1 3 (qi_istore 4 (qi_iload 4 (qi_aload 0 (qi_get 3 1 (qi_icmp_ge (vc_S_readInto_50 r hf J) (qi_aload 0 (qi_iload 2 (qi_iload 4 (qi_aload 1 (qi_invV hc_tt M_S_takeItem 3 3 (qi_if_ne (vc_S_readInto_52 r hf J) (vc_S_readInto_50 r hf J)))))))))))))))))))))) lv st h
theorem sn_S_readInto_8 {Ph : Nat → State → Prop} {h0 hf : hc_H} {r : Option Value} : qk Ph M_S_readInto h0 hf r 8 (vc_S_readInto_8 r hf (cx Ph M_S_readInto h0 hf r)) := (qs_iload_n d_S_readInto_8 rfl (qs_sipush d_S_readInto_9 (by decide) (qs_icmp_ge (tgt := 63) d_S_readInto_12 (by decide) sn_S_readInto_63 (qs_iload_n d_S_readInto_15 rfl (qs_aload_n d_S_readInto_16 rfl (qs_get d_S_readInto_17 ff_S_15 (qs_icmp_ge (tgt := 63) d_S_readInto_20 (by decide) sn_S_readInto_63 (qs_aload_n d_S_readInto_23 rfl (qs_iload_n d_S_readInto_24 rfl (qs_invV hc_Ph_tt (fun _ _ _ => trivial) d_S_readInto_25 zz_S_endOfItem wk_219 ⟨wk_221, wk_0⟩ ⟨_, rfl, rfl⟩ ⟨by decide, by decide⟩ (qs_istore d_S_readInto_28 (by decide) (qs_iload d_S_readInto_30 (qs_aload_n d_S_readInto_32 rfl (qs_get d_S_readInto_33 ff_S_15 (qs_icmp_ge (tgt := 50) d_S_readInto_36 (by decide) sn_S_readInto_50 (qs_aload_n d_S_readInto_39 rfl (qs_iload_n d_S_readInto_40 rfl (qs_iload d_S_readInto_41 (qs_aload_n d_S_readInto_43 rfl (qs_invV hc_Ph_tt (fun _ _ _ => trivial) d_S_readInto_44 zz_S_takeItem wk_223 ⟨wk_225, wk_1⟩ ⟨_, rfl, rfl⟩ ⟨by decide, by decide⟩ (qs_if_ne (tgt := 52) d_S_readInto_47 (by decide) sn_S_readInto_52 sn_S_readInto_50)))))))))))))))))))))
def vc_S_readInto_0 (r : Option Value) (hf : hc_H) (J : Nat → hc_K) (lv : hc_L) (st : List Value) (h : hc_H) : Prop := (qi_aload 1 (qi_invV hc_tt M_P_clear 0 2 (qi_push (nI 0) (qi_istore 2 (qi_push (nI 0) (qi_istore 3 (J 8))))))) lv st h
theorem sn_S_readInto_0 {Ph : Nat → State → Prop} {h0 hf : hc_H} {r : Option Value} : qk Ph M_S_readInto h0 hf r 0 (vc_S_readInto_0 r hf (cx Ph M_S_readInto h0 hf r)) := (qs_aload_n d_S_readInto_0 rfl (qs_invV hc_Ph_tt (fun _ _ _ => trivial) d_S_readInto_1 zz_P_clear wk_212 ⟨wk_213, wk_214⟩ ⟨_, rfl, rfl⟩ ⟨by decide, by decide⟩ (qs_iconst d_S_readInto_4 (by decide) (qs_istore_n d_S_readInto_5 rfl (by decide) (qs_iconst d_S_readInto_6 (by decide) (qs_istore_n d_S_readInto_7 rfl (by decide) (fun _ _ _ h9 => h9)))))))
/-! BalancedLine.isStation(I)Z -/
abbrev M_B_isStation : hc_M := (⟨"BalancedLine", "isStation", "(I)Z"⟩, prog_1_method_34_code, 1, (some .boolean), 1, 22)
theorem d_B_isStation_0 : decode (mC M_B_isStation) 0 = .ok (.iload_n 0, 1) := by decide +kernel
theorem d_B_isStation_1 : decode (mC M_B_isStation) 1 = .ok (.iconst 1, 1) := by decide +kernel
theorem d_B_isStation_2 : decode (mC M_B_isStation) 2 = .ok (.bipush 12, 2) := by decide +kernel
theorem d_B_isStation_4 : decode (mC M_B_isStation) 4 = .ok (.invokestatic 65, 3) := by decide +kernel
theorem d_B_isStation_7 : decode (mC M_B_isStation) 7 = .ok (.ireturn, 1) := by decide +kernel
def vc_B_isStation_0 (r : Option Value) (hf : hc_H) (J : Nat → hc_K) (lv : hc_L) (st : List Value) (h : hc_H) : Prop := (qi_iload 0 (qi_push (nI 1) (qi_push (nI 12) (qi_invS hc_tt M_B_isWithin 3 (qi_zret r hf))))) lv st h
theorem sn_B_isStation_0 {Ph : Nat → State → Prop} {h0 hf : hc_H} {r : Option Value} : qk Ph M_B_isStation h0 hf r 0 (vc_B_isStation_0 r hf (cx Ph M_B_isStation h0 hf r)) := (qs_iload_n d_B_isStation_0 rfl (qs_iconst d_B_isStation_1 (by decide) (qs_bipush d_B_isStation_2 (by decide) (qs_invS hc_Ph_tt (fun _ _ _ => trivial) d_B_isStation_4 zz_B_isWithin wk_422 wk_236 ⟨by decide, by decide⟩ (qs_zret d_B_isStation_7 rfl)))))
