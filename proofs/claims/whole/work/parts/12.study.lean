theorem zz_L_init : hc_z M_L_init 1 := ⟨wk_303, wk_64, by decide +kernel⟩
/-! BalancedLine$Study.<init>(LBalancedLine$Plan;LBalancedLine$Plan;)V -/
abbrev M_Y_init : hc_M := (⟨"BalancedLine$Study", "<init>", "(LBalancedLine$Plan;LBalancedLine$Plan;)V"⟩, prog_6_method_1_code, 3, none, 2, 43)
theorem d_Y_init_0 : decode (mC M_Y_init) 0 = .ok (.aload_n 0, 1) := by decide +kernel
theorem d_Y_init_1 : decode (mC M_Y_init) 1 = .ok (.invokespecial 3, 3) := by decide +kernel
theorem d_Y_init_4 : decode (mC M_Y_init) 4 = .ok (.aload_n 0, 1) := by decide +kernel
theorem d_Y_init_5 : decode (mC M_Y_init) 5 = .ok (.bipush 13, 2) := by decide +kernel
theorem d_Y_init_7 : decode (mC M_Y_init) 7 = .ok (.newarray .int, 2) := by decide +kernel
theorem d_Y_init_9 : decode (mC M_Y_init) 9 = .ok (.putfield 9, 3) := by decide +kernel
theorem d_Y_init_12 : decode (mC M_Y_init) 12 = .ok (.aload_n 0, 1) := by decide +kernel
theorem d_Y_init_13 : decode (mC M_Y_init) 13 = .ok (.bipush 66, 2) := by decide +kernel
theorem d_Y_init_15 : decode (mC M_Y_init) 15 = .ok (.newarray .int, 2) := by decide +kernel
theorem d_Y_init_17 : decode (mC M_Y_init) 17 = .ok (.putfield 15, 3) := by decide +kernel
theorem d_Y_init_20 : decode (mC M_Y_init) 20 = .ok (.aload_n 0, 1) := by decide +kernel
theorem d_Y_init_21 : decode (mC M_Y_init) 21 = .ok (.aload_n 1, 1) := by decide +kernel
theorem d_Y_init_22 : decode (mC M_Y_init) 22 = .ok (.putfield 18, 3) := by decide +kernel
theorem d_Y_init_25 : decode (mC M_Y_init) 25 = .ok (.aload_n 0, 1) := by decide +kernel
theorem d_Y_init_26 : decode (mC M_Y_init) 26 = .ok (.aload_n 2, 1) := by decide +kernel
theorem d_Y_init_27 : decode (mC M_Y_init) 27 = .ok (.putfield 22, 3) := by decide +kernel
theorem d_Y_init_30 : decode (mC M_Y_init) 30 = .ok (.aload_n 0, 1) := by decide +kernel
theorem d_Y_init_31 : decode (mC M_Y_init) 31 = .ok (.new 25, 3) := by decide +kernel
theorem d_Y_init_34 : decode (mC M_Y_init) 34 = .ok (.dup, 1) := by decide +kernel
theorem d_Y_init_35 : decode (mC M_Y_init) 35 = .ok (.aload_n 1, 1) := by decide +kernel
theorem d_Y_init_36 : decode (mC M_Y_init) 36 = .ok (.getfield 27, 3) := by decide +kernel
theorem d_Y_init_39 : decode (mC M_Y_init) 39 = .ok (.invokespecial 33, 3) := by decide +kernel
theorem d_Y_init_42 : decode (mC M_Y_init) 42 = .ok (.putfield 36, 3) := by decide +kernel
theorem d_Y_init_45 : decode (mC M_Y_init) 45 = .ok (.return_, 1) := by decide +kernel
def vc_Y_init_0 (r : Option Value) (hf : hc_H) (J : Nat → hc_K) (lv : hc_L) (st : List Value) (h : hc_H) : Prop := (qi_aload 0 (qi_obj (qi_aload 0 (qi_push (nI 13) (qi_newa 0 (qi_put 4 9 (.array .int) (qi_aload 0 (qi_push (nI 66) (qi_newa 0 (qi_put 4 10 (.array .int) (qi_aload 0 (qi_aload 1 (qi_put 4 0 (.object "BalancedLine$Plan") (qi_aload 0 (qi_aload 2 (qi_put 4 1 (.object "BalancedLine$Plan") (qi_aload 0 (qi_new 0 16 [.null, .null, .null, .null, .null, .null, .null, .null, .null, .null, .null, .null, .int 0, .int 0, .int 0, .int 0] (qi_dup (qi_aload 1 (qi_get 2 0 (qi_invI hc_tt M_L_init 1 (qi_put 4 2 (.object "BalancedLine$Lines") (qi_vret r hf)))))))))))))))))))))))) lv st h
theorem sn_Y_init_0 {Ph : Nat → State → Prop} {h0 hf : hc_H} {r : Option Value} : qk Ph M_Y_init h0 hf r 0 (vc_Y_init_0 r hf (cx Ph M_Y_init h0 hf r)) := (qs_aload_n d_Y_init_0 rfl (qs_obj d_Y_init_1 wk_298 wk_75 wk_obj (by decide) (by decide) (qs_aload_n d_Y_init_4 rfl (qs_bipush d_Y_init_5 (by decide) (qs_new_int d_Y_init_7 (qs_putF d_Y_init_9 ff_Y_9 rfl ⟨_, _, _, rfl, rfl, rfl, by decide +kernel⟩ (qs_aload_n d_Y_init_12 rfl (qs_bipush d_Y_init_13 (by decide) (qs_new_int d_Y_init_15 (qs_putF d_Y_init_17 ff_Y_15 rfl ⟨_, _, _, rfl, rfl, rfl, by decide +kernel⟩ (qs_aload_n d_Y_init_20 rfl (qs_aload_n d_Y_init_21 rfl (qs_putF d_Y_init_22 ff_Y_18 rfl ⟨_, _, _, rfl, rfl, rfl, by decide +kernel⟩ (qs_aload_n d_Y_init_25 rfl (qs_aload_n d_Y_init_26 rfl (qs_putF d_Y_init_27 ff_Y_22 rfl ⟨_, _, _, rfl, rfl, rfl, by decide +kernel⟩ (qs_aload_n d_Y_init_30 rfl (qs_new tyX0 d_Y_init_31 rfl inG_0 tyX0_ok wk_299 wk_300 wk_64 hcd_0 (qs_dup d_Y_init_34 (qs_aload_n d_Y_init_35 rfl (qs_get d_Y_init_36 ff_Y_27 (qs_invI hc_Ph_tt (fun _ _ _ => trivial) d_Y_init_39 zz_L_init wk_301 wk_302 rfl rfl ⟨by decide, by decide⟩ (qs_put d_Y_init_42 ff_Y_36 ⟨_, _, _, rfl, rfl, by decide +kernel⟩ (qs_vret d_Y_init_45 rfl))))))))))))))))))))))))
/-! BalancedLine$Study.forget()V -/
abbrev M_Y_forget : hc_M := (⟨"BalancedLine$Study", "forget", "()V"⟩, prog_6_method_2_code, 1, none, 0, 0)
theorem d_Y_forget_0 : decode (mC M_Y_forget) 0 = .ok (.aload_n 0, 1) := by decide +kernel
theorem d_Y_forget_1 : decode (mC M_Y_forget) 1 = .ok (.iconst 0, 1) := by decide +kernel
theorem d_Y_forget_2 : decode (mC M_Y_forget) 2 = .ok (.putfield 40, 3) := by decide +kernel
theorem d_Y_forget_5 : decode (mC M_Y_forget) 5 = .ok (.aload_n 0, 1) := by decide +kernel
theorem d_Y_forget_6 : decode (mC M_Y_forget) 6 = .ok (.iconst 0, 1) := by decide +kernel
theorem d_Y_forget_7 : decode (mC M_Y_forget) 7 = .ok (.putfield 44, 3) := by decide +kernel
theorem d_Y_forget_10 : decode (mC M_Y_forget) 10 = .ok (.aload_n 0, 1) := by decide +kernel
theorem d_Y_forget_11 : decode (mC M_Y_forget) 11 = .ok (.iconst 0, 1) := by decide +kernel
theorem d_Y_forget_12 : decode (mC M_Y_forget) 12 = .ok (.putfield 47, 3) := by decide +kernel
theorem d_Y_forget_15 : decode (mC M_Y_forget) 15 = .ok (.return_, 1) := by decide +kernel
def vc_Y_forget_0 (r : Option Value) (hf : hc_H) (J : Nat → hc_K) (lv : hc_L) (st : List Value) (h : hc_H) : Prop := (qi_aload 0 (qi_push (nI 0) (qi_put 4 3 .boolean (qi_aload 0 (qi_push (nI 0) (qi_put 4 4 .boolean (qi_aload 0 (qi_push (nI 0) (qi_put 4 5 .boolean (qi_vret r hf)))))))))) lv st h
theorem sn_Y_forget_0 {Ph : Nat → State → Prop} {h0 hf : hc_H} {r : Option Value} : qk Ph M_Y_forget h0 hf r 0 (vc_Y_forget_0 r hf (cx Ph M_Y_forget h0 hf r)) := (qs_aload_n d_Y_forget_0 rfl (qs_iconst d_Y_forget_1 (by decide) (qs_put d_Y_forget_2 ff_Y_40 ⟨_, _, _, rfl, rfl, by decide +kernel⟩ (qs_aload_n d_Y_forget_5 rfl (qs_iconst d_Y_forget_6 (by decide) (qs_put d_Y_forget_7 ff_Y_44 ⟨_, _, _, rfl, rfl, by decide +kernel⟩ (qs_aload_n d_Y_forget_10 rfl (qs_iconst d_Y_forget_11 (by decide) (qs_put d_Y_forget_12 ff_Y_47 ⟨_, _, _, rfl, rfl, by decide +kernel⟩ (qs_vret d_Y_forget_15 rfl))))))))))
theorem zz_L_measure : hc_z M_L_measure 1 := ⟨wk_586, wk_64, by decide +kernel⟩
theorem zz_L_hasRoomFor : hc_z M_L_hasRoomFor 1 := ⟨wk_582, wk_64, by decide +kernel⟩
/-! BalancedLine$Study.measure(LBalancedLine$Plan;)V -/
abbrev M_Y_measure : hc_M := (⟨"BalancedLine$Study", "measure", "(LBalancedLine$Plan;)V"⟩, prog_6_method_3_code, 2, none, 2, 50)
theorem d_Y_measure_0 : decode (mC M_Y_measure) 0 = .ok (.aload_n 0, 1) := by decide +kernel
theorem d_Y_measure_1 : decode (mC M_Y_measure) 1 = .ok (.getfield 36, 3) := by decide +kernel
theorem d_Y_measure_4 : decode (mC M_Y_measure) 4 = .ok (.aload_n 1, 1) := by decide +kernel
theorem d_Y_measure_5 : decode (mC M_Y_measure) 5 = .ok (.getfield 27, 3) := by decide +kernel
theorem d_Y_measure_8 : decode (mC M_Y_measure) 8 = .ok (.invokevirtual 50, 3) := by decide +kernel
theorem d_Y_measure_11 : decode (mC M_Y_measure) 11 = .ok (.ifCond .ne 16, 3) := by decide +kernel
theorem d_Y_measure_14 : decode (mC M_Y_measure) 14 = .ok (.aload_n 0, 1) := by decide +kernel
theorem d_Y_measure_15 : decode (mC M_Y_measure) 15 = .ok (.new 25, 3) := by decide +kernel
theorem d_Y_measure_18 : decode (mC M_Y_measure) 18 = .ok (.dup, 1) := by decide +kernel
theorem d_Y_measure_19 : decode (mC M_Y_measure) 19 = .ok (.bipush 12, 2) := by decide +kernel
theorem d_Y_measure_21 : decode (mC M_Y_measure) 21 = .ok (.invokespecial 33, 3) := by decide +kernel
theorem d_Y_measure_24 : decode (mC M_Y_measure) 24 = .ok (.putfield 36, 3) := by decide +kernel
theorem d_Y_measure_27 : decode (mC M_Y_measure) 27 = .ok (.aload_n 0, 1) := by decide +kernel
theorem d_Y_measure_28 : decode (mC M_Y_measure) 28 = .ok (.getfield 36, 3) := by decide +kernel
theorem d_Y_measure_31 : decode (mC M_Y_measure) 31 = .ok (.aload_n 1, 1) := by decide +kernel
theorem d_Y_measure_32 : decode (mC M_Y_measure) 32 = .ok (.invokevirtual 54, 3) := by decide +kernel
theorem d_Y_measure_35 : decode (mC M_Y_measure) 35 = .ok (.aload_n 0, 1) := by decide +kernel
theorem d_Y_measure_36 : decode (mC M_Y_measure) 36 = .ok (.iconst 0, 1) := by decide +kernel
theorem d_Y_measure_37 : decode (mC M_Y_measure) 37 = .ok (.putfield 40, 3) := by decide +kernel
theorem d_Y_measure_40 : decode (mC M_Y_measure) 40 = .ok (.return_, 1) := by decide +kernel
def vc_Y_measure_27 (r : Option Value) (hf : hc_H) (J : Nat → hc_K) (lv : hc_L) (st : List Value) (h : hc_H) : Prop := (qi_aload 0 (qi_get 4 2 (qi_aload 1 (qi_invV hc_tt M_L_measure 1 0 (qi_aload 0 (qi_push (nI 0) (qi_put 4 3 .boolean (qi_vret r hf)))))))) lv st h
theorem sn_Y_measure_27 {Ph : Nat → State → Prop} {h0 hf : hc_H} {r : Option Value} : qk Ph M_Y_measure h0 hf r 27 (vc_Y_measure_27 r hf (cx Ph M_Y_measure h0 hf r)) := (qs_aload_n d_Y_measure_27 rfl (qs_get d_Y_measure_28 ff_Y_36 (qs_aload_n d_Y_measure_31 rfl (qs_invV hc_Ph_tt (fun _ _ _ => trivial) d_Y_measure_32 zz_L_measure wk_583 ⟨wk_584, wk_585⟩ ⟨_, rfl, rfl⟩ ⟨by decide, by decide⟩ (qs_aload_n d_Y_measure_35 rfl (qs_iconst d_Y_measure_36 (by decide) (qs_put d_Y_measure_37 ff_Y_40 ⟨_, _, _, rfl, rfl, by decide +kernel⟩ (qs_vret d_Y_measure_40 rfl))))))))
def vc_Y_measure_0 (r : Option Value) (hf : hc_H) (J : Nat → hc_K) (lv : hc_L) (st : List Value) (h : hc_H) : Prop := (qi_aload 0 (qi_get 4 2 (qi_aload 1 (qi_get 2 0 (qi_invV hc_tt M_L_hasRoomFor 1 0 (qi_if_ne (vc_Y_measure_27 r hf J) (qi_aload 0 (qi_new 0 16 [.null, .null, .null, .null, .null, .null, .null, .null, .null, .null, .null, .null, .int 0, .int 0, .int 0, .int 0] (qi_dup (qi_push (nI 12) (qi_invI hc_tt M_L_init 1 (qi_put 4 2 (.object "BalancedLine$Lines") (vc_Y_measure_27 r hf J))))))))))))) lv st h
theorem sn_Y_measure_0 {Ph : Nat → State → Prop} {h0 hf : hc_H} {r : Option Value} : qk Ph M_Y_measure h0 hf r 0 (vc_Y_measure_0 r hf (cx Ph M_Y_measure h0 hf r)) := (qs_aload_n d_Y_measure_0 rfl (qs_get d_Y_measure_1 ff_Y_36 (qs_aload_n d_Y_measure_4 rfl (qs_get d_Y_measure_5 ff_Y_27 (qs_invV hc_Ph_tt (fun _ _ _ => trivial) d_Y_measure_8 zz_L_hasRoomFor wk_579 ⟨wk_580, wk_581⟩ ⟨_, rfl, rfl⟩ ⟨by decide, by decide⟩ (qs_if_ne (tgt := 27) d_Y_measure_11 (by decide) sn_Y_measure_27 (qs_aload_n d_Y_measure_14 rfl (qs_new tyX0 d_Y_measure_15 rfl inG_0 tyX0_ok wk_299 wk_300 wk_64 hcd_0 (qs_dup d_Y_measure_18 (qs_bipush d_Y_measure_19 (by decide) (qs_invI hc_Ph_tt (fun _ _ _ => trivial) d_Y_measure_21 zz_L_init wk_301 wk_302 rfl rfl ⟨by decide, by decide⟩ (qs_put d_Y_measure_24 ff_Y_36 ⟨_, _, _, rfl, rfl, by decide +kernel⟩ sn_Y_measure_27))))))))))))
theorem zz_Y_measure : hc_z M_Y_measure 1 := ⟨wk_578, wk_63, by decide +kernel⟩
/-! BalancedLine$Study.measureNow()V -/
abbrev M_Y_measureNow : hc_M := (⟨"BalancedLine$Study", "measureNow", "()V"⟩, prog_6_method_4_code, 1, none, 3, 71)
theorem d_Y_measureNow_0 : decode (mC M_Y_measureNow) 0 = .ok (.aload_n 0, 1) := by decide +kernel
theorem d_Y_measureNow_1 : decode (mC M_Y_measureNow) 1 = .ok (.getfield 40, 3) := by decide +kernel
theorem d_Y_measureNow_4 : decode (mC M_Y_measureNow) 4 = .ok (.ifCond .ne 16, 3) := by decide +kernel
theorem d_Y_measureNow_7 : decode (mC M_Y_measureNow) 7 = .ok (.aload_n 0, 1) := by decide +kernel
theorem d_Y_measureNow_8 : decode (mC M_Y_measureNow) 8 = .ok (.aload_n 0, 1) := by decide +kernel
theorem d_Y_measureNow_9 : decode (mC M_Y_measureNow) 9 = .ok (.getfield 18, 3) := by decide +kernel
theorem d_Y_measureNow_12 : decode (mC M_Y_measureNow) 12 = .ok (.invokevirtual 58, 3) := by decide +kernel
theorem d_Y_measureNow_15 : decode (mC M_Y_measureNow) 15 = .ok (.aload_n 0, 1) := by decide +kernel
theorem d_Y_measureNow_16 : decode (mC M_Y_measureNow) 16 = .ok (.iconst 1, 1) := by decide +kernel
theorem d_Y_measureNow_17 : decode (mC M_Y_measureNow) 17 = .ok (.putfield 40, 3) := by decide +kernel
theorem d_Y_measureNow_20 : decode (mC M_Y_measureNow) 20 = .ok (.return_, 1) := by decide +kernel
def vc_Y_measureNow_20 (r : Option Value) (hf : hc_H) (J : Nat → hc_K) (lv : hc_L) (st : List Value) (h : hc_H) : Prop := (qi_vret r hf) lv st h
theorem sn_Y_measureNow_20 {Ph : Nat → State → Prop} {h0 hf : hc_H} {r : Option Value} : qk Ph M_Y_measureNow h0 hf r 20 (vc_Y_measureNow_20 r hf (cx Ph M_Y_measureNow h0 hf r)) := (qs_vret d_Y_measureNow_20 rfl)
def vc_Y_measureNow_0 (r : Option Value) (hf : hc_H) (J : Nat → hc_K) (lv : hc_L) (st : List Value) (h : hc_H) : Prop := (qi_aload 0 (qi_get 4 3 (qi_if_ne (vc_Y_measureNow_20 r hf J) (qi_aload 0 (qi_aload 0 (qi_get 4 0 (qi_invV hc_tt M_Y_measure 1 4 (qi_aload 0 (qi_push (nI 1) (qi_put 4 3 .boolean (vc_Y_measureNow_20 r hf J))))))))))) lv st h
theorem sn_Y_measureNow_0 {Ph : Nat → State → Prop} {h0 hf : hc_H} {r : Option Value} : qk Ph M_Y_measureNow h0 hf r 0 (vc_Y_measureNow_0 r hf (cx Ph M_Y_measureNow h0 hf r)) := (qs_aload_n d_Y_measureNow_0 rfl (qs_get d_Y_measureNow_1 ff_Y_40 (qs_if_ne (tgt := 20) d_Y_measureNow_4 (by decide) sn_Y_measureNow_20 (qs_aload_n d_Y_measureNow_7 rfl (qs_aload_n d_Y_measureNow_8 rfl (qs_get d_Y_measureNow_9 ff_Y_18 (qs_invV hc_Ph_tt (fun _ _ _ => trivial) d_Y_measureNow_12 zz_Y_measure wk_575 ⟨wk_577, wk_11⟩ ⟨_, rfl, rfl⟩ ⟨by decide, by decide⟩ (qs_aload_n d_Y_measureNow_15 rfl (qs_iconst d_Y_measureNow_16 (by decide) (qs_put d_Y_measureNow_17 ff_Y_40 ⟨_, _, _, rfl, rfl, by decide +kernel⟩ sn_Y_measureNow_20))))))))))
theorem zz_Y_measureNow : hc_z M_Y_measureNow 0 := ⟨wk_574, wk_63, by decide +kernel⟩
theorem zz_L_freeAll : hc_z M_L_freeAll 0 := ⟨wk_675, wk_64, by decide +kernel⟩
theorem zz_P_highestFloor : hc_z M_P_highestFloor 0 := ⟨wk_617, wk_56, by decide +kernel⟩
theorem zz_L_search : hc_z M_L_search 2 := ⟨wk_646, wk_64, by decide +kernel⟩
theorem zz_L_traceBest : hc_z M_L_traceBest 0 := ⟨wk_679, wk_64, by decide +kernel⟩
theorem zz_L_lineCount : hc_z M_L_lineCount 0 := ⟨wk_693, wk_64, by decide +kernel⟩
theorem zz_L_bestPlaces : hc_z M_L_bestPlaces 0 := ⟨wk_697, wk_64, by decide +kernel⟩
theorem zz_L_copyHeldAt : hc_z M_L_copyHeldAt 1 := ⟨wk_701, wk_64, by decide +kernel⟩
/-! BalancedLine$Study.solve()V -/
abbrev M_Y_solve : hc_M := (⟨"BalancedLine$Study", "solve", "()V"⟩, prog_6_method_5_code, 1, none, 4, 99)
theorem d_Y_solve_0 : decode (mC M_Y_solve) 0 = .ok (.aload_n 0, 1) := by decide +kernel
theorem d_Y_solve_1 : decode (mC M_Y_solve) 1 = .ok (.getfield 44, 3) := by decide +kernel
theorem d_Y_solve_4 : decode (mC M_Y_solve) 4 = .ok (.ifCond .eq 4, 3) := by decide +kernel
theorem d_Y_solve_7 : decode (mC M_Y_solve) 7 = .ok (.return_, 1) := by decide +kernel
theorem d_Y_solve_8 : decode (mC M_Y_solve) 8 = .ok (.aload_n 0, 1) := by decide +kernel
theorem d_Y_solve_9 : decode (mC M_Y_solve) 9 = .ok (.invokevirtual 59, 3) := by decide +kernel
theorem d_Y_solve_12 : decode (mC M_Y_solve) 12 = .ok (.aload_n 0, 1) := by decide +kernel
theorem d_Y_solve_13 : decode (mC M_Y_solve) 13 = .ok (.getfield 36, 3) := by decide +kernel
theorem d_Y_solve_16 : decode (mC M_Y_solve) 16 = .ok (.invokevirtual 62, 3) := by decide +kernel
theorem d_Y_solve_19 : decode (mC M_Y_solve) 19 = .ok (.aload_n 0, 1) := by decide +kernel
theorem d_Y_solve_20 : decode (mC M_Y_solve) 20 = .ok (.aload_n 0, 1) := by decide +kernel
theorem d_Y_solve_21 : decode (mC M_Y_solve) 21 = .ok (.getfield 36, 3) := by decide +kernel
theorem d_Y_solve_24 : decode (mC M_Y_solve) 24 = .ok (.aload_n 0, 1) := by decide +kernel
theorem d_Y_solve_25 : decode (mC M_Y_solve) 25 = .ok (.getfield 18, 3) := by decide +kernel
theorem d_Y_solve_28 : decode (mC M_Y_solve) 28 = .ok (.invokevirtual 65, 3) := by decide +kernel
theorem d_Y_solve_31 : decode (mC M_Y_solve) 31 = .ok (.aload_n 0, 1) := by decide +kernel
theorem d_Y_solve_32 : decode (mC M_Y_solve) 32 = .ok (.getfield 18, 3) := by decide +kernel
theorem d_Y_solve_35 : decode (mC M_Y_solve) 35 = .ok (.getfield 27, 3) := by decide +kernel
theorem d_Y_solve_38 : decode (mC M_Y_solve) 38 = .ok (.invokevirtual 69, 3) := by decide +kernel
theorem d_Y_solve_41 : decode (mC M_Y_solve) 41 = .ok (.putfield 73, 3) := by decide +kernel
theorem d_Y_solve_44 : decode (mC M_Y_solve) 44 = .ok (.aload_n 0, 1) := by decide +kernel
theorem d_Y_solve_45 : decode (mC M_Y_solve) 45 = .ok (.iconst 0, 1) := by decide +kernel
theorem d_Y_solve_46 : decode (mC M_Y_solve) 46 = .ok (.putfield 76, 3) := by decide +kernel
theorem d_Y_solve_49 : decode (mC M_Y_solve) 49 = .ok (.aload_n 0, 1) := by decide +kernel
theorem d_Y_solve_50 : decode (mC M_Y_solve) 50 = .ok (.getfield 73, 3) := by decide +kernel
theorem d_Y_solve_53 : decode (mC M_Y_solve) 53 = .ok (.bipush (-4), 2) := by decide +kernel
theorem d_Y_solve_55 : decode (mC M_Y_solve) 55 = .ok (.if_icmp .eq 43, 3) := by decide +kernel
theorem d_Y_solve_58 : decode (mC M_Y_solve) 58 = .ok (.aload_n 0, 1) := by decide +kernel
theorem d_Y_solve_59 : decode (mC M_Y_solve) 59 = .ok (.getfield 36, 3) := by decide +kernel
theorem d_Y_solve_62 : decode (mC M_Y_solve) 62 = .ok (.invokevirtual 79, 3) := by decide +kernel
theorem d_Y_solve_65 : decode (mC M_Y_solve) 65 = .ok (.aload_n 0, 1) := by decide +kernel
theorem d_Y_solve_66 : decode (mC M_Y_solve) 66 = .ok (.aload_n 0, 1) := by decide +kernel
theorem d_Y_solve_67 : decode (mC M_Y_solve) 67 = .ok (.getfield 36, 3) := by decide +kernel
theorem d_Y_solve_70 : decode (mC M_Y_solve) 70 = .ok (.invokevirtual 82, 3) := by decide +kernel
theorem d_Y_solve_73 : decode (mC M_Y_solve) 73 = .ok (.putfield 76, 3) := by decide +kernel
theorem d_Y_solve_76 : decode (mC M_Y_solve) 76 = .ok (.aload_n 0, 1) := by decide +kernel
theorem d_Y_solve_77 : decode (mC M_Y_solve) 77 = .ok (.aload_n 0, 1) := by decide +kernel
theorem d_Y_solve_78 : decode (mC M_Y_solve) 78 = .ok (.getfield 36, 3) := by decide +kernel
theorem d_Y_solve_81 : decode (mC M_Y_solve) 81 = .ok (.invokevirtual 84, 3) := by decide +kernel
theorem d_Y_solve_84 : decode (mC M_Y_solve) 84 = .ok (.putfield 88, 3) := by decide +kernel
theorem d_Y_solve_87 : decode (mC M_Y_solve) 87 = .ok (.aload_n 0, 1) := by decide +kernel
theorem d_Y_solve_88 : decode (mC M_Y_solve) 88 = .ok (.getfield 36, 3) := by decide +kernel
theorem d_Y_solve_91 : decode (mC M_Y_solve) 91 = .ok (.aload_n 0, 1) := by decide +kernel
theorem d_Y_solve_92 : decode (mC M_Y_solve) 92 = .ok (.getfield 9, 3) := by decide +kernel
theorem d_Y_solve_95 : decode (mC M_Y_solve) 95 = .ok (.invokevirtual 91, 3) := by decide +kernel
theorem d_Y_solve_98 : decode (mC M_Y_solve) 98 = .ok (.aload_n 0, 1) := by decide +kernel
theorem d_Y_solve_99 : decode (mC M_Y_solve) 99 = .ok (.iconst 1, 1) := by decide +kernel
theorem d_Y_solve_100 : decode (mC M_Y_solve) 100 = .ok (.putfield 44, 3) := by decide +kernel
theorem d_Y_solve_103 : decode (mC M_Y_solve) 103 = .ok (.return_, 1) := by decide +kernel
def vc_Y_solve_98 (r : Option Value) (hf : hc_H) (J : Nat → hc_K) (lv : hc_L) (st : List Value) (h : hc_H) : Prop := (qi_aload 0 (qi_push (nI 1) (qi_put 4 4 .boolean (qi_vret r hf)))) lv st h
theorem sn_Y_solve_98 {Ph : Nat → State → Prop} {h0 hf : hc_H} {r : Option Value} : qk Ph M_Y_solve h0 hf r 98 (vc_Y_solve_98 r hf (cx Ph M_Y_solve h0 hf r)) := (qs_aload_n d_Y_solve_98 rfl (qs_iconst d_Y_solve_99 (by decide) (qs_put d_Y_solve_100 ff_Y_44 ⟨_, _, _, rfl, rfl, by decide +kernel⟩ (qs_vret d_Y_solve_103 rfl))))
def vc_Y_solve_8 (r : Option Value) (hf : hc_H) (J : Nat → hc_K) (lv : hc_L) (st : List Value) (h : hc_H) : Prop := (qi_aload 0 (qi_invV hc_tt M_Y_measureNow 0 4 (qi_aload 0 (qi_get 4 2 (qi_invV hc_tt M_L_freeAll 0 0 (qi_aload 0 (qi_aload 0 (qi_get 4 2 (qi_aload 0 (qi_get 4 0 (qi_invV hc_tt M_P_highestFloor 0 2 (qi_aload 0 (qi_get 4 0 (qi_get 2 0 (qi_invV hc_tt M_L_search 2 0 (qi_put 4 6 .int (qi_aload 0 (qi_push (nI 0) (qi_put 4 7 .int (qi_aload 0 (qi_get 4 6 (qi_push (-4) (qi_icmp_eq (vc_Y_solve_98 r hf J) (qi_aload 0 (qi_get 4 2 (qi_invV hc_tt M_L_traceBest 0 0 (qi_aload 0 (qi_aload 0 (qi_get 4 2 (qi_invV hc_tt M_L_lineCount 0 0 (qi_put 4 7 .int (qi_aload 0 (qi_aload 0 (qi_get 4 2 (qi_invV hc_tt M_L_bestPlaces 0 0 (qi_put 4 8 .long (qi_aload 0 (qi_get 4 2 (qi_aload 0 (qi_get 4 9 (qi_invV hc_tt M_L_copyHeldAt 1 0 (vc_Y_solve_98 r hf J)))))))))))))))))))))))))))))))))))))))))) lv st h
theorem sn_Y_solve_8 {Ph : Nat → State → Prop} {h0 hf : hc_H} {r : Option Value} : qk Ph M_Y_solve h0 hf r 8 (vc_Y_solve_8 r hf (cx Ph M_Y_solve h0 hf r)) := (qs_aload_n d_Y_solve_8 rfl (qs_invV hc_Ph_tt (fun _ _ _ => trivial) d_Y_solve_9 zz_Y_measureNow wk_571 ⟨wk_573, wk_10⟩ ⟨_, rfl, rfl⟩ ⟨by decide, by decide⟩ (qs_aload_n d_Y_solve_12 rfl (qs_get d_Y_solve_13 ff_Y_36 (qs_invV hc_Ph_tt (fun _ _ _ => trivial) d_Y_solve_16 zz_L_freeAll wk_672 ⟨wk_673, wk_674⟩ ⟨_, rfl, rfl⟩ ⟨by decide, by decide⟩ (qs_aload_n d_Y_solve_19 rfl (qs_aload_n d_Y_solve_20 rfl (qs_get d_Y_solve_21 ff_Y_36 (qs_aload_n d_Y_solve_24 rfl (qs_get d_Y_solve_25 ff_Y_18 (qs_invV hc_Ph_tt (fun _ _ _ => trivial) d_Y_solve_28 zz_P_highestFloor wk_614 ⟨wk_615, wk_616⟩ ⟨_, rfl, rfl⟩ ⟨by decide, by decide⟩ (qs_aload_n d_Y_solve_31 rfl (qs_get d_Y_solve_32 ff_Y_18 (qs_get d_Y_solve_35 ff_Y_27 (qs_invV hc_Ph_tt (fun _ _ _ => trivial) d_Y_solve_38 zz_L_search wk_643 ⟨wk_644, wk_645⟩ ⟨_, rfl, rfl⟩ ⟨by decide, by decide⟩ (qs_put d_Y_solve_41 ff_Y_73 ⟨_, _, _, rfl, rfl, by decide +kernel⟩ (qs_aload_n d_Y_solve_44 rfl (qs_iconst d_Y_solve_45 (by decide) (qs_put d_Y_solve_46 ff_Y_76 ⟨_, _, _, rfl, rfl, by decide +kernel⟩ (qs_aload_n d_Y_solve_49 rfl (qs_get d_Y_solve_50 ff_Y_73 (qs_bipush d_Y_solve_53 (by decide) (qs_icmp_eq (tgt := 98) d_Y_solve_55 (by decide) sn_Y_solve_98 (qs_aload_n d_Y_solve_58 rfl (qs_get d_Y_solve_59 ff_Y_36 (qs_invV hc_Ph_tt (fun _ _ _ => trivial) d_Y_solve_62 zz_L_traceBest wk_676 ⟨wk_677, wk_678⟩ ⟨_, rfl, rfl⟩ ⟨by decide, by decide⟩ (qs_aload_n d_Y_solve_65 rfl (qs_aload_n d_Y_solve_66 rfl (qs_get d_Y_solve_67 ff_Y_36 (qs_invV hc_Ph_tt (fun _ _ _ => trivial) d_Y_solve_70 zz_L_lineCount wk_690 ⟨wk_691, wk_692⟩ ⟨_, rfl, rfl⟩ ⟨by decide, by decide⟩ (qs_put d_Y_solve_73 ff_Y_76 ⟨_, _, _, rfl, rfl, by decide +kernel⟩ (qs_aload_n d_Y_solve_76 rfl (qs_aload_n d_Y_solve_77 rfl (qs_get d_Y_solve_78 ff_Y_36 (qs_invV hc_Ph_tt (fun _ _ _ => trivial) d_Y_solve_81 zz_L_bestPlaces wk_694 ⟨wk_695, wk_696⟩ ⟨_, rfl, rfl⟩ ⟨by decide, by decide⟩ (qs_put d_Y_solve_84 ff_Y_88 ⟨_, _, _, rfl, rfl, by decide +kernel⟩ (qs_aload_n d_Y_solve_87 rfl (qs_get d_Y_solve_88 ff_Y_36 (qs_aload_n d_Y_solve_91 rfl (qs_get d_Y_solve_92 ff_Y_9 (qs_invV hc_Ph_tt (fun _ _ _ => trivial) d_Y_solve_95 zz_L_copyHeldAt wk_698 ⟨wk_699, wk_700⟩ ⟨_, rfl, rfl⟩ ⟨by decide, by decide⟩ sn_Y_solve_98)))))))))))))))))))))))))))))))))))))))))
def vc_Y_solve_0 (r : Option Value) (hf : hc_H) (J : Nat → hc_K) (lv : hc_L) (st : List Value) (h : hc_H) : Prop := (qi_aload 0 (qi_get 4 4 (qi_if_eq (vc_Y_solve_8 r hf J) (qi_vret r hf)))) lv st h
theorem sn_Y_solve_0 {Ph : Nat → State → Prop} {h0 hf : hc_H} {r : Option Value} : qk Ph M_Y_solve h0 hf r 0 (vc_Y_solve_0 r hf (cx Ph M_Y_solve h0 hf r)) := (qs_aload_n d_Y_solve_0 rfl (qs_get d_Y_solve_1 ff_Y_44 (qs_if_eq (tgt := 8) d_Y_solve_4 (by decide) sn_Y_solve_8 (qs_vret d_Y_solve_7 rfl))))
/-! BalancedLine$Study.bestSpot(I)I -/
abbrev M_Y_bestSpot : hc_M := (⟨"BalancedLine$Study", "bestSpot", "(I)I"⟩, prog_6_method_6_code, 2, (some .int), 1, 20)
theorem d_Y_bestSpot_0 : decode (mC M_Y_bestSpot) 0 = .ok (.aload_n 0, 1) := by decide +kernel
theorem d_Y_bestSpot_1 : decode (mC M_Y_bestSpot) 1 = .ok (.getfield 88, 3) := by decide +kernel
theorem d_Y_bestSpot_4 : decode (mC M_Y_bestSpot) 4 = .ok (.iload_n 1, 1) := by decide +kernel
theorem d_Y_bestSpot_5 : decode (mC M_Y_bestSpot) 5 = .ok (.invokestatic 95, 3) := by decide +kernel
theorem d_Y_bestSpot_8 : decode (mC M_Y_bestSpot) 8 = .ok (.lshr, 1) := by decide +kernel
theorem d_Y_bestSpot_9 : decode (mC M_Y_bestSpot) 9 = .ok (.l2i, 1) := by decide +kernel
theorem d_Y_bestSpot_10 : decode (mC M_Y_bestSpot) 10 = .ok (.bipush 15, 2) := by decide +kernel
theorem d_Y_bestSpot_12 : decode (mC M_Y_bestSpot) 12 = .ok (.iand, 1) := by decide +kernel
theorem d_Y_bestSpot_13 : decode (mC M_Y_bestSpot) 13 = .ok (.ireturn, 1) := by decide +kernel
def vc_Y_bestSpot_0 (r : Option Value) (hf : hc_H) (J : Nat → hc_K) (lv : hc_L) (st : List Value) (h : hc_H) : Prop := (qi_aload 0 (qi_get 4 8 (qi_iload 1 (qi_invS hc_tt M_L_placeShift 1 (qi_lshr (qi_l2i (qi_push (nI 15) (qi_iand (qi_iret r hf))))))))) lv st h
theorem sn_Y_bestSpot_0 {Ph : Nat → State → Prop} {h0 hf : hc_H} {r : Option Value} : qk Ph M_Y_bestSpot h0 hf r 0 (vc_Y_bestSpot_0 r hf (cx Ph M_Y_bestSpot h0 hf r)) := (qs_aload_n d_Y_bestSpot_0 rfl (qs_get d_Y_bestSpot_1 ff_Y_88 (qs_iload_n d_Y_bestSpot_4 rfl (qs_invS hc_Ph_tt (fun _ _ _ => trivial) d_Y_bestSpot_5 zz_L_placeShift wk_707 wk_592 ⟨by decide, by decide⟩ (qs_lshr d_Y_bestSpot_8 (qs_l2i d_Y_bestSpot_9 (qs_bipush d_Y_bestSpot_10 (by decide) (qs_iand d_Y_bestSpot_12 (qs_iret d_Y_bestSpot_13 rfl)))))))))
/-! BalancedLine$Study.possibleSpots(I)I -/
abbrev M_Y_possibleSpots : hc_M := (⟨"BalancedLine$Study", "possibleSpots", "(I)I"⟩, prog_6_method_7_code, 4, (some .int), 0, 0)
theorem d_Y_possibleSpots_0 : decode (mC M_Y_possibleSpots) 0 = .ok (.iconst 0, 1) := by decide +kernel
theorem d_Y_possibleSpots_1 : decode (mC M_Y_possibleSpots) 1 = .ok (.istore_n 2, 1) := by decide +kernel
theorem d_Y_possibleSpots_2 : decode (mC M_Y_possibleSpots) 2 = .ok (.iconst 1, 1) := by decide +kernel
theorem d_Y_possibleSpots_3 : decode (mC M_Y_possibleSpots) 3 = .ok (.istore_n 3, 1) := by decide +kernel
theorem d_Y_possibleSpots_4 : decode (mC M_Y_possibleSpots) 4 = .ok (.iload_n 3, 1) := by decide +kernel
theorem d_Y_possibleSpots_5 : decode (mC M_Y_possibleSpots) 5 = .ok (.bipush 12, 2) := by decide +kernel
theorem d_Y_possibleSpots_7 : decode (mC M_Y_possibleSpots) 7 = .ok (.if_icmp .gt 29, 3) := by decide +kernel
theorem d_Y_possibleSpots_10 : decode (mC M_Y_possibleSpots) 10 = .ok (.aload_n 0, 1) := by decide +kernel
theorem d_Y_possibleSpots_11 : decode (mC M_Y_possibleSpots) 11 = .ok (.getfield 9, 3) := by decide +kernel
theorem d_Y_possibleSpots_14 : decode (mC M_Y_possibleSpots) 14 = .ok (.iload_n 3, 1) := by decide +kernel
theorem d_Y_possibleSpots_15 : decode (mC M_Y_possibleSpots) 15 = .ok (.iaload, 1) := by decide +kernel
theorem d_Y_possibleSpots_16 : decode (mC M_Y_possibleSpots) 16 = .ok (.iload_n 1, 1) := by decide +kernel
theorem d_Y_possibleSpots_17 : decode (mC M_Y_possibleSpots) 17 = .ok (.ishr, 1) := by decide +kernel
theorem d_Y_possibleSpots_18 : decode (mC M_Y_possibleSpots) 18 = .ok (.iconst 1, 1) := by decide +kernel
theorem d_Y_possibleSpots_19 : decode (mC M_Y_possibleSpots) 19 = .ok (.iand, 1) := by decide +kernel
theorem d_Y_possibleSpots_20 : decode (mC M_Y_possibleSpots) 20 = .ok (.iconst 1, 1) := by decide +kernel
theorem d_Y_possibleSpots_21 : decode (mC M_Y_possibleSpots) 21 = .ok (.if_icmp .ne 9, 3) := by decide +kernel
theorem d_Y_possibleSpots_24 : decode (mC M_Y_possibleSpots) 24 = .ok (.iload_n 2, 1) := by decide +kernel
theorem d_Y_possibleSpots_25 : decode (mC M_Y_possibleSpots) 25 = .ok (.iconst 1, 1) := by decide +kernel
theorem d_Y_possibleSpots_26 : decode (mC M_Y_possibleSpots) 26 = .ok (.iload_n 3, 1) := by decide +kernel
theorem d_Y_possibleSpots_27 : decode (mC M_Y_possibleSpots) 27 = .ok (.ishl, 1) := by decide +kernel
theorem d_Y_possibleSpots_28 : decode (mC M_Y_possibleSpots) 28 = .ok (.ior, 1) := by decide +kernel
theorem d_Y_possibleSpots_29 : decode (mC M_Y_possibleSpots) 29 = .ok (.istore_n 2, 1) := by decide +kernel
theorem d_Y_possibleSpots_30 : decode (mC M_Y_possibleSpots) 30 = .ok (.iinc 3 1, 3) := by decide +kernel
theorem d_Y_possibleSpots_33 : decode (mC M_Y_possibleSpots) 33 = .ok (.goto (-29), 3) := by decide +kernel
theorem d_Y_possibleSpots_36 : decode (mC M_Y_possibleSpots) 36 = .ok (.iload_n 2, 1) := by decide +kernel
theorem d_Y_possibleSpots_37 : decode (mC M_Y_possibleSpots) 37 = .ok (.ireturn, 1) := by decide +kernel
def vc_Y_possibleSpots_36 (r : Option Value) (hf : hc_H) (J : Nat → hc_K) (lv : hc_L) (st : List Value) (h : hc_H) : Prop := (qi_iload 2 (qi_iret r hf)) lv st h
theorem sn_Y_possibleSpots_36 {Ph : Nat → State → Prop} {h0 hf : hc_H} {r : Option Value} : qk Ph M_Y_possibleSpots h0 hf r 36 (vc_Y_possibleSpots_36 r hf (cx Ph M_Y_possibleSpots h0 hf r)) := (qs_iload_n d_Y_possibleSpots_36 rfl (qs_iret d_Y_possibleSpots_37 rfl))
def vc_Y_possibleSpots_30 (r : Option Value) (hf : hc_H) (J : Nat → hc_K) (lv : hc_L) (st : List Value) (h : hc_H) : Prop := (qi_iinc 3 (nI 1) (J 4)) lv st h
theorem sn_Y_possibleSpots_30 {Ph : Nat → State → Prop} {h0 hf : hc_H} {r : Option Value} : qk Ph M_Y_possibleSpots h0 hf r 30 (vc_Y_possibleSpots_30 r hf (cx Ph M_Y_possibleSpots h0 hf r)) := (qs_iinc d_Y_possibleSpots_30 (by decide) (by decide) (qs_goto (tgt := 4) d_Y_possibleSpots_33 (by decide) (fun _ _ _ h9 => h9)))
def vc_Y_possibleSpots_4 (r : Option Value) (hf : hc_H) (J : Nat → hc_K) (lv : hc_L) (st : List Value) (h : hc_H) : Prop := (qi_iload 3 (qi_push (nI 12) (qi_icmp_gt (vc_Y_possibleSpots_36 r hf J) (qi_aload 0 (qi_get 4 9 (qi_iload 3 (qi_iald 0 (qi_iload 1 (qi_ishr (qi_push (nI 1) (qi_iand (qi_push (nI 1) (qi_icmp_ne (vc_Y_possibleSpots_30 r hf J) (qi_iload 2 (qi_push (nI 1) (qi_iload 3 (qi_ishl (qi_ior (qi_istore 2 (vc_Y_possibleSpots_30 r hf J)))))))))))))))))))) lv st h
theorem sn_Y_possibleSpots_4 {Ph : Nat → State → Prop} {h0 hf : hc_H} {r : Option Value} : qk Ph M_Y_possibleSpots h0 hf r 4 (vc_Y_possibleSpots_4 r hf (cx Ph M_Y_possibleSpots h0 hf r)) := (qs_iload_n d_Y_possibleSpots_4 rfl (qs_bipush d_Y_possibleSpots_5 (by decide) (qs_icmp_gt (tgt := 36) d_Y_possibleSpots_7 (by decide) sn_Y_possibleSpots_36 (qs_aload_n d_Y_possibleSpots_10 rfl (qs_get d_Y_possibleSpots_11 ff_Y_9 (qs_iload_n d_Y_possibleSpots_14 rfl (qs_iaload d_Y_possibleSpots_15 (qs_iload_n d_Y_possibleSpots_16 rfl (qs_ishr d_Y_possibleSpots_17 (qs_iconst d_Y_possibleSpots_18 (by decide) (qs_iand d_Y_possibleSpots_19 (qs_iconst d_Y_possibleSpots_20 (by decide) (qs_icmp_ne (tgt := 30) d_Y_possibleSpots_21 (by decide) sn_Y_possibleSpots_30 (qs_iload_n d_Y_possibleSpots_24 rfl (qs_iconst d_Y_possibleSpots_25 (by decide) (qs_iload_n d_Y_possibleSpots_26 rfl (qs_ishl d_Y_possibleSpots_27 (qs_ior d_Y_possibleSpots_28 (qs_istore_n d_Y_possibleSpots_29 rfl (by decide) sn_Y_possibleSpots_30)))))))))))))))))))
def vc_Y_possibleSpots_0 (r : Option Value) (hf : hc_H) (J : Nat → hc_K) (lv : hc_L) (st : List Value) (h : hc_H) : Prop := (qi_push (nI 0) (qi_istore 2 (qi_push (nI 1) (qi_istore 3 (J 4))))) lv st h
theorem sn_Y_possibleSpots_0 {Ph : Nat → State → Prop} {h0 hf : hc_H} {r : Option Value} : qk Ph M_Y_possibleSpots h0 hf r 0 (vc_Y_possibleSpots_0 r hf (cx Ph M_Y_possibleSpots h0 hf r)) := (qs_iconst d_Y_possibleSpots_0 (by decide) (qs_istore_n d_Y_possibleSpots_1 rfl (by decide) (qs_iconst d_Y_possibleSpots_2 (by decide) (qs_istore_n d_Y_possibleSpots_3 rfl (by decide) (fun _ _ _ h9 => h9)))))
theorem zz_L_fix : hc_z M_L_fix 1 := ⟨wk_601, wk_64, by decide +kernel⟩
theorem zz_P_lastSpot : hc_z M_P_lastSpot 0 := ⟨wk_612, wk_56, by decide +kernel⟩
/-! BalancedLine$Study.fewestByHand()I -/
abbrev M_Y_fewestByHand : hc_M := (⟨"BalancedLine$Study", "fewestByHand", "()I"⟩, prog_6_method_8_code, 1, (some .int), 4, 99)
theorem d_Y_fewestByHand_0 : decode (mC M_Y_fewestByHand) 0 = .ok (.aload_n 0, 1) := by decide +kernel
theorem d_Y_fewestByHand_1 : decode (mC M_Y_fewestByHand) 1 = .ok (.invokevirtual 59, 3) := by decide +kernel
theorem d_Y_fewestByHand_4 : decode (mC M_Y_fewestByHand) 4 = .ok (.aload_n 0, 1) := by decide +kernel
theorem d_Y_fewestByHand_5 : decode (mC M_Y_fewestByHand) 5 = .ok (.getfield 36, 3) := by decide +kernel
theorem d_Y_fewestByHand_8 : decode (mC M_Y_fewestByHand) 8 = .ok (.aload_n 0, 1) := by decide +kernel
theorem d_Y_fewestByHand_9 : decode (mC M_Y_fewestByHand) 9 = .ok (.getfield 18, 3) := by decide +kernel
theorem d_Y_fewestByHand_12 : decode (mC M_Y_fewestByHand) 12 = .ok (.invokevirtual 99, 3) := by decide +kernel
theorem d_Y_fewestByHand_15 : decode (mC M_Y_fewestByHand) 15 = .ok (.aload_n 0, 1) := by decide +kernel
theorem d_Y_fewestByHand_16 : decode (mC M_Y_fewestByHand) 16 = .ok (.getfield 36, 3) := by decide +kernel
theorem d_Y_fewestByHand_19 : decode (mC M_Y_fewestByHand) 19 = .ok (.aload_n 0, 1) := by decide +kernel
theorem d_Y_fewestByHand_20 : decode (mC M_Y_fewestByHand) 20 = .ok (.getfield 18, 3) := by decide +kernel
theorem d_Y_fewestByHand_23 : decode (mC M_Y_fewestByHand) 23 = .ok (.invokevirtual 102, 3) := by decide +kernel
theorem d_Y_fewestByHand_26 : decode (mC M_Y_fewestByHand) 26 = .ok (.aload_n 0, 1) := by decide +kernel
theorem d_Y_fewestByHand_27 : decode (mC M_Y_fewestByHand) 27 = .ok (.getfield 18, 3) := by decide +kernel
theorem d_Y_fewestByHand_30 : decode (mC M_Y_fewestByHand) 30 = .ok (.invokevirtual 65, 3) := by decide +kernel
theorem d_Y_fewestByHand_33 : decode (mC M_Y_fewestByHand) 33 = .ok (.invokestatic 105, 3) := by decide +kernel
theorem d_Y_fewestByHand_36 : decode (mC M_Y_fewestByHand) 36 = .ok (.bipush 12, 2) := by decide +kernel
theorem d_Y_fewestByHand_38 : decode (mC M_Y_fewestByHand) 38 = .ok (.invokevirtual 69, 3) := by decide +kernel
theorem d_Y_fewestByHand_41 : decode (mC M_Y_fewestByHand) 41 = .ok (.ireturn, 1) := by decide +kernel
def vc_Y_fewestByHand_0 (r : Option Value) (hf : hc_H) (J : Nat → hc_K) (lv : hc_L) (st : List Value) (h : hc_H) : Prop := (qi_aload 0 (qi_invV hc_tt M_Y_measureNow 0 4 (qi_aload 0 (qi_get 4 2 (qi_aload 0 (qi_get 4 0 (qi_invV hc_tt M_L_fix 1 0 (qi_aload 0 (qi_get 4 2 (qi_aload 0 (qi_get 4 0 (qi_invV hc_tt M_P_lastSpot 0 2 (qi_aload 0 (qi_get 4 0 (qi_invV hc_tt M_P_highestFloor 0 2 (qi_max (qi_push (nI 12) (qi_invV hc_tt M_L_search 2 0 (qi_iret r hf))))))))))))))))))) lv st h
theorem sn_Y_fewestByHand_0 {Ph : Nat → State → Prop} {h0 hf : hc_H} {r : Option Value} : qk Ph M_Y_fewestByHand h0 hf r 0 (vc_Y_fewestByHand_0 r hf (cx Ph M_Y_fewestByHand h0 hf r)) := (qs_aload_n d_Y_fewestByHand_0 rfl (qs_invV hc_Ph_tt (fun _ _ _ => trivial) d_Y_fewestByHand_1 zz_Y_measureNow wk_571 ⟨wk_573, wk_10⟩ ⟨_, rfl, rfl⟩ ⟨by decide, by decide⟩ (qs_aload_n d_Y_fewestByHand_4 rfl (qs_get d_Y_fewestByHand_5 ff_Y_36 (qs_aload_n d_Y_fewestByHand_8 rfl (qs_get d_Y_fewestByHand_9 ff_Y_18 (qs_invV hc_Ph_tt (fun _ _ _ => trivial) d_Y_fewestByHand_12 zz_L_fix wk_598 ⟨wk_599, wk_600⟩ ⟨_, rfl, rfl⟩ ⟨by decide, by decide⟩ (qs_aload_n d_Y_fewestByHand_15 rfl (qs_get d_Y_fewestByHand_16 ff_Y_36 (qs_aload_n d_Y_fewestByHand_19 rfl (qs_get d_Y_fewestByHand_20 ff_Y_18 (qs_invV hc_Ph_tt (fun _ _ _ => trivial) d_Y_fewestByHand_23 zz_P_lastSpot wk_609 ⟨wk_610, wk_611⟩ ⟨_, rfl, rfl⟩ ⟨by decide, by decide⟩ (qs_aload_n d_Y_fewestByHand_26 rfl (qs_get d_Y_fewestByHand_27 ff_Y_18 (qs_invV hc_Ph_tt (fun _ _ _ => trivial) d_Y_fewestByHand_30 zz_P_highestFloor wk_614 ⟨wk_615, wk_616⟩ ⟨_, rfl, rfl⟩ ⟨by decide, by decide⟩ (qs_max d_Y_fewestByHand_33 wk_642 (by decide) (by decide) (qs_bipush d_Y_fewestByHand_36 (by decide) (qs_invV hc_Ph_tt (fun _ _ _ => trivial) d_Y_fewestByHand_38 zz_L_search wk_643 ⟨wk_644, wk_645⟩ ⟨_, rfl, rfl⟩ ⟨by decide, by decide⟩ (qs_iret d_Y_fewestByHand_41 rfl)))))))))))))))))))
theorem zz_L_listedLoad : hc_z M_L_listedLoad 2 := ⟨wk_726, wk_64, by decide +kernel⟩
/-! BalancedLine$Study.listedLoad(IZ)I -/
abbrev M_Y_listedLoad : hc_M := (⟨"BalancedLine$Study", "listedLoad", "(IZ)I"⟩, prog_6_method_9_code, 3, (some .int), 4, 91)
theorem d_Y_listedLoad_0 : decode (mC M_Y_listedLoad) 0 = .ok (.aload_n 0, 1) := by decide +kernel
theorem d_Y_listedLoad_1 : decode (mC M_Y_listedLoad) 1 = .ok (.invokevirtual 59, 3) := by decide +kernel
theorem d_Y_listedLoad_4 : decode (mC M_Y_listedLoad) 4 = .ok (.aload_n 0, 1) := by decide +kernel
theorem d_Y_listedLoad_5 : decode (mC M_Y_listedLoad) 5 = .ok (.getfield 36, 3) := by decide +kernel
theorem d_Y_listedLoad_8 : decode (mC M_Y_listedLoad) 8 = .ok (.iload_n 1, 1) := by decide +kernel
theorem d_Y_listedLoad_9 : decode (mC M_Y_listedLoad) 9 = .ok (.iload_n 2, 1) := by decide +kernel
theorem d_Y_listedLoad_10 : decode (mC M_Y_listedLoad) 10 = .ok (.invokevirtual 110, 3) := by decide +kernel
theorem d_Y_listedLoad_13 : decode (mC M_Y_listedLoad) 13 = .ok (.ireturn, 1) := by decide +kernel
def vc_Y_listedLoad_0 (r : Option Value) (hf : hc_H) (J : Nat → hc_K) (lv : hc_L) (st : List Value) (h : hc_H) : Prop := (qi_aload 0 (qi_invV hc_tt M_Y_measureNow 0 4 (qi_aload 0 (qi_get 4 2 (qi_iload 1 (qi_iload 2 (qi_invV hc_tt M_L_listedLoad 2 0 (qi_iret r hf)))))))) lv st h
theorem sn_Y_listedLoad_0 {Ph : Nat → State → Prop} {h0 hf : hc_H} {r : Option Value} : qk Ph M_Y_listedLoad h0 hf r 0 (vc_Y_listedLoad_0 r hf (cx Ph M_Y_listedLoad h0 hf r)) := (qs_aload_n d_Y_listedLoad_0 rfl (qs_invV hc_Ph_tt (fun _ _ _ => trivial) d_Y_listedLoad_1 zz_Y_measureNow wk_571 ⟨wk_573, wk_10⟩ ⟨_, rfl, rfl⟩ ⟨by decide, by decide⟩ (qs_aload_n d_Y_listedLoad_4 rfl (qs_get d_Y_listedLoad_5 ff_Y_36 (qs_iload_n d_Y_listedLoad_8 rfl (qs_iload_n d_Y_listedLoad_9 rfl (qs_invV hc_Ph_tt (fun _ _ _ => trivial) d_Y_listedLoad_10 zz_L_listedLoad wk_723 ⟨wk_724, wk_725⟩ ⟨_, rfl, rfl⟩ ⟨by decide, by decide⟩ (qs_iret d_Y_listedLoad_13 rfl))))))))
/-! BalancedLine$Study.fewestOfTrial()I -/
abbrev M_Y_fewestOfTrial : hc_M := (⟨"BalancedLine$Study", "fewestOfTrial", "()I"⟩, prog_6_method_12_code, 1, (some .int), 4, 99)
theorem d_Y_fewestOfTrial_0 : decode (mC M_Y_fewestOfTrial) 0 = .ok (.aload_n 0, 1) := by decide +kernel
theorem d_Y_fewestOfTrial_1 : decode (mC M_Y_fewestOfTrial) 1 = .ok (.aload_n 0, 1) := by decide +kernel
theorem d_Y_fewestOfTrial_2 : decode (mC M_Y_fewestOfTrial) 2 = .ok (.getfield 22, 3) := by decide +kernel
theorem d_Y_fewestOfTrial_5 : decode (mC M_Y_fewestOfTrial) 5 = .ok (.invokevirtual 58, 3) := by decide +kernel
theorem d_Y_fewestOfTrial_8 : decode (mC M_Y_fewestOfTrial) 8 = .ok (.aload_n 0, 1) := by decide +kernel
theorem d_Y_fewestOfTrial_9 : decode (mC M_Y_fewestOfTrial) 9 = .ok (.getfield 36, 3) := by decide +kernel
theorem d_Y_fewestOfTrial_12 : decode (mC M_Y_fewestOfTrial) 12 = .ok (.invokevirtual 62, 3) := by decide +kernel
theorem d_Y_fewestOfTrial_15 : decode (mC M_Y_fewestOfTrial) 15 = .ok (.aload_n 0, 1) := by decide +kernel
theorem d_Y_fewestOfTrial_16 : decode (mC M_Y_fewestOfTrial) 16 = .ok (.getfield 36, 3) := by decide +kernel
theorem d_Y_fewestOfTrial_19 : decode (mC M_Y_fewestOfTrial) 19 = .ok (.aload_n 0, 1) := by decide +kernel
theorem d_Y_fewestOfTrial_20 : decode (mC M_Y_fewestOfTrial) 20 = .ok (.getfield 22, 3) := by decide +kernel
theorem d_Y_fewestOfTrial_23 : decode (mC M_Y_fewestOfTrial) 23 = .ok (.invokevirtual 65, 3) := by decide +kernel
theorem d_Y_fewestOfTrial_26 : decode (mC M_Y_fewestOfTrial) 26 = .ok (.aload_n 0, 1) := by decide +kernel
theorem d_Y_fewestOfTrial_27 : decode (mC M_Y_fewestOfTrial) 27 = .ok (.getfield 22, 3) := by decide +kernel
theorem d_Y_fewestOfTrial_30 : decode (mC M_Y_fewestOfTrial) 30 = .ok (.getfield 27, 3) := by decide +kernel
theorem d_Y_fewestOfTrial_33 : decode (mC M_Y_fewestOfTrial) 33 = .ok (.invokevirtual 69, 3) := by decide +kernel
theorem d_Y_fewestOfTrial_36 : decode (mC M_Y_fewestOfTrial) 36 = .ok (.ireturn, 1) := by decide +kernel
def vc_Y_fewestOfTrial_0 (r : Option Value) (hf : hc_H) (J : Nat → hc_K) (lv : hc_L) (st : List Value) (h : hc_H) : Prop := (qi_aload 0 (qi_aload 0 (qi_get 4 1 (qi_invV hc_tt M_Y_measure 1 4 (qi_aload 0 (qi_get 4 2 (qi_invV hc_tt M_L_freeAll 0 0 (qi_aload 0 (qi_get 4 2 (qi_aload 0 (qi_get 4 1 (qi_invV hc_tt M_P_highestFloor 0 2 (qi_aload 0 (qi_get 4 1 (qi_get 2 0 (qi_invV hc_tt M_L_search 2 0 (qi_iret r hf))))))))))))))))) lv st h
theorem sn_Y_fewestOfTrial_0 {Ph : Nat → State → Prop} {h0 hf : hc_H} {r : Option Value} : qk Ph M_Y_fewestOfTrial h0 hf r 0 (vc_Y_fewestOfTrial_0 r hf (cx Ph M_Y_fewestOfTrial h0 hf r)) := (qs_aload_n d_Y_fewestOfTrial_0 rfl (qs_aload_n d_Y_fewestOfTrial_1 rfl (qs_get d_Y_fewestOfTrial_2 ff_Y_22 (qs_invV hc_Ph_tt (fun _ _ _ => trivial) d_Y_fewestOfTrial_5 zz_Y_measure wk_575 ⟨wk_577, wk_11⟩ ⟨_, rfl, rfl⟩ ⟨by decide, by decide⟩ (qs_aload_n d_Y_fewestOfTrial_8 rfl (qs_get d_Y_fewestOfTrial_9 ff_Y_36 (qs_invV hc_Ph_tt (fun _ _ _ => trivial) d_Y_fewestOfTrial_12 zz_L_freeAll wk_672 ⟨wk_673, wk_674⟩ ⟨_, rfl, rfl⟩ ⟨by decide, by decide⟩ (qs_aload_n d_Y_fewestOfTrial_15 rfl (qs_get d_Y_fewestOfTrial_16 ff_Y_36 (qs_aload_n d_Y_fewestOfTrial_19 rfl (qs_get d_Y_fewestOfTrial_20 ff_Y_22 (qs_invV hc_Ph_tt (fun _ _ _ => trivial) d_Y_fewestOfTrial_23 zz_P_highestFloor wk_614 ⟨wk_615, wk_616⟩ ⟨_, rfl, rfl⟩ ⟨by decide, by decide⟩ (qs_aload_n d_Y_fewestOfTrial_26 rfl (qs_get d_Y_fewestOfTrial_27 ff_Y_22 (qs_get d_Y_fewestOfTrial_30 ff_Y_27 (qs_invV hc_Ph_tt (fun _ _ _ => trivial) d_Y_fewestOfTrial_33 zz_L_search wk_643 ⟨wk_644, wk_645⟩ ⟨_, rfl, rfl⟩ ⟨by decide, by decide⟩ (qs_iret d_Y_fewestOfTrial_36 rfl)))))))))))))))))
theorem zz_Y_fewestOfTrial : hc_z M_Y_fewestOfTrial 0 := ⟨wk_791, wk_63, by decide +kernel⟩
/-! BalancedLine$Study.fewestByCycle(I)I -/
abbrev M_Y_fewestByCycle : hc_M := (⟨"BalancedLine$Study", "fewestByCycle", "(I)I"⟩, prog_6_method_10_code, 2, (some .int), 5, 119)
theorem d_Y_fewestByCycle_0 : decode (mC M_Y_fewestByCycle) 0 = .ok (.aload_n 0, 1) := by decide +kernel
theorem d_Y_fewestByCycle_1 : decode (mC M_Y_fewestByCycle) 1 = .ok (.getfield 22, 3) := by decide +kernel
theorem d_Y_fewestByCycle_4 : decode (mC M_Y_fewestByCycle) 4 = .ok (.aload_n 0, 1) := by decide +kernel
theorem d_Y_fewestByCycle_5 : decode (mC M_Y_fewestByCycle) 5 = .ok (.getfield 18, 3) := by decide +kernel
theorem d_Y_fewestByCycle_8 : decode (mC M_Y_fewestByCycle) 8 = .ok (.invokevirtual 114, 3) := by decide +kernel
theorem d_Y_fewestByCycle_11 : decode (mC M_Y_fewestByCycle) 11 = .ok (.aload_n 0, 1) := by decide +kernel
theorem d_Y_fewestByCycle_12 : decode (mC M_Y_fewestByCycle) 12 = .ok (.getfield 22, 3) := by decide +kernel
theorem d_Y_fewestByCycle_15 : decode (mC M_Y_fewestByCycle) 15 = .ok (.iload_n 1, 1) := by decide +kernel
theorem d_Y_fewestByCycle_16 : decode (mC M_Y_fewestByCycle) 16 = .ok (.putfield 117, 3) := by decide +kernel
theorem d_Y_fewestByCycle_19 : decode (mC M_Y_fewestByCycle) 19 = .ok (.aload_n 0, 1) := by decide +kernel
theorem d_Y_fewestByCycle_20 : decode (mC M_Y_fewestByCycle) 20 = .ok (.invokevirtual 120, 3) := by decide +kernel
theorem d_Y_fewestByCycle_23 : decode (mC M_Y_fewestByCycle) 23 = .ok (.ireturn, 1) := by decide +kernel
def vc_Y_fewestByCycle_0 (r : Option Value) (hf : hc_H) (J : Nat → hc_K) (lv : hc_L) (st : List Value) (h : hc_H) : Prop := (qi_aload 0 (qi_get 4 1 (qi_aload 0 (qi_get 4 0 (qi_invV hc_tt M_P_copy 1 2 (qi_aload 0 (qi_get 4 1 (qi_iload 1 (qi_put 2 1 .int (qi_aload 0 (qi_invV hc_tt M_Y_fewestOfTrial 0 4 (qi_iret r hf)))))))))))) lv st h
theorem sn_Y_fewestByCycle_0 {Ph : Nat → State → Prop} {h0 hf : hc_H} {r : Option Value} : qk Ph M_Y_fewestByCycle h0 hf r 0 (vc_Y_fewestByCycle_0 r hf (cx Ph M_Y_fewestByCycle h0 hf r)) := (qs_aload_n d_Y_fewestByCycle_0 rfl (qs_get d_Y_fewestByCycle_1 ff_Y_22 (qs_aload_n d_Y_fewestByCycle_4 rfl (qs_get d_Y_fewestByCycle_5 ff_Y_18 (qs_invV hc_Ph_tt (fun _ _ _ => trivial) d_Y_fewestByCycle_8 zz_P_copy wk_769 ⟨wk_436, wk_437⟩ ⟨_, rfl, rfl⟩ ⟨by decide, by decide⟩ (qs_aload_n d_Y_fewestByCycle_11 rfl (qs_get d_Y_fewestByCycle_12 ff_Y_22 (qs_iload_n d_Y_fewestByCycle_15 rfl (qs_put d_Y_fewestByCycle_16 ff_Y_117 ⟨_, _, _, rfl, rfl, by decide +kernel⟩ (qs_aload_n d_Y_fewestByCycle_19 rfl (qs_invV hc_Ph_tt (fun _ _ _ => trivial) d_Y_fewestByCycle_20 zz_Y_fewestOfTrial wk_788 ⟨wk_790, wk_20⟩ ⟨_, rfl, rfl⟩ ⟨by decide, by decide⟩ (qs_iret d_Y_fewestByCycle_23 rfl))))))))))))
/-! BalancedLine$Study.fewestByTime(II)I -/
abbrev M_Y_fewestByTime : hc_M := (⟨"BalancedLine$Study", "fewestByTime", "(II)I"⟩, prog_6_method_11_code, 3, (some .int), 5, 119)
theorem d_Y_fewestByTime_0 : decode (mC M_Y_fewestByTime) 0 = .ok (.aload_n 0, 1) := by decide +kernel
theorem d_Y_fewestByTime_1 : decode (mC M_Y_fewestByTime) 1 = .ok (.getfield 22, 3) := by decide +kernel
theorem d_Y_fewestByTime_4 : decode (mC M_Y_fewestByTime) 4 = .ok (.aload_n 0, 1) := by decide +kernel
theorem d_Y_fewestByTime_5 : decode (mC M_Y_fewestByTime) 5 = .ok (.getfield 18, 3) := by decide +kernel
theorem d_Y_fewestByTime_8 : decode (mC M_Y_fewestByTime) 8 = .ok (.invokevirtual 114, 3) := by decide +kernel
theorem d_Y_fewestByTime_11 : decode (mC M_Y_fewestByTime) 11 = .ok (.aload_n 0, 1) := by decide +kernel
theorem d_Y_fewestByTime_12 : decode (mC M_Y_fewestByTime) 12 = .ok (.getfield 22, 3) := by decide +kernel
theorem d_Y_fewestByTime_15 : decode (mC M_Y_fewestByTime) 15 = .ok (.getfield 123, 3) := by decide +kernel
theorem d_Y_fewestByTime_18 : decode (mC M_Y_fewestByTime) 18 = .ok (.iload_n 1, 1) := by decide +kernel
theorem d_Y_fewestByTime_19 : decode (mC M_Y_fewestByTime) 19 = .ok (.iload_n 2, 1) := by decide +kernel
theorem d_Y_fewestByTime_20 : decode (mC M_Y_fewestByTime) 20 = .ok (.iastore, 1) := by decide +kernel
theorem d_Y_fewestByTime_21 : decode (mC M_Y_fewestByTime) 21 = .ok (.aload_n 0, 1) := by decide +kernel
theorem d_Y_fewestByTime_22 : decode (mC M_Y_fewestByTime) 22 = .ok (.invokevirtual 120, 3) := by decide +kernel
theorem d_Y_fewestByTime_25 : decode (mC M_Y_fewestByTime) 25 = .ok (.ireturn, 1) := by decide +kernel
def vc_Y_fewestByTime_0 (r : Option Value) (hf : hc_H) (J : Nat → hc_K) (lv : hc_L) (st : List Value) (h : hc_H) : Prop := (qi_aload 0 (qi_get 4 1 (qi_aload 0 (qi_get 4 0 (qi_invV hc_tt M_P_copy 1 2 (qi_aload 0 (qi_get 4 1 (qi_get 2 2 (qi_iload 1 (qi_iload 2 (qi_iast (qi_aload 0 (qi_invV hc_tt M_Y_fewestOfTrial 0 4 (qi_iret r hf)))))))))))))) lv st h
theorem sn_Y_fewestByTime_0 {Ph : Nat → State → Prop} {h0 hf : hc_H} {r : Option Value} : qk Ph M_Y_fewestByTime h0 hf r 0 (vc_Y_fewestByTime_0 r hf (cx Ph M_Y_fewestByTime h0 hf r)) := (qs_aload_n d_Y_fewestByTime_0 rfl (qs_get d_Y_fewestByTime_1 ff_Y_22 (qs_aload_n d_Y_fewestByTime_4 rfl (qs_get d_Y_fewestByTime_5 ff_Y_18 (qs_invV hc_Ph_tt (fun _ _ _ => trivial) d_Y_fewestByTime_8 zz_P_copy wk_769 ⟨wk_436, wk_437⟩ ⟨_, rfl, rfl⟩ ⟨by decide, by decide⟩ (qs_aload_n d_Y_fewestByTime_11 rfl (qs_get d_Y_fewestByTime_12 ff_Y_22 (qs_get d_Y_fewestByTime_15 ff_Y_123 (qs_iload_n d_Y_fewestByTime_18 rfl (qs_iload_n d_Y_fewestByTime_19 rfl (qs_iastore d_Y_fewestByTime_20 (qs_aload_n d_Y_fewestByTime_21 rfl (qs_invV hc_Ph_tt (fun _ _ _ => trivial) d_Y_fewestByTime_22 zz_Y_fewestOfTrial wk_788 ⟨wk_790, wk_20⟩ ⟨_, rfl, rfl⟩ ⟨by decide, by decide⟩ (qs_iret d_Y_fewestByTime_25 rfl))))))))))))))
theorem zz_L_hasLine : hc_z M_L_hasLine 1 := ⟨wk_778, wk_64, by decide +kernel⟩
/-! BalancedLine$Study.hasLineBy(II)Z -/
abbrev M_Y_hasLineBy : hc_M := (⟨"BalancedLine$Study", "hasLineBy", "(II)Z"⟩, prog_6_method_14_code, 3, (some .boolean), 4, 97)
theorem d_Y_hasLineBy_0 : decode (mC M_Y_hasLineBy) 0 = .ok (.aload_n 0, 1) := by decide +kernel
theorem d_Y_hasLineBy_1 : decode (mC M_Y_hasLineBy) 1 = .ok (.getfield 36, 3) := by decide +kernel
theorem d_Y_hasLineBy_4 : decode (mC M_Y_hasLineBy) 4 = .ok (.iload_n 1, 1) := by decide +kernel
theorem d_Y_hasLineBy_5 : decode (mC M_Y_hasLineBy) 5 = .ok (.invokevirtual 142, 3) := by decide +kernel
theorem d_Y_hasLineBy_8 : decode (mC M_Y_hasLineBy) 8 = .ok (.aload_n 0, 1) := by decide +kernel
theorem d_Y_hasLineBy_9 : decode (mC M_Y_hasLineBy) 9 = .ok (.getfield 36, 3) := by decide +kernel
theorem d_Y_hasLineBy_12 : decode (mC M_Y_hasLineBy) 12 = .ok (.iload_n 2, 1) := by decide +kernel
theorem d_Y_hasLineBy_13 : decode (mC M_Y_hasLineBy) 13 = .ok (.invokevirtual 145, 3) := by decide +kernel
theorem d_Y_hasLineBy_16 : decode (mC M_Y_hasLineBy) 16 = .ok (.ireturn, 1) := by decide +kernel
def vc_Y_hasLineBy_0 (r : Option Value) (hf : hc_H) (J : Nat → hc_K) (lv : hc_L) (st : List Value) (h : hc_H) : Prop := (qi_aload 0 (qi_get 4 2 (qi_iload 1 (qi_invV hc_tt M_L_fit 1 0 (qi_aload 0 (qi_get 4 2 (qi_iload 2 (qi_invV hc_tt M_L_hasLine 1 0 (qi_zret r hf))))))))) lv st h
theorem sn_Y_hasLineBy_0 {Ph : Nat → State → Prop} {h0 hf : hc_H} {r : Option Value} : qk Ph M_Y_hasLineBy h0 hf r 0 (vc_Y_hasLineBy_0 r hf (cx Ph M_Y_hasLineBy h0 hf r)) := (qs_aload_n d_Y_hasLineBy_0 rfl (qs_get d_Y_hasLineBy_1 ff_Y_36 (qs_iload_n d_Y_hasLineBy_4 rfl (qs_invV hc_Ph_tt (fun _ _ _ => trivial) d_Y_hasLineBy_5 zz_L_fit wk_774 ⟨wk_595, wk_596⟩ ⟨_, rfl, rfl⟩ ⟨by decide, by decide⟩ (qs_aload_n d_Y_hasLineBy_8 rfl (qs_get d_Y_hasLineBy_9 ff_Y_36 (qs_iload_n d_Y_hasLineBy_12 rfl (qs_invV hc_Ph_tt (fun _ _ _ => trivial) d_Y_hasLineBy_13 zz_L_hasLine wk_775 ⟨wk_776, wk_777⟩ ⟨_, rfl, rfl⟩ ⟨by decide, by decide⟩ (qs_zret d_Y_hasLineBy_16 rfl)))))))))
theorem zz_Y_hasLineBy : hc_z M_Y_hasLineBy 2 := ⟨wk_773, wk_63, by decide +kernel⟩
theorem zz_P_longestTime : hc_z M_P_longestTime 0 := ⟨wk_766, wk_56, by decide +kernel⟩
/-! BalancedLine$Study.shortestCycle(I)I -/
abbrev M_Y_shortestCycle : hc_M := (⟨"BalancedLine$Study", "shortestCycle", "(I)I"⟩, prog_6_method_13_code, 7, (some .int), 5, 119)
theorem d_Y_shortestCycle_0 : decode (mC M_Y_shortestCycle) 0 = .ok (.aload_n 0, 1) := by decide +kernel
theorem d_Y_shortestCycle_1 : decode (mC M_Y_shortestCycle) 1 = .ok (.getfield 18, 3) := by decide +kernel
theorem d_Y_shortestCycle_4 : decode (mC M_Y_shortestCycle) 4 = .ok (.invokevirtual 126, 3) := by decide +kernel
theorem d_Y_shortestCycle_7 : decode (mC M_Y_shortestCycle) 7 = .ok (.aload_n 0, 1) := by decide +kernel
theorem d_Y_shortestCycle_8 : decode (mC M_Y_shortestCycle) 8 = .ok (.getfield 18, 3) := by decide +kernel
theorem d_Y_shortestCycle_11 : decode (mC M_Y_shortestCycle) 11 = .ok (.invokevirtual 129, 3) := by decide +kernel
theorem d_Y_shortestCycle_14 : decode (mC M_Y_shortestCycle) 14 = .ok (.iload_n 1, 1) := by decide +kernel
theorem d_Y_shortestCycle_15 : decode (mC M_Y_shortestCycle) 15 = .ok (.invokestatic 132, 3) := by decide +kernel
theorem d_Y_shortestCycle_18 : decode (mC M_Y_shortestCycle) 18 = .ok (.invokestatic 105, 3) := by decide +kernel
theorem d_Y_shortestCycle_21 : decode (mC M_Y_shortestCycle) 21 = .ok (.istore_n 2, 1) := by decide +kernel
theorem d_Y_shortestCycle_22 : decode (mC M_Y_shortestCycle) 22 = .ok (.aload_n 0, 1) := by decide +kernel
theorem d_Y_shortestCycle_23 : decode (mC M_Y_shortestCycle) 23 = .ok (.getfield 18, 3) := by decide +kernel
theorem d_Y_shortestCycle_26 : decode (mC M_Y_shortestCycle) 26 = .ok (.invokevirtual 129, 3) := by decide +kernel
theorem d_Y_shortestCycle_29 : decode (mC M_Y_shortestCycle) 29 = .ok (.istore_n 3, 1) := by decide +kernel
theorem d_Y_shortestCycle_30 : decode (mC M_Y_shortestCycle) 30 = .ok (.aload_n 0, 1) := by decide +kernel
theorem d_Y_shortestCycle_31 : decode (mC M_Y_shortestCycle) 31 = .ok (.getfield 22, 3) := by decide +kernel
theorem d_Y_shortestCycle_34 : decode (mC M_Y_shortestCycle) 34 = .ok (.aload_n 0, 1) := by decide +kernel
theorem d_Y_shortestCycle_35 : decode (mC M_Y_shortestCycle) 35 = .ok (.getfield 18, 3) := by decide +kernel
theorem d_Y_shortestCycle_38 : decode (mC M_Y_shortestCycle) 38 = .ok (.invokevirtual 114, 3) := by decide +kernel
theorem d_Y_shortestCycle_41 : decode (mC M_Y_shortestCycle) 41 = .ok (.aload_n 0, 1) := by decide +kernel
theorem d_Y_shortestCycle_42 : decode (mC M_Y_shortestCycle) 42 = .ok (.aload_n 0, 1) := by decide +kernel
theorem d_Y_shortestCycle_43 : decode (mC M_Y_shortestCycle) 43 = .ok (.getfield 22, 3) := by decide +kernel
theorem d_Y_shortestCycle_46 : decode (mC M_Y_shortestCycle) 46 = .ok (.invokevirtual 58, 3) := by decide +kernel
theorem d_Y_shortestCycle_49 : decode (mC M_Y_shortestCycle) 49 = .ok (.aload_n 0, 1) := by decide +kernel
theorem d_Y_shortestCycle_50 : decode (mC M_Y_shortestCycle) 50 = .ok (.getfield 36, 3) := by decide +kernel
theorem d_Y_shortestCycle_53 : decode (mC M_Y_shortestCycle) 53 = .ok (.invokevirtual 62, 3) := by decide +kernel
theorem d_Y_shortestCycle_56 : decode (mC M_Y_shortestCycle) 56 = .ok (.aload_n 0, 1) := by decide +kernel
theorem d_Y_shortestCycle_57 : decode (mC M_Y_shortestCycle) 57 = .ok (.iload_n 3, 1) := by decide +kernel
theorem d_Y_shortestCycle_58 : decode (mC M_Y_shortestCycle) 58 = .ok (.iload_n 1, 1) := by decide +kernel
theorem d_Y_shortestCycle_59 : decode (mC M_Y_shortestCycle) 59 = .ok (.invokevirtual 135, 3) := by decide +kernel
theorem d_Y_shortestCycle_62 : decode (mC M_Y_shortestCycle) 62 = .ok (.ifCond .ne 6, 3) := by decide +kernel
theorem d_Y_shortestCycle_65 : decode (mC M_Y_shortestCycle) 65 = .ok (.bipush (-4), 2) := by decide +kernel
theorem d_Y_shortestCycle_67 : decode (mC M_Y_shortestCycle) 67 = .ok (.ireturn, 1) := by decide +kernel
theorem d_Y_shortestCycle_68 : decode (mC M_Y_shortestCycle) 68 = .ok (.iconst 1, 1) := by decide +kernel
theorem d_Y_shortestCycle_69 : decode (mC M_Y_shortestCycle) 69 = .ok (.istore 4, 2) := by decide +kernel
theorem d_Y_shortestCycle_71 : decode (mC M_Y_shortestCycle) 71 = .ok (.iconst 0, 1) := by decide +kernel
theorem d_Y_shortestCycle_72 : decode (mC M_Y_shortestCycle) 72 = .ok (.istore 5, 2) := by decide +kernel
theorem d_Y_shortestCycle_74 : decode (mC M_Y_shortestCycle) 74 = .ok (.iload 5, 2) := by decide +kernel
theorem d_Y_shortestCycle_76 : decode (mC M_Y_shortestCycle) 76 = .ok (.sipush 720, 3) := by decide +kernel
theorem d_Y_shortestCycle_79 : decode (mC M_Y_shortestCycle) 79 = .ok (.if_icmp .ge 57, 3) := by decide +kernel
theorem d_Y_shortestCycle_82 : decode (mC M_Y_shortestCycle) 82 = .ok (.iload_n 2, 1) := by decide +kernel
theorem d_Y_shortestCycle_83 : decode (mC M_Y_shortestCycle) 83 = .ok (.iload_n 3, 1) := by decide +kernel
theorem d_Y_shortestCycle_84 : decode (mC M_Y_shortestCycle) 84 = .ok (.if_icmp .ge 52, 3) := by decide +kernel
theorem d_Y_shortestCycle_87 : decode (mC M_Y_shortestCycle) 87 = .ok (.iload_n 2, 1) := by decide +kernel
theorem d_Y_shortestCycle_88 : decode (mC M_Y_shortestCycle) 88 = .ok (.iload 4, 2) := by decide +kernel
theorem d_Y_shortestCycle_90 : decode (mC M_Y_shortestCycle) 90 = .ok (.iadd, 1) := by decide +kernel
theorem d_Y_shortestCycle_91 : decode (mC M_Y_shortestCycle) 91 = .ok (.iconst 1, 1) := by decide +kernel
theorem d_Y_shortestCycle_92 : decode (mC M_Y_shortestCycle) 92 = .ok (.isub, 1) := by decide +kernel
theorem d_Y_shortestCycle_93 : decode (mC M_Y_shortestCycle) 93 = .ok (.iload_n 2, 1) := by decide +kernel
theorem d_Y_shortestCycle_94 : decode (mC M_Y_shortestCycle) 94 = .ok (.iload_n 3, 1) := by decide +kernel
theorem d_Y_shortestCycle_95 : decode (mC M_Y_shortestCycle) 95 = .ok (.iadd, 1) := by decide +kernel
theorem d_Y_shortestCycle_96 : decode (mC M_Y_shortestCycle) 96 = .ok (.iconst 2, 1) := by decide +kernel
theorem d_Y_shortestCycle_97 : decode (mC M_Y_shortestCycle) 97 = .ok (.idiv, 1) := by decide +kernel
theorem d_Y_shortestCycle_98 : decode (mC M_Y_shortestCycle) 98 = .ok (.invokestatic 139, 3) := by decide +kernel
theorem d_Y_shortestCycle_101 : decode (mC M_Y_shortestCycle) 101 = .ok (.istore 6, 2) := by decide +kernel
theorem d_Y_shortestCycle_103 : decode (mC M_Y_shortestCycle) 103 = .ok (.aload_n 0, 1) := by decide +kernel
theorem d_Y_shortestCycle_104 : decode (mC M_Y_shortestCycle) 104 = .ok (.iload 6, 2) := by decide +kernel
theorem d_Y_shortestCycle_106 : decode (mC M_Y_shortestCycle) 106 = .ok (.iload_n 1, 1) := by decide +kernel
theorem d_Y_shortestCycle_107 : decode (mC M_Y_shortestCycle) 107 = .ok (.invokevirtual 135, 3) := by decide +kernel
theorem d_Y_shortestCycle_110 : decode (mC M_Y_shortestCycle) 110 = .ok (.ifCond .eq 9, 3) := by decide +kernel
theorem d_Y_shortestCycle_113 : decode (mC M_Y_shortestCycle) 113 = .ok (.iload 6, 2) := by decide +kernel
theorem d_Y_shortestCycle_115 : decode (mC M_Y_shortestCycle) 115 = .ok (.istore_n 3, 1) := by decide +kernel
theorem d_Y_shortestCycle_116 : decode (mC M_Y_shortestCycle) 116 = .ok (.goto 14, 3) := by decide +kernel
theorem d_Y_shortestCycle_119 : decode (mC M_Y_shortestCycle) 119 = .ok (.iload 6, 2) := by decide +kernel
theorem d_Y_shortestCycle_121 : decode (mC M_Y_shortestCycle) 121 = .ok (.iconst 1, 1) := by decide +kernel
theorem d_Y_shortestCycle_122 : decode (mC M_Y_shortestCycle) 122 = .ok (.iadd, 1) := by decide +kernel
theorem d_Y_shortestCycle_123 : decode (mC M_Y_shortestCycle) 123 = .ok (.istore_n 2, 1) := by decide +kernel
theorem d_Y_shortestCycle_124 : decode (mC M_Y_shortestCycle) 124 = .ok (.iload 4, 2) := by decide +kernel
theorem d_Y_shortestCycle_126 : decode (mC M_Y_shortestCycle) 126 = .ok (.iconst 2, 1) := by decide +kernel
theorem d_Y_shortestCycle_127 : decode (mC M_Y_shortestCycle) 127 = .ok (.imul, 1) := by decide +kernel
theorem d_Y_shortestCycle_128 : decode (mC M_Y_shortestCycle) 128 = .ok (.istore 4, 2) := by decide +kernel
theorem d_Y_shortestCycle_130 : decode (mC M_Y_shortestCycle) 130 = .ok (.iinc 5 1, 3) := by decide +kernel
theorem d_Y_shortestCycle_133 : decode (mC M_Y_shortestCycle) 133 = .ok (.goto (-59), 3) := by decide +kernel
theorem d_Y_shortestCycle_136 : decode (mC M_Y_shortestCycle) 136 = .ok (.iload_n 2, 1) := by decide +kernel
theorem d_Y_shortestCycle_137 : decode (mC M_Y_shortestCycle) 137 = .ok (.ireturn, 1) := by decide +kernel
def vc_Y_shortestCycle_136 (r : Option Value) (hf : hc_H) (J : Nat → hc_K) (lv : hc_L) (st : List Value) (h : hc_H) : Prop := (qi_iload 2 (qi_iret r hf)) lv st h
theorem sn_Y_shortestCycle_136 {Ph : Nat → State → Prop} {h0 hf : hc_H} {r : Option Value} : qk Ph M_Y_shortestCycle h0 hf r 136 (vc_Y_shortestCycle_136 r hf (cx Ph M_Y_shortestCycle h0 hf r)) := (qs_iload_n d_Y_shortestCycle_136 rfl (qs_iret d_Y_shortestCycle_137 rfl))
def vc_Y_shortestCycle_130 (r : Option Value) (hf : hc_H) (J : Nat → hc_K) (lv : hc_L) (st : List Value) (h : hc_H) : Prop := (qi_iinc 5 (nI 1) (J 74)) lv st h
theorem sn_Y_shortestCycle_130 {Ph : Nat → State → Prop} {h0 hf : hc_H} {r : Option Value} : qk Ph M_Y_shortestCycle h0 hf r 130 (vc_Y_shortestCycle_130 r hf (cx Ph M_Y_shortestCycle h0 hf r)) := (qs_iinc d_Y_shortestCycle_130 (by decide) (by decide) (qs_goto (tgt := 74) d_Y_shortestCycle_133 (by decide) (fun _ _ _ h9 => h9)))
def vc_Y_shortestCycle_119 (r : Option Value) (hf : hc_H) (J : Nat → hc_K) (lv : hc_L) (st : List Value) (h : hc_H) : Prop := (qi_iload 6 (qi_push (nI 1) (qi_iadd (qi_istore 2 (qi_iload 4 (qi_push (nI 2) (qi_imul (qi_istore 4 (vc_Y_shortestCycle_130 r hf J))))))))) lv st h
theorem sn_Y_shortestCycle_119 {Ph : Nat → State → Prop} {h0 hf : hc_H} {r : Option Value} : qk Ph M_Y_shortestCycle h0 hf r 119 (vc_Y_shortestCycle_119 r hf (cx Ph M_Y_shortestCycle h0 hf r)) := (qs_iload d_Y_shortestCycle_119 (qs_iconst d_Y_shortestCycle_121 (by decide) (qs_iadd d_Y_shortestCycle_122 (qs_istore_n d_Y_shortestCycle_123 rfl (by decide) (qs_iload d_Y_shortestCycle_124 (qs_iconst d_Y_shortestCycle_126 (by decide) (qs_imul d_Y_shortestCycle_127 (qs_istore d_Y_shortestCycle_128 (by decide) sn_Y_shortestCycle_130))))))))
def vc_Y_shortestCycle_74 (r : Option Value) (hf : hc_H) (J : Nat → hc_K) (lv : hc_L) (st : List Value) (h : hc_H) : Prop := (qi_iload 5 (qi_push (nI 720) (qi_icmp_ge (vc_Y_shortestCycle_136 r hf J) (qi_iload 2 (qi_iload 3 (qi_icmp_ge (vc_Y_shortestCycle_136 r hf J) (qi_iload 2 (qi_iload 4 (qi_iadd (qi_push (nI 1) (qi_isub (qi_iload 2 (qi_iload 3 (qi_iadd (qi_push (nI 2) (qi_idiv (qi_min (qi_istore 6 (qi_aload 0 (qi_iload 6 (qi_iload 1 (qi_invV hc_tt M_Y_hasLineBy 2 4 (qi_if_eq (vc_Y_shortestCycle_119 r hf J) (qi_iload 6 (qi_istore 3 (vc_Y_shortestCycle_130 r hf J)))))))))))))))))))))))))) lv st h
theorem sn_Y_shortestCycle_74 {Ph : Nat → State → Prop} {h0 hf : hc_H} {r : Option Value} : qk Ph M_Y_shortestCycle h0 hf r 74 (vc_Y_shortestCycle_74 r hf (cx Ph M_Y_shortestCycle h0 hf r)) := (qs_iload d_Y_shortestCycle_74 (qs_sipush d_Y_shortestCycle_76 (by decide) (qs_icmp_ge (tgt := 136) d_Y_shortestCycle_79 (by decide) sn_Y_shortestCycle_136 (qs_iload_n d_Y_shortestCycle_82 rfl (qs_iload_n d_Y_shortestCycle_83 rfl (qs_icmp_ge (tgt := 136) d_Y_shortestCycle_84 (by decide) sn_Y_shortestCycle_136 (qs_iload_n d_Y_shortestCycle_87 rfl (qs_iload d_Y_shortestCycle_88 (qs_iadd d_Y_shortestCycle_90 (qs_iconst d_Y_shortestCycle_91 (by decide) (qs_isub d_Y_shortestCycle_92 (qs_iload_n d_Y_shortestCycle_93 rfl (qs_iload_n d_Y_shortestCycle_94 rfl (qs_iadd d_Y_shortestCycle_95 (qs_iconst d_Y_shortestCycle_96 (by decide) (qs_idiv d_Y_shortestCycle_97 (qs_min d_Y_shortestCycle_98 wk_779 (by decide) (by decide) (qs_istore d_Y_shortestCycle_101 (by decide) (qs_aload_n d_Y_shortestCycle_103 rfl (qs_iload d_Y_shortestCycle_104 (qs_iload_n d_Y_shortestCycle_106 rfl (qs_invV hc_Ph_tt (fun _ _ _ => trivial) d_Y_shortestCycle_107 zz_Y_hasLineBy wk_770 ⟨wk_772, wk_19⟩ ⟨_, rfl, rfl⟩ ⟨by decide, by decide⟩ (qs_if_eq (tgt := 119) d_Y_shortestCycle_110 (by decide) sn_Y_shortestCycle_119 (qs_iload d_Y_shortestCycle_113 (qs_istore_n d_Y_shortestCycle_115 rfl (by decide) (qs_goto (tgt := 130) d_Y_shortestCycle_116 (by decide) sn_Y_shortestCycle_130))))))))))))))))))))))))))
def vc_Y_shortestCycle_68 (r : Option Value) (hf : hc_H) (J : Nat → hc_K) (lv : hc_L) (st : List Value) (h : hc_H) : Prop := (qi_push (nI 1) (qi_istore 4 (qi_push (nI 0) (qi_istore 5 (J 74))))) lv st h
theorem sn_Y_shortestCycle_68 {Ph : Nat → State → Prop} {h0 hf : hc_H} {r : Option Value} : qk Ph M_Y_shortestCycle h0 hf r 68 (vc_Y_shortestCycle_68 r hf (cx Ph M_Y_shortestCycle h0 hf r)) := (qs_iconst d_Y_shortestCycle_68 (by decide) (qs_istore d_Y_shortestCycle_69 (by decide) (qs_iconst d_Y_shortestCycle_71 (by decide) (qs_istore d_Y_shortestCycle_72 (by decide) (fun _ _ _ h9 => h9)))))
def vc_Y_shortestCycle_0 (r : Option Value) (hf : hc_H) (J : Nat → hc_K) (lv : hc_L) (st : List Value) (h : hc_H) : Prop := (qi_aload 0 (qi_get 4 0 (qi_invV hc_tt M_P_longestTime 0 2 (qi_aload 0 (qi_get 4 0 (qi_invV hc_tt M_P_total 0 2 (qi_iload 1 (qi_invS hc_tt M_P_roundedUp 2 (qi_max (qi_istore 2 (qi_aload 0 (qi_get 4 0 (qi_invV hc_tt M_P_total 0 2 (qi_istore 3 (qi_aload 0 (qi_get 4 1 (qi_aload 0 (qi_get 4 0 (qi_invV hc_tt M_P_copy 1 2 (qi_aload 0 (qi_aload 0 (qi_get 4 1 (qi_invV hc_tt M_Y_measure 1 4 (qi_aload 0 (qi_get 4 2 (qi_invV hc_tt M_L_freeAll 0 0 (qi_aload 0 (qi_iload 3 (qi_iload 1 (qi_invV hc_tt M_Y_hasLineBy 2 4 (qi_if_ne (vc_Y_shortestCycle_68 r hf J) (qi_push (-4) (qi_iret r hf))))))))))))))))))))))))))))))))) lv st h
theorem sn_Y_shortestCycle_0 {Ph : Nat → State → Prop} {h0 hf : hc_H} {r : Option Value} : qk Ph M_Y_shortestCycle h0 hf r 0 (vc_Y_shortestCycle_0 r hf (cx Ph M_Y_shortestCycle h0 hf r)) := (qs_aload_n d_Y_shortestCycle_0 rfl (qs_get d_Y_shortestCycle_1 ff_Y_18 (qs_invV hc_Ph_tt (fun _ _ _ => trivial) d_Y_shortestCycle_4 zz_P_longestTime wk_763 ⟨wk_764, wk_765⟩ ⟨_, rfl, rfl⟩ ⟨by decide, by decide⟩ (qs_aload_n d_Y_shortestCycle_7 rfl (qs_get d_Y_shortestCycle_8 ff_Y_18 (qs_invV hc_Ph_tt (fun _ _ _ => trivial) d_Y_shortestCycle_11 zz_P_total wk_767 ⟨wk_623, wk_624⟩ ⟨_, rfl, rfl⟩ ⟨by decide, by decide⟩ (qs_iload_n d_Y_shortestCycle_14 rfl (qs_invS hc_Ph_tt (fun _ _ _ => trivial) d_Y_shortestCycle_15 zz_P_roundedUp wk_768 wk_628 ⟨by decide, by decide⟩ (qs_max d_Y_shortestCycle_18 wk_642 (by decide) (by decide) (qs_istore_n d_Y_shortestCycle_21 rfl (by decide) (qs_aload_n d_Y_shortestCycle_22 rfl (qs_get d_Y_shortestCycle_23 ff_Y_18 (qs_invV hc_Ph_tt (fun _ _ _ => trivial) d_Y_shortestCycle_26 zz_P_total wk_767 ⟨wk_623, wk_624⟩ ⟨_, rfl, rfl⟩ ⟨by decide, by decide⟩ (qs_istore_n d_Y_shortestCycle_29 rfl (by decide) (qs_aload_n d_Y_shortestCycle_30 rfl (qs_get d_Y_shortestCycle_31 ff_Y_22 (qs_aload_n d_Y_shortestCycle_34 rfl (qs_get d_Y_shortestCycle_35 ff_Y_18 (qs_invV hc_Ph_tt (fun _ _ _ => trivial) d_Y_shortestCycle_38 zz_P_copy wk_769 ⟨wk_436, wk_437⟩ ⟨_, rfl, rfl⟩ ⟨by decide, by decide⟩ (qs_aload_n d_Y_shortestCycle_41 rfl (qs_aload_n d_Y_shortestCycle_42 rfl (qs_get d_Y_shortestCycle_43 ff_Y_22 (qs_invV hc_Ph_tt (fun _ _ _ => trivial) d_Y_shortestCycle_46 zz_Y_measure wk_575 ⟨wk_577, wk_11⟩ ⟨_, rfl, rfl⟩ ⟨by decide, by decide⟩ (qs_aload_n d_Y_shortestCycle_49 rfl (qs_get d_Y_shortestCycle_50 ff_Y_36 (qs_invV hc_Ph_tt (fun _ _ _ => trivial) d_Y_shortestCycle_53 zz_L_freeAll wk_672 ⟨wk_673, wk_674⟩ ⟨_, rfl, rfl⟩ ⟨by decide, by decide⟩ (qs_aload_n d_Y_shortestCycle_56 rfl (qs_iload_n d_Y_shortestCycle_57 rfl (qs_iload_n d_Y_shortestCycle_58 rfl (qs_invV hc_Ph_tt (fun _ _ _ => trivial) d_Y_shortestCycle_59 zz_Y_hasLineBy wk_770 ⟨wk_772, wk_19⟩ ⟨_, rfl, rfl⟩ ⟨by decide, by decide⟩ (qs_if_ne (tgt := 68) d_Y_shortestCycle_62 (by decide) sn_Y_shortestCycle_68 (qs_bipush d_Y_shortestCycle_65 (by decide) (qs_iret d_Y_shortestCycle_67 rfl)))))))))))))))))))))))))))))))))
/-! BalancedLine$Study.listedBinding(I)I -/
abbrev M_Y_listedBinding : hc_M := (⟨"BalancedLine$Study", "listedBinding", "(I)I"⟩, prog_6_method_15_code, 2, (some .int), 0, 0)
theorem d_Y_listedBinding_0 : decode (mC M_Y_listedBinding) 0 = .ok (.iload_n 1, 1) := by decide +kernel
theorem d_Y_listedBinding_1 : decode (mC M_Y_listedBinding) 1 = .ok (.ifCond .ge 8, 3) := by decide +kernel
theorem d_Y_listedBinding_4 : decode (mC M_Y_listedBinding) 4 = .ok (.aload_n 0, 1) := by decide +kernel
theorem d_Y_listedBinding_5 : decode (mC M_Y_listedBinding) 5 = .ok (.getfield 148, 3) := by decide +kernel
theorem d_Y_listedBinding_8 : decode (mC M_Y_listedBinding) 8 = .ok (.ireturn, 1) := by decide +kernel
theorem d_Y_listedBinding_9 : decode (mC M_Y_listedBinding) 9 = .ok (.iload_n 1, 1) := by decide +kernel
theorem d_Y_listedBinding_10 : decode (mC M_Y_listedBinding) 10 = .ok (.aload_n 0, 1) := by decide +kernel
theorem d_Y_listedBinding_11 : decode (mC M_Y_listedBinding) 11 = .ok (.getfield 148, 3) := by decide +kernel
theorem d_Y_listedBinding_14 : decode (mC M_Y_listedBinding) 14 = .ok (.if_icmp .ge 12, 3) := by decide +kernel
theorem d_Y_listedBinding_17 : decode (mC M_Y_listedBinding) 17 = .ok (.aload_n 0, 1) := by decide +kernel
theorem d_Y_listedBinding_18 : decode (mC M_Y_listedBinding) 18 = .ok (.getfield 15, 3) := by decide +kernel
theorem d_Y_listedBinding_21 : decode (mC M_Y_listedBinding) 21 = .ok (.iload_n 1, 1) := by decide +kernel
theorem d_Y_listedBinding_22 : decode (mC M_Y_listedBinding) 22 = .ok (.iaload, 1) := by decide +kernel
theorem d_Y_listedBinding_23 : decode (mC M_Y_listedBinding) 23 = .ok (.goto 5, 3) := by decide +kernel
theorem d_Y_listedBinding_26 : decode (mC M_Y_listedBinding) 26 = .ok (.bipush (-4), 2) := by decide +kernel
theorem d_Y_listedBinding_28 : decode (mC M_Y_listedBinding) 28 = .ok (.ireturn, 1) := by decide +kernel
def vc_Y_listedBinding_28 (r : Option Value) (hf : hc_H) (J : Nat → hc_K) (lv : hc_L) (st : List Value) (h : hc_H) : Prop := (qi_iret r hf) lv st h
theorem sn_Y_listedBinding_28 {Ph : Nat → State → Prop} {h0 hf : hc_H} {r : Option Value} : qk Ph M_Y_listedBinding h0 hf r 28 (vc_Y_listedBinding_28 r hf (cx Ph M_Y_listedBinding h0 hf r)) := (qs_iret d_Y_listedBinding_28 rfl)
def vc_Y_listedBinding_26 (r : Option Value) (hf : hc_H) (J : Nat → hc_K) (lv : hc_L) (st : List Value) (h : hc_H) : Prop := (qi_push (-4) (vc_Y_listedBinding_28 r hf J)) lv st h
theorem sn_Y_listedBinding_26 {Ph : Nat → State → Prop} {h0 hf : hc_H} {r : Option Value} : qk Ph M_Y_listedBinding h0 hf r 26 (vc_Y_listedBinding_26 r hf (cx Ph M_Y_listedBinding h0 hf r)) := (qs_bipush d_Y_listedBinding_26 (by decide) sn_Y_listedBinding_28)
def vc_Y_listedBinding_9 (r : Option Value) (hf : hc_H) (J : Nat → hc_K) (lv : hc_L) (st : List Value) (h : hc_H) : Prop := (qi_iload 1 (qi_aload 0 (qi_get 4 11 (qi_icmp_ge (vc_Y_listedBinding_26 r hf J) (qi_aload 0 (qi_get 4 10 (qi_iload 1 (qi_iald 0 (vc_Y_listedBinding_28 r hf J))))))))) lv st h
theorem sn_Y_listedBinding_9 {Ph : Nat → State → Prop} {h0 hf : hc_H} {r : Option Value} : qk Ph M_Y_listedBinding h0 hf r 9 (vc_Y_listedBinding_9 r hf (cx Ph M_Y_listedBinding h0 hf r)) := (qs_iload_n d_Y_listedBinding_9 rfl (qs_aload_n d_Y_listedBinding_10 rfl (qs_get d_Y_listedBinding_11 ff_Y_148 (qs_icmp_ge (tgt := 26) d_Y_listedBinding_14 (by decide) sn_Y_listedBinding_26 (qs_aload_n d_Y_listedBinding_17 rfl (qs_get d_Y_listedBinding_18 ff_Y_15 (qs_iload_n d_Y_listedBinding_21 rfl (qs_iaload d_Y_listedBinding_22 (qs_goto (tgt := 28) d_Y_listedBinding_23 (by decide) sn_Y_listedBinding_28)))))))))
def vc_Y_listedBinding_0 (r : Option Value) (hf : hc_H) (J : Nat → hc_K) (lv : hc_L) (st : List Value) (h : hc_H) : Prop := (qi_iload 1 (qi_if_ge (vc_Y_listedBinding_9 r hf J) (qi_aload 0 (qi_get 4 11 (qi_iret r hf))))) lv st h
theorem sn_Y_listedBinding_0 {Ph : Nat → State → Prop} {h0 hf : hc_H} {r : Option Value} : qk Ph M_Y_listedBinding h0 hf r 0 (vc_Y_listedBinding_0 r hf (cx Ph M_Y_listedBinding h0 hf r)) := (qs_iload_n d_Y_listedBinding_0 rfl (qs_if_ge (tgt := 9) d_Y_listedBinding_1 (by decide) sn_Y_listedBinding_9 (qs_aload_n d_Y_listedBinding_4 rfl (qs_get d_Y_listedBinding_5 ff_Y_148 (qs_iret d_Y_listedBinding_8 rfl)))))
/-! BalancedLine$Study.isBinding(III)Z -/
abbrev M_Y_isBinding : hc_M := (⟨"BalancedLine$Study", "isBinding", "(III)Z"⟩, prog_6_method_17_code, 4, (some .boolean), 4, 97)
theorem d_Y_isBinding_0 : decode (mC M_Y_isBinding) 0 = .ok (.aload_n 0, 1) := by decide +kernel
theorem d_Y_isBinding_1 : decode (mC M_Y_isBinding) 1 = .ok (.getfield 22, 3) := by decide +kernel
theorem d_Y_isBinding_4 : decode (mC M_Y_isBinding) 4 = .ok (.aload_n 0, 1) := by decide +kernel
theorem d_Y_isBinding_5 : decode (mC M_Y_isBinding) 5 = .ok (.getfield 18, 3) := by decide +kernel
theorem d_Y_isBinding_8 : decode (mC M_Y_isBinding) 8 = .ok (.invokevirtual 114, 3) := by decide +kernel
theorem d_Y_isBinding_11 : decode (mC M_Y_isBinding) 11 = .ok (.aload_n 0, 1) := by decide +kernel
theorem d_Y_isBinding_12 : decode (mC M_Y_isBinding) 12 = .ok (.getfield 22, 3) := by decide +kernel
theorem d_Y_isBinding_15 : decode (mC M_Y_isBinding) 15 = .ok (.iload_n 1, 1) := by decide +kernel
theorem d_Y_isBinding_16 : decode (mC M_Y_isBinding) 16 = .ok (.iload_n 2, 1) := by decide +kernel
theorem d_Y_isBinding_17 : decode (mC M_Y_isBinding) 17 = .ok (.iconst 0, 1) := by decide +kernel
theorem d_Y_isBinding_18 : decode (mC M_Y_isBinding) 18 = .ok (.invokevirtual 164, 3) := by decide +kernel
theorem d_Y_isBinding_21 : decode (mC M_Y_isBinding) 21 = .ok (.aload_n 0, 1) := by decide +kernel
theorem d_Y_isBinding_22 : decode (mC M_Y_isBinding) 22 = .ok (.getfield 22, 3) := by decide +kernel
theorem d_Y_isBinding_25 : decode (mC M_Y_isBinding) 25 = .ok (.invokevirtual 65, 3) := by decide +kernel
theorem d_Y_isBinding_28 : decode (mC M_Y_isBinding) 28 = .ok (.iload_n 3, 1) := by decide +kernel
theorem d_Y_isBinding_29 : decode (mC M_Y_isBinding) 29 = .ok (.if_icmp .le 5, 3) := by decide +kernel
theorem d_Y_isBinding_32 : decode (mC M_Y_isBinding) 32 = .ok (.iconst 0, 1) := by decide +kernel
theorem d_Y_isBinding_33 : decode (mC M_Y_isBinding) 33 = .ok (.ireturn, 1) := by decide +kernel
theorem d_Y_isBinding_34 : decode (mC M_Y_isBinding) 34 = .ok (.aload_n 0, 1) := by decide +kernel
theorem d_Y_isBinding_35 : decode (mC M_Y_isBinding) 35 = .ok (.aload_n 0, 1) := by decide +kernel
theorem d_Y_isBinding_36 : decode (mC M_Y_isBinding) 36 = .ok (.getfield 22, 3) := by decide +kernel
theorem d_Y_isBinding_39 : decode (mC M_Y_isBinding) 39 = .ok (.invokevirtual 58, 3) := by decide +kernel
theorem d_Y_isBinding_42 : decode (mC M_Y_isBinding) 42 = .ok (.aload_n 0, 1) := by decide +kernel
theorem d_Y_isBinding_43 : decode (mC M_Y_isBinding) 43 = .ok (.getfield 36, 3) := by decide +kernel
theorem d_Y_isBinding_46 : decode (mC M_Y_isBinding) 46 = .ok (.invokevirtual 62, 3) := by decide +kernel
theorem d_Y_isBinding_49 : decode (mC M_Y_isBinding) 49 = .ok (.aload_n 0, 1) := by decide +kernel
theorem d_Y_isBinding_50 : decode (mC M_Y_isBinding) 50 = .ok (.getfield 36, 3) := by decide +kernel
theorem d_Y_isBinding_53 : decode (mC M_Y_isBinding) 53 = .ok (.iload_n 3, 1) := by decide +kernel
theorem d_Y_isBinding_54 : decode (mC M_Y_isBinding) 54 = .ok (.invokevirtual 145, 3) := by decide +kernel
theorem d_Y_isBinding_57 : decode (mC M_Y_isBinding) 57 = .ok (.ireturn, 1) := by decide +kernel
def vc_Y_isBinding_34 (r : Option Value) (hf : hc_H) (J : Nat → hc_K) (lv : hc_L) (st : List Value) (h : hc_H) : Prop := (qi_aload 0 (qi_aload 0 (qi_get 4 1 (qi_invV hc_tt M_Y_measure 1 4 (qi_aload 0 (qi_get 4 2 (qi_invV hc_tt M_L_freeAll 0 0 (qi_aload 0 (qi_get 4 2 (qi_iload 3 (qi_invV hc_tt M_L_hasLine 1 0 (qi_zret r hf)))))))))))) lv st h
theorem sn_Y_isBinding_34 {Ph : Nat → State → Prop} {h0 hf : hc_H} {r : Option Value} : qk Ph M_Y_isBinding h0 hf r 34 (vc_Y_isBinding_34 r hf (cx Ph M_Y_isBinding h0 hf r)) := (qs_aload_n d_Y_isBinding_34 rfl (qs_aload_n d_Y_isBinding_35 rfl (qs_get d_Y_isBinding_36 ff_Y_22 (qs_invV hc_Ph_tt (fun _ _ _ => trivial) d_Y_isBinding_39 zz_Y_measure wk_575 ⟨wk_577, wk_11⟩ ⟨_, rfl, rfl⟩ ⟨by decide, by decide⟩ (qs_aload_n d_Y_isBinding_42 rfl (qs_get d_Y_isBinding_43 ff_Y_36 (qs_invV hc_Ph_tt (fun _ _ _ => trivial) d_Y_isBinding_46 zz_L_freeAll wk_672 ⟨wk_673, wk_674⟩ ⟨_, rfl, rfl⟩ ⟨by decide, by decide⟩ (qs_aload_n d_Y_isBinding_49 rfl (qs_get d_Y_isBinding_50 ff_Y_36 (qs_iload_n d_Y_isBinding_53 rfl (qs_invV hc_Ph_tt (fun _ _ _ => trivial) d_Y_isBinding_54 zz_L_hasLine wk_775 ⟨wk_776, wk_777⟩ ⟨_, rfl, rfl⟩ ⟨by decide, by decide⟩ (qs_zret d_Y_isBinding_57 rfl))))))))))))
def vc_Y_isBinding_0 (r : Option Value) (hf : hc_H) (J : Nat → hc_K) (lv : hc_L) (st : List Value) (h : hc_H) : Prop := (qi_aload 0 (qi_get 4 1 (qi_aload 0 (qi_get 4 0 (qi_invV hc_tt M_P_copy 1 2 (qi_aload 0 (qi_get 4 1 (qi_iload 1 (qi_iload 2 (qi_push (nI 0) (qi_invV hc_tt M_P_setOrder 3 2 (qi_aload 0 (qi_get 4 1 (qi_invV hc_tt M_P_highestFloor 0 2 (qi_iload 3 (qi_icmp_le (vc_Y_isBinding_34 r hf J) (qi_push (nI 0) (qi_zret r hf)))))))))))))))))) lv st h
theorem sn_Y_isBinding_0 {Ph : Nat → State → Prop} {h0 hf : hc_H} {r : Option Value} : qk Ph M_Y_isBinding h0 hf r 0 (vc_Y_isBinding_0 r hf (cx Ph M_Y_isBinding h0 hf r)) := (qs_aload_n d_Y_isBinding_0 rfl (qs_get d_Y_isBinding_1 ff_Y_22 (qs_aload_n d_Y_isBinding_4 rfl (qs_get d_Y_isBinding_5 ff_Y_18 (qs_invV hc_Ph_tt (fun _ _ _ => trivial) d_Y_isBinding_8 zz_P_copy wk_769 ⟨wk_436, wk_437⟩ ⟨_, rfl, rfl⟩ ⟨by decide, by decide⟩ (qs_aload_n d_Y_isBinding_11 rfl (qs_get d_Y_isBinding_12 ff_Y_22 (qs_iload_n d_Y_isBinding_15 rfl (qs_iload_n d_Y_isBinding_16 rfl (qs_iconst d_Y_isBinding_17 (by decide) (qs_invV hc_Ph_tt (fun _ _ _ => trivial) d_Y_isBinding_18 zz_P_setOrder wk_814 ⟨wk_275, wk_276⟩ ⟨_, rfl, rfl⟩ ⟨by decide, by decide⟩ (qs_aload_n d_Y_isBinding_21 rfl (qs_get d_Y_isBinding_22 ff_Y_22 (qs_invV hc_Ph_tt (fun _ _ _ => trivial) d_Y_isBinding_25 zz_P_highestFloor wk_614 ⟨wk_615, wk_616⟩ ⟨_, rfl, rfl⟩ ⟨by decide, by decide⟩ (qs_iload_n d_Y_isBinding_28 rfl (qs_icmp_le (tgt := 34) d_Y_isBinding_29 (by decide) sn_Y_isBinding_34 (qs_iconst d_Y_isBinding_32 (by decide) (qs_zret d_Y_isBinding_33 rfl))))))))))))))))))
/-! BalancedLine$Study.addBinding(I)V -/
abbrev M_Y_addBinding : hc_M := (⟨"BalancedLine$Study", "addBinding", "(I)V"⟩, prog_6_method_18_code, 2, none, 0, 0)
theorem d_Y_addBinding_0 : decode (mC M_Y_addBinding) 0 = .ok (.aload_n 0, 1) := by decide +kernel
theorem d_Y_addBinding_1 : decode (mC M_Y_addBinding) 1 = .ok (.getfield 148, 3) := by decide +kernel
theorem d_Y_addBinding_4 : decode (mC M_Y_addBinding) 4 = .ok (.bipush 66, 2) := by decide +kernel
theorem d_Y_addBinding_6 : decode (mC M_Y_addBinding) 6 = .ok (.if_icmp .ge 23, 3) := by decide +kernel
theorem d_Y_addBinding_9 : decode (mC M_Y_addBinding) 9 = .ok (.aload_n 0, 1) := by decide +kernel
theorem d_Y_addBinding_10 : decode (mC M_Y_addBinding) 10 = .ok (.getfield 15, 3) := by decide +kernel
theorem d_Y_addBinding_13 : decode (mC M_Y_addBinding) 13 = .ok (.aload_n 0, 1) := by decide +kernel
theorem d_Y_addBinding_14 : decode (mC M_Y_addBinding) 14 = .ok (.getfield 148, 3) := by decide +kernel
theorem d_Y_addBinding_17 : decode (mC M_Y_addBinding) 17 = .ok (.iload_n 1, 1) := by decide +kernel
theorem d_Y_addBinding_18 : decode (mC M_Y_addBinding) 18 = .ok (.iastore, 1) := by decide +kernel
theorem d_Y_addBinding_19 : decode (mC M_Y_addBinding) 19 = .ok (.aload_n 0, 1) := by decide +kernel
theorem d_Y_addBinding_20 : decode (mC M_Y_addBinding) 20 = .ok (.dup, 1) := by decide +kernel
theorem d_Y_addBinding_21 : decode (mC M_Y_addBinding) 21 = .ok (.getfield 148, 3) := by decide +kernel
theorem d_Y_addBinding_24 : decode (mC M_Y_addBinding) 24 = .ok (.iconst 1, 1) := by decide +kernel
theorem d_Y_addBinding_25 : decode (mC M_Y_addBinding) 25 = .ok (.iadd, 1) := by decide +kernel
theorem d_Y_addBinding_26 : decode (mC M_Y_addBinding) 26 = .ok (.putfield 148, 3) := by decide +kernel
theorem d_Y_addBinding_29 : decode (mC M_Y_addBinding) 29 = .ok (.return_, 1) := by decide +kernel
def vc_Y_addBinding_29 (r : Option Value) (hf : hc_H) (J : Nat → hc_K) (lv : hc_L) (st : List Value) (h : hc_H) : Prop := (qi_vret r hf) lv st h
theorem sn_Y_addBinding_29 {Ph : Nat → State → Prop} {h0 hf : hc_H} {r : Option Value} : qk Ph M_Y_addBinding h0 hf r 29 (vc_Y_addBinding_29 r hf (cx Ph M_Y_addBinding h0 hf r)) := (qs_vret d_Y_addBinding_29 rfl)
def vc_Y_addBinding_0 (r : Option Value) (hf : hc_H) (J : Nat → hc_K) (lv : hc_L) (st : List Value) (h : hc_H) : Prop := (qi_aload 0 (qi_get 4 11 (qi_push (nI 66) (qi_icmp_ge (vc_Y_addBinding_29 r hf J) (qi_aload 0 (qi_get 4 10 (qi_aload 0 (qi_get 4 11 (qi_iload 1 (qi_iast (qi_aload 0 (qi_dup (qi_get 4 11 (qi_push (nI 1) (qi_iadd (qi_put 4 11 .int (vc_Y_addBinding_29 r hf J))))))))))))))))) lv st h
theorem sn_Y_addBinding_0 {Ph : Nat → State → Prop} {h0 hf : hc_H} {r : Option Value} : qk Ph M_Y_addBinding h0 hf r 0 (vc_Y_addBinding_0 r hf (cx Ph M_Y_addBinding h0 hf r)) := (qs_aload_n d_Y_addBinding_0 rfl (qs_get d_Y_addBinding_1 ff_Y_148 (qs_bipush d_Y_addBinding_4 (by decide) (qs_icmp_ge (tgt := 29) d_Y_addBinding_6 (by decide) sn_Y_addBinding_29 (qs_aload_n d_Y_addBinding_9 rfl (qs_get d_Y_addBinding_10 ff_Y_15 (qs_aload_n d_Y_addBinding_13 rfl (qs_get d_Y_addBinding_14 ff_Y_148 (qs_iload_n d_Y_addBinding_17 rfl (qs_iastore d_Y_addBinding_18 (qs_aload_n d_Y_addBinding_19 rfl (qs_dup d_Y_addBinding_20 (qs_get d_Y_addBinding_21 ff_Y_148 (qs_iconst d_Y_addBinding_24 (by decide) (qs_iadd d_Y_addBinding_25 (qs_put d_Y_addBinding_26 ff_Y_148 ⟨_, _, _, rfl, rfl, by decide +kernel⟩ sn_Y_addBinding_29))))))))))))))))
theorem zz_Y_isBinding : hc_z M_Y_isBinding 3 := ⟨wk_813, wk_63, by decide +kernel⟩
theorem zz_Y_addBinding : hc_z M_Y_addBinding 1 := ⟨wk_818, wk_63, by decide +kernel⟩
theorem zz_Y_solve : hc_z M_Y_solve 0 := ⟨wk_671, wk_63, by decide +kernel⟩
/-! BalancedLine$Study.findBindings()V -/
abbrev M_Y_findBindings : hc_M := (⟨"BalancedLine$Study", "findBindings", "()V"⟩, prog_6_method_16_code, 4, none, 5, 120)
theorem d_Y_findBindings_0 : decode (mC M_Y_findBindings) 0 = .ok (.aload_n 0, 1) := by decide +kernel
theorem d_Y_findBindings_1 : decode (mC M_Y_findBindings) 1 = .ok (.getfield 47, 3) := by decide +kernel
theorem d_Y_findBindings_4 : decode (mC M_Y_findBindings) 4 = .ok (.ifCond .eq 4, 3) := by decide +kernel
theorem d_Y_findBindings_7 : decode (mC M_Y_findBindings) 7 = .ok (.return_, 1) := by decide +kernel
theorem d_Y_findBindings_8 : decode (mC M_Y_findBindings) 8 = .ok (.aload_n 0, 1) := by decide +kernel
theorem d_Y_findBindings_9 : decode (mC M_Y_findBindings) 9 = .ok (.invokevirtual 151, 3) := by decide +kernel
theorem d_Y_findBindings_12 : decode (mC M_Y_findBindings) 12 = .ok (.aload_n 0, 1) := by decide +kernel
theorem d_Y_findBindings_13 : decode (mC M_Y_findBindings) 13 = .ok (.getfield 73, 3) := by decide +kernel
theorem d_Y_findBindings_16 : decode (mC M_Y_findBindings) 16 = .ok (.bipush (-4), 2) := by decide +kernel
theorem d_Y_findBindings_18 : decode (mC M_Y_findBindings) 18 = .ok (.if_icmp .ne 13, 3) := by decide +kernel
theorem d_Y_findBindings_21 : decode (mC M_Y_findBindings) 21 = .ok (.aload_n 0, 1) := by decide +kernel
theorem d_Y_findBindings_22 : decode (mC M_Y_findBindings) 22 = .ok (.getfield 18, 3) := by decide +kernel
theorem d_Y_findBindings_25 : decode (mC M_Y_findBindings) 25 = .ok (.getfield 27, 3) := by decide +kernel
theorem d_Y_findBindings_28 : decode (mC M_Y_findBindings) 28 = .ok (.goto 9, 3) := by decide +kernel
theorem d_Y_findBindings_31 : decode (mC M_Y_findBindings) 31 = .ok (.aload_n 0, 1) := by decide +kernel
theorem d_Y_findBindings_32 : decode (mC M_Y_findBindings) 32 = .ok (.getfield 73, 3) := by decide +kernel
theorem d_Y_findBindings_35 : decode (mC M_Y_findBindings) 35 = .ok (.iconst 1, 1) := by decide +kernel
theorem d_Y_findBindings_36 : decode (mC M_Y_findBindings) 36 = .ok (.isub, 1) := by decide +kernel
theorem d_Y_findBindings_37 : decode (mC M_Y_findBindings) 37 = .ok (.istore_n 1, 1) := by decide +kernel
theorem d_Y_findBindings_38 : decode (mC M_Y_findBindings) 38 = .ok (.aload_n 0, 1) := by decide +kernel
theorem d_Y_findBindings_39 : decode (mC M_Y_findBindings) 39 = .ok (.iconst 0, 1) := by decide +kernel
theorem d_Y_findBindings_40 : decode (mC M_Y_findBindings) 40 = .ok (.putfield 148, 3) := by decide +kernel
theorem d_Y_findBindings_43 : decode (mC M_Y_findBindings) 43 = .ok (.iconst 0, 1) := by decide +kernel
theorem d_Y_findBindings_44 : decode (mC M_Y_findBindings) 44 = .ok (.istore_n 2, 1) := by decide +kernel
theorem d_Y_findBindings_45 : decode (mC M_Y_findBindings) 45 = .ok (.iload_n 2, 1) := by decide +kernel
theorem d_Y_findBindings_46 : decode (mC M_Y_findBindings) 46 = .ok (.aload_n 0, 1) := by decide +kernel
theorem d_Y_findBindings_47 : decode (mC M_Y_findBindings) 47 = .ok (.getfield 18, 3) := by decide +kernel
theorem d_Y_findBindings_50 : decode (mC M_Y_findBindings) 50 = .ok (.getfield 27, 3) := by decide +kernel
theorem d_Y_findBindings_53 : decode (mC M_Y_findBindings) 53 = .ok (.if_icmp .ge 60, 3) := by decide +kernel
theorem d_Y_findBindings_56 : decode (mC M_Y_findBindings) 56 = .ok (.iconst 0, 1) := by decide +kernel
theorem d_Y_findBindings_57 : decode (mC M_Y_findBindings) 57 = .ok (.istore_n 3, 1) := by decide +kernel
theorem d_Y_findBindings_58 : decode (mC M_Y_findBindings) 58 = .ok (.iload_n 3, 1) := by decide +kernel
theorem d_Y_findBindings_59 : decode (mC M_Y_findBindings) 59 = .ok (.aload_n 0, 1) := by decide +kernel
theorem d_Y_findBindings_60 : decode (mC M_Y_findBindings) 60 = .ok (.getfield 18, 3) := by decide +kernel
theorem d_Y_findBindings_63 : decode (mC M_Y_findBindings) 63 = .ok (.getfield 27, 3) := by decide +kernel
theorem d_Y_findBindings_66 : decode (mC M_Y_findBindings) 66 = .ok (.if_icmp .ge 41, 3) := by decide +kernel
theorem d_Y_findBindings_69 : decode (mC M_Y_findBindings) 69 = .ok (.aload_n 0, 1) := by decide +kernel
theorem d_Y_findBindings_70 : decode (mC M_Y_findBindings) 70 = .ok (.getfield 18, 3) := by decide +kernel
theorem d_Y_findBindings_73 : decode (mC M_Y_findBindings) 73 = .ok (.iload_n 3, 1) := by decide +kernel
theorem d_Y_findBindings_74 : decode (mC M_Y_findBindings) 74 = .ok (.iload_n 2, 1) := by decide +kernel
theorem d_Y_findBindings_75 : decode (mC M_Y_findBindings) 75 = .ok (.invokevirtual 154, 3) := by decide +kernel
theorem d_Y_findBindings_78 : decode (mC M_Y_findBindings) 78 = .ok (.ifCond .eq 23, 3) := by decide +kernel
theorem d_Y_findBindings_81 : decode (mC M_Y_findBindings) 81 = .ok (.aload_n 0, 1) := by decide +kernel
theorem d_Y_findBindings_82 : decode (mC M_Y_findBindings) 82 = .ok (.iload_n 2, 1) := by decide +kernel
theorem d_Y_findBindings_83 : decode (mC M_Y_findBindings) 83 = .ok (.iload_n 3, 1) := by decide +kernel
theorem d_Y_findBindings_84 : decode (mC M_Y_findBindings) 84 = .ok (.iload_n 1, 1) := by decide +kernel
theorem d_Y_findBindings_85 : decode (mC M_Y_findBindings) 85 = .ok (.invokevirtual 157, 3) := by decide +kernel
theorem d_Y_findBindings_88 : decode (mC M_Y_findBindings) 88 = .ok (.ifCond .eq 13, 3) := by decide +kernel
theorem d_Y_findBindings_91 : decode (mC M_Y_findBindings) 91 = .ok (.aload_n 0, 1) := by decide +kernel
theorem d_Y_findBindings_92 : decode (mC M_Y_findBindings) 92 = .ok (.bipush 100, 2) := by decide +kernel
theorem d_Y_findBindings_94 : decode (mC M_Y_findBindings) 94 = .ok (.iload_n 2, 1) := by decide +kernel
theorem d_Y_findBindings_95 : decode (mC M_Y_findBindings) 95 = .ok (.imul, 1) := by decide +kernel
theorem d_Y_findBindings_96 : decode (mC M_Y_findBindings) 96 = .ok (.iload_n 3, 1) := by decide +kernel
theorem d_Y_findBindings_97 : decode (mC M_Y_findBindings) 97 = .ok (.iadd, 1) := by decide +kernel
theorem d_Y_findBindings_98 : decode (mC M_Y_findBindings) 98 = .ok (.invokevirtual 161, 3) := by decide +kernel
theorem d_Y_findBindings_101 : decode (mC M_Y_findBindings) 101 = .ok (.iinc 3 1, 3) := by decide +kernel
theorem d_Y_findBindings_104 : decode (mC M_Y_findBindings) 104 = .ok (.goto (-46), 3) := by decide +kernel
theorem d_Y_findBindings_107 : decode (mC M_Y_findBindings) 107 = .ok (.iinc 2 1, 3) := by decide +kernel
theorem d_Y_findBindings_110 : decode (mC M_Y_findBindings) 110 = .ok (.goto (-65), 3) := by decide +kernel
theorem d_Y_findBindings_113 : decode (mC M_Y_findBindings) 113 = .ok (.aload_n 0, 1) := by decide +kernel
theorem d_Y_findBindings_114 : decode (mC M_Y_findBindings) 114 = .ok (.iconst 1, 1) := by decide +kernel
theorem d_Y_findBindings_115 : decode (mC M_Y_findBindings) 115 = .ok (.putfield 47, 3) := by decide +kernel
theorem d_Y_findBindings_118 : decode (mC M_Y_findBindings) 118 = .ok (.return_, 1) := by decide +kernel
def vc_Y_findBindings_113 (r : Option Value) (hf : hc_H) (J : Nat → hc_K) (lv : hc_L) (st : List Value) (h : hc_H) : Prop := (qi_aload 0 (qi_push (nI 1) (qi_put 4 5 .boolean (qi_vret r hf)))) lv st h
theorem sn_Y_findBindings_113 {Ph : Nat → State → Prop} {h0 hf : hc_H} {r : Option Value} : qk Ph M_Y_findBindings h0 hf r 113 (vc_Y_findBindings_113 r hf (cx Ph M_Y_findBindings h0 hf r)) := (qs_aload_n d_Y_findBindings_113 rfl (qs_iconst d_Y_findBindings_114 (by decide) (qs_put d_Y_findBindings_115 ff_Y_47 ⟨_, _, _, rfl, rfl, by decide +kernel⟩ (qs_vret d_Y_findBindings_118 rfl))))
def vc_Y_findBindings_107 (r : Option Value) (hf : hc_H) (J : Nat → hc_K) (lv : hc_L) (st : List Value) (h : hc_H) : Prop := (qi_iinc 2 (nI 1) (J 45)) lv st h
theorem sn_Y_findBindings_107 {Ph : Nat → State → Prop} {h0 hf : hc_H} {r : Option Value} : qk Ph M_Y_findBindings h0 hf r 107 (vc_Y_findBindings_107 r hf (cx Ph M_Y_findBindings h0 hf r)) := (qs_iinc d_Y_findBindings_107 (by decide) (by decide) (qs_goto (tgt := 45) d_Y_findBindings_110 (by decide) (fun _ _ _ h9 => h9)))
def vc_Y_findBindings_101 (r : Option Value) (hf : hc_H) (J : Nat → hc_K) (lv : hc_L) (st : List Value) (h : hc_H) : Prop := (qi_iinc 3 (nI 1) (J 58)) lv st h
theorem sn_Y_findBindings_101 {Ph : Nat → State → Prop} {h0 hf : hc_H} {r : Option Value} : qk Ph M_Y_findBindings h0 hf r 101 (vc_Y_findBindings_101 r hf (cx Ph M_Y_findBindings h0 hf r)) := (qs_iinc d_Y_findBindings_101 (by decide) (by decide) (qs_goto (tgt := 58) d_Y_findBindings_104 (by decide) (fun _ _ _ h9 => h9)))
def vc_Y_findBindings_58 (r : Option Value) (hf : hc_H) (J : Nat → hc_K) (lv : hc_L) (st : List Value) (h : hc_H) : Prop := (qi_iload 3 (qi_aload 0 (qi_get 4 0 (qi_get 2 0 (qi_icmp_ge (vc_Y_findBindings_107 r hf J) (qi_aload 0 (qi_get 4 0 (qi_iload 3 (qi_iload 2 (qi_invV hc_tt M_P_isBehind 2 2 (qi_if_eq (vc_Y_findBindings_101 r hf J) (qi_aload 0 (qi_iload 2 (qi_iload 3 (qi_iload 1 (qi_invV hc_tt M_Y_isBinding 3 4 (qi_if_eq (vc_Y_findBindings_101 r hf J) (qi_aload 0 (qi_push (nI 100) (qi_iload 2 (qi_imul (qi_iload 3 (qi_iadd (qi_invV hc_tt M_Y_addBinding 1 4 (vc_Y_findBindings_101 r hf J))))))))))))))))))))))))) lv st h
theorem sn_Y_findBindings_58 {Ph : Nat → State → Prop} {h0 hf : hc_H} {r : Option Value} : qk Ph M_Y_findBindings h0 hf r 58 (vc_Y_findBindings_58 r hf (cx Ph M_Y_findBindings h0 hf r)) := (qs_iload_n d_Y_findBindings_58 rfl (qs_aload_n d_Y_findBindings_59 rfl (qs_get d_Y_findBindings_60 ff_Y_18 (qs_get d_Y_findBindings_63 ff_Y_27 (qs_icmp_ge (tgt := 107) d_Y_findBindings_66 (by decide) sn_Y_findBindings_107 (qs_aload_n d_Y_findBindings_69 rfl (qs_get d_Y_findBindings_70 ff_Y_18 (qs_iload_n d_Y_findBindings_73 rfl (qs_iload_n d_Y_findBindings_74 rfl (qs_invV hc_Ph_tt (fun _ _ _ => trivial) d_Y_findBindings_75 zz_P_isBehind wk_809 ⟨wk_263, wk_264⟩ ⟨_, rfl, rfl⟩ ⟨by decide, by decide⟩ (qs_if_eq (tgt := 101) d_Y_findBindings_78 (by decide) sn_Y_findBindings_101 (qs_aload_n d_Y_findBindings_81 rfl (qs_iload_n d_Y_findBindings_82 rfl (qs_iload_n d_Y_findBindings_83 rfl (qs_iload_n d_Y_findBindings_84 rfl (qs_invV hc_Ph_tt (fun _ _ _ => trivial) d_Y_findBindings_85 zz_Y_isBinding wk_810 ⟨wk_812, wk_21⟩ ⟨_, rfl, rfl⟩ ⟨by decide, by decide⟩ (qs_if_eq (tgt := 101) d_Y_findBindings_88 (by decide) sn_Y_findBindings_101 (qs_aload_n d_Y_findBindings_91 rfl (qs_bipush d_Y_findBindings_92 (by decide) (qs_iload_n d_Y_findBindings_94 rfl (qs_imul d_Y_findBindings_95 (qs_iload_n d_Y_findBindings_96 rfl (qs_iadd d_Y_findBindings_97 (qs_invV hc_Ph_tt (fun _ _ _ => trivial) d_Y_findBindings_98 zz_Y_addBinding wk_815 ⟨wk_817, wk_22⟩ ⟨_, rfl, rfl⟩ ⟨by decide, by decide⟩ sn_Y_findBindings_101))))))))))))))))))))))))
def vc_Y_findBindings_45 (r : Option Value) (hf : hc_H) (J : Nat → hc_K) (lv : hc_L) (st : List Value) (h : hc_H) : Prop := (qi_iload 2 (qi_aload 0 (qi_get 4 0 (qi_get 2 0 (qi_icmp_ge (vc_Y_findBindings_113 r hf J) (qi_push (nI 0) (qi_istore 3 (J 58)))))))) lv st h
theorem sn_Y_findBindings_45 {Ph : Nat → State → Prop} {h0 hf : hc_H} {r : Option Value} : qk Ph M_Y_findBindings h0 hf r 45 (vc_Y_findBindings_45 r hf (cx Ph M_Y_findBindings h0 hf r)) := (qs_iload_n d_Y_findBindings_45 rfl (qs_aload_n d_Y_findBindings_46 rfl (qs_get d_Y_findBindings_47 ff_Y_18 (qs_get d_Y_findBindings_50 ff_Y_27 (qs_icmp_ge (tgt := 113) d_Y_findBindings_53 (by decide) sn_Y_findBindings_113 (qs_iconst d_Y_findBindings_56 (by decide) (qs_istore_n d_Y_findBindings_57 rfl (by decide) (fun _ _ _ h9 => h9))))))))
def vc_Y_findBindings_37 (r : Option Value) (hf : hc_H) (J : Nat → hc_K) (lv : hc_L) (st : List Value) (h : hc_H) : Prop := (qi_istore 1 (qi_aload 0 (qi_push (nI 0) (qi_put 4 11 .int (qi_push (nI 0) (qi_istore 2 (J 45))))))) lv st h
theorem sn_Y_findBindings_37 {Ph : Nat → State → Prop} {h0 hf : hc_H} {r : Option Value} : qk Ph M_Y_findBindings h0 hf r 37 (vc_Y_findBindings_37 r hf (cx Ph M_Y_findBindings h0 hf r)) := (qs_istore_n d_Y_findBindings_37 rfl (by decide) (qs_aload_n d_Y_findBindings_38 rfl (qs_iconst d_Y_findBindings_39 (by decide) (qs_put d_Y_findBindings_40 ff_Y_148 ⟨_, _, _, rfl, rfl, by decide +kernel⟩ (qs_iconst d_Y_findBindings_43 (by decide) (qs_istore_n d_Y_findBindings_44 rfl (by decide) (fun _ _ _ h9 => h9)))))))
def vc_Y_findBindings_31 (r : Option Value) (hf : hc_H) (J : Nat → hc_K) (lv : hc_L) (st : List Value) (h : hc_H) : Prop := (qi_aload 0 (qi_get 4 6 (qi_push (nI 1) (qi_isub (vc_Y_findBindings_37 r hf J))))) lv st h
theorem sn_Y_findBindings_31 {Ph : Nat → State → Prop} {h0 hf : hc_H} {r : Option Value} : qk Ph M_Y_findBindings h0 hf r 31 (vc_Y_findBindings_31 r hf (cx Ph M_Y_findBindings h0 hf r)) := (qs_aload_n d_Y_findBindings_31 rfl (qs_get d_Y_findBindings_32 ff_Y_73 (qs_iconst d_Y_findBindings_35 (by decide) (qs_isub d_Y_findBindings_36 sn_Y_findBindings_37))))
def vc_Y_findBindings_8 (r : Option Value) (hf : hc_H) (J : Nat → hc_K) (lv : hc_L) (st : List Value) (h : hc_H) : Prop := (qi_aload 0 (qi_invV hc_tt M_Y_solve 0 4 (qi_aload 0 (qi_get 4 6 (qi_push (-4) (qi_icmp_ne (vc_Y_findBindings_31 r hf J) (qi_aload 0 (qi_get 4 0 (qi_get 2 0 (vc_Y_findBindings_37 r hf J)))))))))) lv st h
theorem sn_Y_findBindings_8 {Ph : Nat → State → Prop} {h0 hf : hc_H} {r : Option Value} : qk Ph M_Y_findBindings h0 hf r 8 (vc_Y_findBindings_8 r hf (cx Ph M_Y_findBindings h0 hf r)) := (qs_aload_n d_Y_findBindings_8 rfl (qs_invV hc_Ph_tt (fun _ _ _ => trivial) d_Y_findBindings_9 zz_Y_solve wk_808 ⟨wk_669, wk_670⟩ ⟨_, rfl, rfl⟩ ⟨by decide, by decide⟩ (qs_aload_n d_Y_findBindings_12 rfl (qs_get d_Y_findBindings_13 ff_Y_73 (qs_bipush d_Y_findBindings_16 (by decide) (qs_icmp_ne (tgt := 31) d_Y_findBindings_18 (by decide) sn_Y_findBindings_31 (qs_aload_n d_Y_findBindings_21 rfl (qs_get d_Y_findBindings_22 ff_Y_18 (qs_get d_Y_findBindings_25 ff_Y_27 (qs_goto (tgt := 37) d_Y_findBindings_28 (by decide) sn_Y_findBindings_37))))))))))
def vc_Y_findBindings_0 (r : Option Value) (hf : hc_H) (J : Nat → hc_K) (lv : hc_L) (st : List Value) (h : hc_H) : Prop := (qi_aload 0 (qi_get 4 5 (qi_if_eq (vc_Y_findBindings_8 r hf J) (qi_vret r hf)))) lv st h
theorem sn_Y_findBindings_0 {Ph : Nat → State → Prop} {h0 hf : hc_H} {r : Option Value} : qk Ph M_Y_findBindings h0 hf r 0 (vc_Y_findBindings_0 r hf (cx Ph M_Y_findBindings h0 hf r)) := (qs_aload_n d_Y_findBindings_0 rfl (qs_get d_Y_findBindings_1 ff_Y_47 (qs_if_eq (tgt := 8) d_Y_findBindings_4 (by decide) sn_Y_findBindings_8 (qs_vret d_Y_findBindings_7 rfl))))
