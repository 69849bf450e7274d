section
-- ===== PART A: goes FIRST, ahead of the names: the tables' words, and 'selects' of the private methods out of them =====
/-- a private method of a class that the tables say can be made, by its rows of tables_1 -/
def lw_okq (q : MethodName × Nat) : Prop := (q.1.cls ≠ "java/lang/invoke/MethodHandle" ∧ q.1.cls ≠ "java/lang/invoke/VarHandle") ∧ Cond.instantiable q.1.cls q.2 ∈ tables_1 ∧ Cond.privateMethod q.1 ∈ tables_1 ∧ Cond.instanceMethod q.1 ∈ tables_1
theorem lw_p0 : lw_okq (⟨"BalancedLine$Script", "endOfItem", "(I)I"⟩, 2) := ⟨⟨by decide +kernel, by decide +kernel⟩, List.mem_of_getElem? (i := 25) (by decide +kernel), List.mem_of_getElem? (i := 167) (by decide +kernel), List.mem_of_getElem? (i := 168) (by decide +kernel)⟩
theorem lw_p1 : lw_okq (⟨"BalancedLine$Script", "takeItem", "(IILBalancedLine$Plan;)Z"⟩, 2) := ⟨⟨by decide +kernel, by decide +kernel⟩, List.mem_of_getElem? (i := 25) (by decide +kernel), List.mem_of_getElem? (i := 171) (by decide +kernel), List.mem_of_getElem? (i := 172) (by decide +kernel)⟩
theorem lw_p2 : lw_okq (⟨"BalancedLine$Script", "takeCycle", "(ILBalancedLine$Plan;)Z"⟩, 2) := ⟨⟨by decide +kernel, by decide +kernel⟩, List.mem_of_getElem? (i := 25) (by decide +kernel), List.mem_of_getElem? (i := 175) (by decide +kernel), List.mem_of_getElem? (i := 176) (by decide +kernel)⟩
theorem lw_p3 : lw_okq (⟨"BalancedLine$Script", "figures", "(III)I"⟩, 2) := ⟨⟨by decide +kernel, by decide +kernel⟩, List.mem_of_getElem? (i := 25) (by decide +kernel), List.mem_of_getElem? (i := 179) (by decide +kernel), List.mem_of_getElem? (i := 180) (by decide +kernel)⟩
theorem lw_p4 : lw_okq (⟨"BalancedLine$Script", "takeTask", "(IILBalancedLine$Plan;)Z"⟩, 2) := ⟨⟨by decide +kernel, by decide +kernel⟩, List.mem_of_getElem? (i := 25) (by decide +kernel), List.mem_of_getElem? (i := 186) (by decide +kernel), List.mem_of_getElem? (i := 187) (by decide +kernel)⟩
theorem lw_p5 : lw_okq (⟨"BalancedLine$Script", "takePair", "(ILBalancedLine$Plan;)Z"⟩, 2) := ⟨⟨by decide +kernel, by decide +kernel⟩, List.mem_of_getElem? (i := 25) (by decide +kernel), List.mem_of_getElem? (i := 194) (by decide +kernel), List.mem_of_getElem? (i := 195) (by decide +kernel)⟩
theorem lw_p6 : lw_okq (⟨"BalancedLine$Script", "takeOrder", "(IILBalancedLine$Plan;)Z"⟩, 2) := ⟨⟨by decide +kernel, by decide +kernel⟩, List.mem_of_getElem? (i := 25) (by decide +kernel), List.mem_of_getElem? (i := 206) (by decide +kernel), List.mem_of_getElem? (i := 207) (by decide +kernel)⟩
theorem lw_p7 : lw_okq (⟨"BalancedLine$Past", "dropOldest", "()V"⟩, 2) := ⟨⟨by decide +kernel, by decide +kernel⟩, List.mem_of_getElem? (i := 86) (by decide +kernel), List.mem_of_getElem? (i := 406) (by decide +kernel), List.mem_of_getElem? (i := 407) (by decide +kernel)⟩
theorem lw_p8 : lw_okq (⟨"BalancedLine", "settle", "()V"⟩, 5) := ⟨⟨by decide +kernel, by decide +kernel⟩, List.mem_of_getElem? (i := 17) (by decide +kernel), List.mem_of_getElem? (i := 411) (by decide +kernel), List.mem_of_getElem? (i := 412) (by decide +kernel)⟩
theorem lw_p9 : lw_okq (⟨"BalancedLine$Plan", "clash", "(III)I"⟩, 7) := ⟨⟨by decide +kernel, by decide +kernel⟩, List.mem_of_getElem? (i := 40) (by decide +kernel), List.mem_of_getElem? (i := 423) (by decide +kernel), List.mem_of_getElem? (i := 424) (by decide +kernel)⟩
theorem lw_p10 : lw_okq (⟨"BalancedLine$Study", "measureNow", "()V"⟩, 12) := ⟨⟨by decide +kernel, by decide +kernel⟩, List.mem_of_getElem? (i := 241) (by decide +kernel), List.mem_of_getElem? (i := 519) (by decide +kernel), List.mem_of_getElem? (i := 520) (by decide +kernel)⟩
theorem lw_p11 : lw_okq (⟨"BalancedLine$Study", "measure", "(LBalancedLine$Plan;)V"⟩, 12) := ⟨⟨by decide +kernel, by decide +kernel⟩, List.mem_of_getElem? (i := 241) (by decide +kernel), List.mem_of_getElem? (i := 523) (by decide +kernel), List.mem_of_getElem? (i := 524) (by decide +kernel)⟩
theorem lw_p12 : lw_okq (⟨"BalancedLine$Lines", "reach", "(II)V"⟩, 16) := ⟨⟨by decide +kernel, by decide +kernel⟩, List.mem_of_getElem? (i := 247) (by decide +kernel), List.mem_of_getElem? (i := 595) (by decide +kernel), List.mem_of_getElem? (i := 596) (by decide +kernel)⟩
theorem lw_p13 : lw_okq (⟨"BalancedLine$Lines", "canEndWithin", "(II)Z"⟩, 16) := ⟨⟨by decide +kernel, by decide +kernel⟩, List.mem_of_getElem? (i := 247) (by decide +kernel), List.mem_of_getElem? (i := 600) (by decide +kernel), List.mem_of_getElem? (i := 601) (by decide +kernel)⟩
theorem lw_p14 : lw_okq (⟨"BalancedLine$Lines", "stepFrom", "(I)V"⟩, 16) := ⟨⟨by decide +kernel, by decide +kernel⟩, List.mem_of_getElem? (i := 247) (by decide +kernel), List.mem_of_getElem? (i := 604) (by decide +kernel), List.mem_of_getElem? (i := 605) (by decide +kernel)⟩
theorem lw_p15 : lw_okq (⟨"BalancedLine$Lines", "stationDue", "(I)I"⟩, 16) := ⟨⟨by decide +kernel, by decide +kernel⟩, List.mem_of_getElem? (i := 247) (by decide +kernel), List.mem_of_getElem? (i := 608) (by decide +kernel), List.mem_of_getElem? (i := 609) (by decide +kernel)⟩
def lw_privs_1 : List (MethodName × Nat) := [(⟨"BalancedLine$Script", "endOfItem", "(I)I"⟩, 2), (⟨"BalancedLine$Script", "takeItem", "(IILBalancedLine$Plan;)Z"⟩, 2), (⟨"BalancedLine$Script", "takeCycle", "(ILBalancedLine$Plan;)Z"⟩, 2), (⟨"BalancedLine$Script", "figures", "(III)I"⟩, 2), (⟨"BalancedLine$Script", "takeTask", "(IILBalancedLine$Plan;)Z"⟩, 2), (⟨"BalancedLine$Script", "takePair", "(ILBalancedLine$Plan;)Z"⟩, 2), (⟨"BalancedLine$Script", "takeOrder", "(IILBalancedLine$Plan;)Z"⟩, 2), (⟨"BalancedLine$Past", "dropOldest", "()V"⟩, 2), (⟨"BalancedLine", "settle", "()V"⟩, 5), (⟨"BalancedLine$Plan", "clash", "(III)I"⟩, 7), (⟨"BalancedLine$Study", "measureNow", "()V"⟩, 12), (⟨"BalancedLine$Study", "measure", "(LBalancedLine$Plan;)V"⟩, 12), (⟨"BalancedLine$Lines", "reach", "(II)V"⟩, 16), (⟨"BalancedLine$Lines", "canEndWithin", "(II)Z"⟩, 16), (⟨"BalancedLine$Lines", "stepFrom", "(I)V"⟩, 16), (⟨"BalancedLine$Lines", "stationDue", "(I)I"⟩, 16)]
theorem lw_r1 : ∀ q ∈ lw_privs_1, lw_okq q := List.forall_mem_cons.mpr ⟨lw_p0, List.forall_mem_cons.mpr ⟨lw_p1, List.forall_mem_cons.mpr ⟨lw_p2, List.forall_mem_cons.mpr ⟨lw_p3, List.forall_mem_cons.mpr ⟨lw_p4, List.forall_mem_cons.mpr ⟨lw_p5, List.forall_mem_cons.mpr ⟨lw_p6, List.forall_mem_cons.mpr ⟨lw_p7, List.forall_mem_cons.mpr ⟨lw_p8, List.forall_mem_cons.mpr ⟨lw_p9, List.forall_mem_cons.mpr ⟨lw_p10, List.forall_mem_cons.mpr ⟨lw_p11, List.forall_mem_cons.mpr ⟨lw_p12, List.forall_mem_cons.mpr ⟨lw_p13, List.forall_mem_cons.mpr ⟨lw_p14, List.forall_mem_cons.mpr ⟨lw_p15, fun _ h => absurd h List.not_mem_nil⟩⟩⟩⟩⟩⟩⟩⟩⟩⟩⟩⟩⟩⟩⟩⟩
theorem lw_p16 : lw_okq (⟨"BalancedLine$Lines", "traceFrom", "(I)V"⟩, 16) := ⟨⟨by decide +kernel, by decide +kernel⟩, List.mem_of_getElem? (i := 247) (by decide +kernel), List.mem_of_getElem? (i := 628) (by decide +kernel), List.mem_of_getElem? (i := 629) (by decide +kernel)⟩
theorem lw_p17 : lw_okq (⟨"BalancedLine$Lines", "traceStep", "(III)V"⟩, 16) := ⟨⟨by decide +kernel, by decide +kernel⟩, List.mem_of_getElem? (i := 247) (by decide +kernel), List.mem_of_getElem? (i := 633) (by decide +kernel), List.mem_of_getElem? (i := 634) (by decide +kernel)⟩
theorem lw_p18 : lw_okq (⟨"BalancedLine$Lines", "findCovered", "()V"⟩, 16) := ⟨⟨by decide +kernel, by decide +kernel⟩, List.mem_of_getElem? (i := 247) (by decide +kernel), List.mem_of_getElem? (i := 675) (by decide +kernel), List.mem_of_getElem? (i := 676) (by decide +kernel)⟩
theorem lw_p19 : lw_okq (⟨"BalancedLine$Study", "hasLineBy", "(II)Z"⟩, 12) := ⟨⟨by decide +kernel, by decide +kernel⟩, List.mem_of_getElem? (i := 241) (by decide +kernel), List.mem_of_getElem? (i := 718) (by decide +kernel), List.mem_of_getElem? (i := 719) (by decide +kernel)⟩
theorem lw_p20 : lw_okq (⟨"BalancedLine$Study", "fewestOfTrial", "()I"⟩, 12) := ⟨⟨by decide +kernel, by decide +kernel⟩, List.mem_of_getElem? (i := 241) (by decide +kernel), List.mem_of_getElem? (i := 736) (by decide +kernel), List.mem_of_getElem? (i := 737) (by decide +kernel)⟩
theorem lw_p21 : lw_okq (⟨"BalancedLine$Study", "isBinding", "(III)Z"⟩, 12) := ⟨⟨by decide +kernel, by decide +kernel⟩, List.mem_of_getElem? (i := 241) (by decide +kernel), List.mem_of_getElem? (i := 758) (by decide +kernel), List.mem_of_getElem? (i := 759) (by decide +kernel)⟩
theorem lw_p22 : lw_okq (⟨"BalancedLine$Study", "addBinding", "(I)V"⟩, 12) := ⟨⟨by decide +kernel, by decide +kernel⟩, List.mem_of_getElem? (i := 241) (by decide +kernel), List.mem_of_getElem? (i := 763) (by decide +kernel), List.mem_of_getElem? (i := 764) (by decide +kernel)⟩
theorem lw_p23 : lw_okq (⟨"BalancedLine", "idleOfBest", "()I"⟩, 5) := ⟨⟨by decide +kernel, by decide +kernel⟩, List.mem_of_getElem? (i := 17) (by decide +kernel), List.mem_of_getElem? (i := 786) (by decide +kernel), List.mem_of_getElem? (i := 787) (by decide +kernel)⟩
theorem lw_p24 : lw_okq (⟨"BalancedLineModel", "item", "(IZ)Z"⟩, 15) := ⟨⟨by decide +kernel, by decide +kernel⟩, List.mem_of_getElem? (i := 790) (by decide +kernel), List.mem_of_getElem? (i := 862) (by decide +kernel), List.mem_of_getElem? (i := 863) (by decide +kernel)⟩
theorem lw_p25 : lw_okq (⟨"BalancedLineModel", "number", "(III)I"⟩, 15) := ⟨⟨by decide +kernel, by decide +kernel⟩, List.mem_of_getElem? (i := 790) (by decide +kernel), List.mem_of_getElem? (i := 866) (by decide +kernel), List.mem_of_getElem? (i := 867) (by decide +kernel)⟩
theorem lw_p26 : lw_okq (⟨"BalancedLineModel", "byteAt", "(I)I"⟩, 15) := ⟨⟨by decide +kernel, by decide +kernel⟩, List.mem_of_getElem? (i := 790) (by decide +kernel), List.mem_of_getElem? (i := 870) (by decide +kernel), List.mem_of_getElem? (i := 871) (by decide +kernel)⟩
theorem lw_p27 : lw_okq (⟨"BalancedLineModel", "pairItem", "(I)Z"⟩, 15) := ⟨⟨by decide +kernel, by decide +kernel⟩, List.mem_of_getElem? (i := 790) (by decide +kernel), List.mem_of_getElem? (i := 876) (by decide +kernel), List.mem_of_getElem? (i := 877) (by decide +kernel)⟩
theorem lw_p28 : lw_okq (⟨"BalancedLineModel", "tells", "(II)I"⟩, 15) := ⟨⟨by decide +kernel, by decide +kernel⟩, List.mem_of_getElem? (i := 790) (by decide +kernel), List.mem_of_getElem? (i := 900) (by decide +kernel), List.mem_of_getElem? (i := 901) (by decide +kernel)⟩
theorem lw_p29 : lw_okq (⟨"BalancedLineModel", "note", "()V"⟩, 15) := ⟨⟨by decide +kernel, by decide +kernel⟩, List.mem_of_getElem? (i := 790) (by decide +kernel), List.mem_of_getElem? (i := 904) (by decide +kernel), List.mem_of_getElem? (i := 905) (by decide +kernel)⟩
theorem lw_p30 : lw_okq (⟨"BalancedLineModel", "takesOff", "()V"⟩, 15) := ⟨⟨by decide +kernel, by decide +kernel⟩, List.mem_of_getElem? (i := 790) (by decide +kernel), List.mem_of_getElem? (i := 908) (by decide +kernel), List.mem_of_getElem? (i := 909) (by decide +kernel)⟩
theorem lw_p31 : lw_okq (⟨"BalancedLineModel", "whyNot", "(II)I"⟩, 15) := ⟨⟨by decide +kernel, by decide +kernel⟩, List.mem_of_getElem? (i := 790) (by decide +kernel), List.mem_of_getElem? (i := 912) (by decide +kernel), List.mem_of_getElem? (i := 913) (by decide +kernel)⟩
def lw_privs_2 : List (MethodName × Nat) := [(⟨"BalancedLine$Lines", "traceFrom", "(I)V"⟩, 16), (⟨"BalancedLine$Lines", "traceStep", "(III)V"⟩, 16), (⟨"BalancedLine$Lines", "findCovered", "()V"⟩, 16), (⟨"BalancedLine$Study", "hasLineBy", "(II)Z"⟩, 12), (⟨"BalancedLine$Study", "fewestOfTrial", "()I"⟩, 12), (⟨"BalancedLine$Study", "isBinding", "(III)Z"⟩, 12), (⟨"BalancedLine$Study", "addBinding", "(I)V"⟩, 12), (⟨"BalancedLine", "idleOfBest", "()I"⟩, 5), (⟨"BalancedLineModel", "item", "(IZ)Z"⟩, 15), (⟨"BalancedLineModel", "number", "(III)I"⟩, 15), (⟨"BalancedLineModel", "byteAt", "(I)I"⟩, 15), (⟨"BalancedLineModel", "pairItem", "(I)Z"⟩, 15), (⟨"BalancedLineModel", "tells", "(II)I"⟩, 15), (⟨"BalancedLineModel", "note", "()V"⟩, 15), (⟨"BalancedLineModel", "takesOff", "()V"⟩, 15), (⟨"BalancedLineModel", "whyNot", "(II)I"⟩, 15)]
theorem lw_r2 : ∀ q ∈ lw_privs_2, lw_okq q := List.forall_mem_cons.mpr ⟨lw_p16, List.forall_mem_cons.mpr ⟨lw_p17, List.forall_mem_cons.mpr ⟨lw_p18, List.forall_mem_cons.mpr ⟨lw_p19, List.forall_mem_cons.mpr ⟨lw_p20, List.forall_mem_cons.mpr ⟨lw_p21, List.forall_mem_cons.mpr ⟨lw_p22, List.forall_mem_cons.mpr ⟨lw_p23, List.forall_mem_cons.mpr ⟨lw_p24, List.forall_mem_cons.mpr ⟨lw_p25, List.forall_mem_cons.mpr ⟨lw_p26, List.forall_mem_cons.mpr ⟨lw_p27, List.forall_mem_cons.mpr ⟨lw_p28, List.forall_mem_cons.mpr ⟨lw_p29, List.forall_mem_cons.mpr ⟨lw_p30, List.forall_mem_cons.mpr ⟨lw_p31, fun _ h => absurd h List.not_mem_nil⟩⟩⟩⟩⟩⟩⟩⟩⟩⟩⟩⟩⟩⟩⟩⟩
theorem lw_p32 : lw_okq (⟨"BalancedLineModel", "putBy", "(II)I"⟩, 15) := ⟨⟨by decide +kernel, by decide +kernel⟩, List.mem_of_getElem? (i := 790) (by decide +kernel), List.mem_of_getElem? (i := 916) (by decide +kernel), List.mem_of_getElem? (i := 917) (by decide +kernel)⟩
theorem lw_p33 : lw_okq (⟨"BalancedLineModel", "aheadOf", "(I)I"⟩, 15) := ⟨⟨by decide +kernel, by decide +kernel⟩, List.mem_of_getElem? (i := 790) (by decide +kernel), List.mem_of_getElem? (i := 920) (by decide +kernel), List.mem_of_getElem? (i := 921) (by decide +kernel)⟩
theorem lw_p34 : lw_okq (⟨"BalancedLineModel", "putIn", "(I)I"⟩, 15) := ⟨⟨by decide +kernel, by decide +kernel⟩, List.mem_of_getElem? (i := 790) (by decide +kernel), List.mem_of_getElem? (i := 924) (by decide +kernel), List.mem_of_getElem? (i := 925) (by decide +kernel)⟩
theorem lw_p35 : lw_okq (⟨"BalancedLineModel", "timesOf", "(I)I"⟩, 15) := ⟨⟨by decide +kernel, by decide +kernel⟩, List.mem_of_getElem? (i := 790) (by decide +kernel), List.mem_of_getElem? (i := 928) (by decide +kernel), List.mem_of_getElem? (i := 929) (by decide +kernel)⟩
theorem lw_p36 : lw_okq (⟨"BalancedLineModel", "isTask", "(I)Z"⟩, 15) := ⟨⟨by decide +kernel, by decide +kernel⟩, List.mem_of_getElem? (i := 790) (by decide +kernel), List.mem_of_getElem? (i := 936) (by decide +kernel), List.mem_of_getElem? (i := 937) (by decide +kernel)⟩
theorem lw_p37 : lw_okq (⟨"BalancedLineModel", "isPair", "(II)Z"⟩, 15) := ⟨⟨by decide +kernel, by decide +kernel⟩, List.mem_of_getElem? (i := 790) (by decide +kernel), List.mem_of_getElem? (i := 945) (by decide +kernel), List.mem_of_getElem? (i := 946) (by decide +kernel)⟩
theorem lw_p38 : lw_okq (⟨"BalancedLineModel", "ordersMany", "()I"⟩, 15) := ⟨⟨by decide +kernel, by decide +kernel⟩, List.mem_of_getElem? (i := 790) (by decide +kernel), List.mem_of_getElem? (i := 949) (by decide +kernel), List.mem_of_getElem? (i := 950) (by decide +kernel)⟩
theorem lw_p39 : lw_okq (⟨"BalancedLineModel", "farBehind", "(I)I"⟩, 15) := ⟨⟨by decide +kernel, by decide +kernel⟩, List.mem_of_getElem? (i := 790) (by decide +kernel), List.mem_of_getElem? (i := 965) (by decide +kernel), List.mem_of_getElem? (i := 966) (by decide +kernel)⟩
theorem lw_p40 : lw_okq (⟨"BalancedLineModel", "fewestBy", "(I)I"⟩, 15) := ⟨⟨by decide +kernel, by decide +kernel⟩, List.mem_of_getElem? (i := 790) (by decide +kernel), List.mem_of_getElem? (i := 994) (by decide +kernel), List.mem_of_getElem? (i := 995) (by decide +kernel)⟩
theorem lw_p41 : lw_okq (⟨"BalancedLineModel", "findRest", "(I)I"⟩, 15) := ⟨⟨by decide +kernel, by decide +kernel⟩, List.mem_of_getElem? (i := 790) (by decide +kernel), List.mem_of_getElem? (i := 998) (by decide +kernel), List.mem_of_getElem? (i := 999) (by decide +kernel)⟩
theorem lw_p42 : lw_okq (⟨"BalancedLineModel", "findGood", "(I)V"⟩, 15) := ⟨⟨by decide +kernel, by decide +kernel⟩, List.mem_of_getElem? (i := 790) (by decide +kernel), List.mem_of_getElem? (i := 1002) (by decide +kernel), List.mem_of_getElem? (i := 1003) (by decide +kernel)⟩
theorem lw_p43 : lw_okq (⟨"BalancedLineModel", "all", "()I"⟩, 15) := ⟨⟨by decide +kernel, by decide +kernel⟩, List.mem_of_getElem? (i := 790) (by decide +kernel), List.mem_of_getElem? (i := 1006) (by decide +kernel), List.mem_of_getElem? (i := 1007) (by decide +kernel)⟩
theorem lw_p44 : lw_okq (⟨"BalancedLineModel", "isGood", "(II)Z"⟩, 15) := ⟨⟨by decide +kernel, by decide +kernel⟩, List.mem_of_getElem? (i := 790) (by decide +kernel), List.mem_of_getElem? (i := 1010) (by decide +kernel), List.mem_of_getElem? (i := 1011) (by decide +kernel)⟩
theorem lw_p45 : lw_okq (⟨"BalancedLineModel", "isNext", "(II)Z"⟩, 15) := ⟨⟨by decide +kernel, by decide +kernel⟩, List.mem_of_getElem? (i := 790) (by decide +kernel), List.mem_of_getElem? (i := 1014) (by decide +kernel), List.mem_of_getElem? (i := 1015) (by decide +kernel)⟩
theorem lw_p46 : lw_okq (⟨"BalancedLineModel", "fixAll", "()V"⟩, 15) := ⟨⟨by decide +kernel, by decide +kernel⟩, List.mem_of_getElem? (i := 790) (by decide +kernel), List.mem_of_getElem? (i := 1040) (by decide +kernel), List.mem_of_getElem? (i := 1041) (by decide +kernel)⟩
theorem lw_p47 : lw_okq (⟨"BalancedLineModel", "stationsOf", "(I)I"⟩, 15) := ⟨⟨by decide +kernel, by decide +kernel⟩, List.mem_of_getElem? (i := 790) (by decide +kernel), List.mem_of_getElem? (i := 1044) (by decide +kernel), List.mem_of_getElem? (i := 1045) (by decide +kernel)⟩
def lw_privs_3 : List (MethodName × Nat) := [(⟨"BalancedLineModel", "putBy", "(II)I"⟩, 15), (⟨"BalancedLineModel", "aheadOf", "(I)I"⟩, 15), (⟨"BalancedLineModel", "putIn", "(I)I"⟩, 15), (⟨"BalancedLineModel", "timesOf", "(I)I"⟩, 15), (⟨"BalancedLineModel", "isTask", "(I)Z"⟩, 15), (⟨"BalancedLineModel", "isPair", "(II)Z"⟩, 15), (⟨"BalancedLineModel", "ordersMany", "()I"⟩, 15), (⟨"BalancedLineModel", "farBehind", "(I)I"⟩, 15), (⟨"BalancedLineModel", "fewestBy", "(I)I"⟩, 15), (⟨"BalancedLineModel", "findRest", "(I)I"⟩, 15), (⟨"BalancedLineModel", "findGood", "(I)V"⟩, 15), (⟨"BalancedLineModel", "all", "()I"⟩, 15), (⟨"BalancedLineModel", "isGood", "(II)Z"⟩, 15), (⟨"BalancedLineModel", "isNext", "(II)Z"⟩, 15), (⟨"BalancedLineModel", "fixAll", "()V"⟩, 15), (⟨"BalancedLineModel", "stationsOf", "(I)I"⟩, 15)]
theorem lw_r3 : ∀ q ∈ lw_privs_3, lw_okq q := List.forall_mem_cons.mpr ⟨lw_p32, List.forall_mem_cons.mpr ⟨lw_p33, List.forall_mem_cons.mpr ⟨lw_p34, List.forall_mem_cons.mpr ⟨lw_p35, List.forall_mem_cons.mpr ⟨lw_p36, List.forall_mem_cons.mpr ⟨lw_p37, List.forall_mem_cons.mpr ⟨lw_p38, List.forall_mem_cons.mpr ⟨lw_p39, List.forall_mem_cons.mpr ⟨lw_p40, List.forall_mem_cons.mpr ⟨lw_p41, List.forall_mem_cons.mpr ⟨lw_p42, List.forall_mem_cons.mpr ⟨lw_p43, List.forall_mem_cons.mpr ⟨lw_p44, List.forall_mem_cons.mpr ⟨lw_p45, List.forall_mem_cons.mpr ⟨lw_p46, List.forall_mem_cons.mpr ⟨lw_p47, fun _ h => absurd h List.not_mem_nil⟩⟩⟩⟩⟩⟩⟩⟩⟩⟩⟩⟩⟩⟩⟩⟩
theorem lw_p48 : lw_okq (⟨"BalancedLineModel", "isBest", "(II)Z"⟩, 15) := ⟨⟨by decide +kernel, by decide +kernel⟩, List.mem_of_getElem? (i := 790) (by decide +kernel), List.mem_of_getElem? (i := 1048) (by decide +kernel), List.mem_of_getElem? (i := 1049) (by decide +kernel)⟩
theorem lw_p49 : lw_okq (⟨"BalancedLineModel", "loads", "(IZ)I"⟩, 15) := ⟨⟨by decide +kernel, by decide +kernel⟩, List.mem_of_getElem? (i := 790) (by decide +kernel), List.mem_of_getElem? (i := 1075) (by decide +kernel), List.mem_of_getElem? (i := 1076) (by decide +kernel)⟩
theorem lw_p50 : lw_okq (⟨"BalancedLineModel", "isFull", "(I)Z"⟩, 15) := ⟨⟨by decide +kernel, by decide +kernel⟩, List.mem_of_getElem? (i := 790) (by decide +kernel), List.mem_of_getElem? (i := 1079) (by decide +kernel), List.mem_of_getElem? (i := 1080) (by decide +kernel)⟩
theorem lw_p51 : lw_okq (⟨"BalancedLineModel", "pairsOf", "(I)I"⟩, 15) := ⟨⟨by decide +kernel, by decide +kernel⟩, List.mem_of_getElem? (i := 790) (by decide +kernel), List.mem_of_getElem? (i := 1095) (by decide +kernel), List.mem_of_getElem? (i := 1096) (by decide +kernel)⟩
theorem lw_p52 : lw_okq (⟨"BalancedLineModel", "hand", "(I)I"⟩, 15) := ⟨⟨by decide +kernel, by decide +kernel⟩, List.mem_of_getElem? (i := 790) (by decide +kernel), List.mem_of_getElem? (i := 1099) (by decide +kernel), List.mem_of_getElem? (i := 1100) (by decide +kernel)⟩
def lw_privs_4 : List (MethodName × Nat) := [(⟨"BalancedLineModel", "isBest", "(II)Z"⟩, 15), (⟨"BalancedLineModel", "loads", "(IZ)I"⟩, 15), (⟨"BalancedLineModel", "isFull", "(I)Z"⟩, 15), (⟨"BalancedLineModel", "pairsOf", "(I)I"⟩, 15), (⟨"BalancedLineModel", "hand", "(I)I"⟩, 15)]
theorem lw_r4 : ∀ q ∈ lw_privs_4, lw_okq q := List.forall_mem_cons.mpr ⟨lw_p48, List.forall_mem_cons.mpr ⟨lw_p49, List.forall_mem_cons.mpr ⟨lw_p50, List.forall_mem_cons.mpr ⟨lw_p51, List.forall_mem_cons.mpr ⟨lw_p52, fun _ h => absurd h List.not_mem_nil⟩⟩⟩⟩⟩
def lw_privs : List (MethodName × Nat) := lw_privs_1 ++ (lw_privs_2 ++ (lw_privs_3 ++ (lw_privs_4)))
def lw_tbl : List Cond := k2_sels lw_privs ++ tables_1
theorem lw_privs_ok : ∀ q ∈ lw_privs, lw_okq q := by
  show ∀ q ∈ lw_privs_1 ++ (lw_privs_2 ++ (lw_privs_3 ++ (lw_privs_4))), lw_okq q
  exact List.forall_mem_append.mpr ⟨lw_r1, List.forall_mem_append.mpr ⟨lw_r2, List.forall_mem_append.mpr ⟨lw_r3, lw_r4⟩⟩⟩
def RX0 : String := "BalancedLine$Lines"
def TX0 : u_T := fun k => match k with
  | 0 => ("BalancedLine$Lines", "sums", "[I", true)
  | 1 => ("BalancedLine$Lines", "wants", "[I", true)
  | 2 => ("BalancedLine$Lines", "mates", "[I", true)
  | 3 => ("BalancedLine$Lines", "foes", "[I", true)
  | 4 => ("BalancedLine$Lines", "needs", "[I", true)
  | 5 => ("BalancedLine$Lines", "levels", "[I", true)
  | 6 => ("BalancedLine$Lines", "ways", "[I", true)
  | 7 => ("BalancedLine$Lines", "isCovered", "[Z", true)
  | 8 => ("BalancedLine$Lines", "places", "[J", true)
  | 9 => ("BalancedLine$Lines", "spread", "[J", true)
  | 10 => ("BalancedLine$Lines", "heldAt", "[I", true)
  | 11 => ("BalancedLine$Lines", "fixedIn", "[I", true)
  | 12 => ("BalancedLine$Lines", "fixed", "I", false)
  | 13 => ("BalancedLine$Lines", "whole", "I", false)
  | 14 => ("BalancedLine$Lines", "pace", "I", false)
  | _ => ("BalancedLine$Lines", "usable", "I", false)
def tyX0 : Nat → FieldType := fun k => match k with
  | 0 => .array .int
  | 1 => .array .int
  | 2 => .array .int
  | 3 => .array .int
  | 4 => .array .int
  | 5 => .array .int
  | 6 => .array .int
  | 7 => .array .boolean
  | 8 => .array .long
  | 9 => .array .long
  | 10 => .array .int
  | 11 => .array .int
  | 12 => .int
  | 13 => .int
  | 14 => .int
  | _ => .int
theorem nmX0 : ∀ a, a < 16 → ∀ b, b < 16 → a ≠ b → (TX0 a).2.1 ≠ (TX0 b).2.1 := by decide +kernel
theorem tyX0_ok : ∀ k, k < 16 → parseFieldDescriptor (TX0 k).2.2.1 = some (tyX0 k) := by decide +kernel
def RX1 : String := "BalancedLine$Past"
def TX1 : u_T := fun k => match k with
  | 0 => ("BalancedLine$Past", "kept", "[LBalancedLine$Plan;", true)
  | _ => ("BalancedLine$Past", "size", "I", false)
def tyX1 : Nat → FieldType := fun k => match k with
  | 0 => .array (.object "BalancedLine$Plan")
  | _ => .int
theorem nmX1 : ∀ a, a < 2 → ∀ b, b < 2 → a ≠ b → (TX1 a).2.1 ≠ (TX1 b).2.1 := by decide +kernel
theorem tyX1_ok : ∀ k, k < 2 → parseFieldDescriptor (TX1 k).2.2.1 = some (tyX1 k) := by decide +kernel
def RX2 : String := "BalancedLine$Plan"
def TX2 : u_T := fun k => match k with
  | 0 => ("BalancedLine$Plan", "tasks", "I", false)
  | 1 => ("BalancedLine$Plan", "pace", "I", false)
  | 2 => ("BalancedLine$Plan", "times", "[I", true)
  | 3 => ("BalancedLine$Plan", "ahead", "[I", true)
  | 4 => ("BalancedLine$Plan", "apart", "[I", true)
  | 5 => ("BalancedLine$Plan", "joined", "[I", true)
  | _ => ("BalancedLine$Plan", "spots", "[I", true)
def tyX2 : Nat → FieldType := fun k => match k with
  | 0 => .int
  | 1 => .int
  | 2 => .array .int
  | 3 => .array .int
  | 4 => .array .int
  | 5 => .array .int
  | _ => .array .int
theorem nmX2 : ∀ a, a < 7 → ∀ b, b < 7 → a ≠ b → (TX2 a).2.1 ≠ (TX2 b).2.1 := by decide +kernel
theorem tyX2_ok : ∀ k, k < 7 → parseFieldDescriptor (TX2 k).2.2.1 = some (tyX2 k) := by decide +kernel
def RX3 : String := "BalancedLine$Script"
def TX3 : u_T := fun k => match k with
  | 0 => ("BalancedLine$Script", "letters", "[C", true)
  | _ => ("BalancedLine$Script", "length", "I", false)
def tyX3 : Nat → FieldType := fun k => match k with
  | 0 => .array .char
  | _ => .int
theorem nmX3 : ∀ a, a < 2 → ∀ b, b < 2 → a ≠ b → (TX3 a).2.1 ≠ (TX3 b).2.1 := by decide +kernel
theorem tyX3_ok : ∀ k, k < 2 → parseFieldDescriptor (TX3 k).2.2.1 = some (tyX3 k) := by decide +kernel
def RX4 : String := "BalancedLine$Study"
def TX4 : u_T := fun k => match k with
  | 0 => ("BalancedLine$Study", "now", "LBalancedLine$Plan;", true)
  | 1 => ("BalancedLine$Study", "trial", "LBalancedLine$Plan;", true)
  | 2 => ("BalancedLine$Study", "lines", "LBalancedLine$Lines;", false)
  | 3 => ("BalancedLine$Study", "isMeasured", "Z", false)
  | 4 => ("BalancedLine$Study", "isSolved", "Z", false)
  | 5 => ("BalancedLine$Study", "isBound", "Z", false)
  | 6 => ("BalancedLine$Study", "stations", "I", false)
  | 7 => ("BalancedLine$Study", "lineCount", "I", false)
  | 8 => ("BalancedLine$Study", "bestPlaces", "J", false)
  | 9 => ("BalancedLine$Study", "heldAt", "[I", true)
  | 10 => ("BalancedLine$Study", "bindings", "[I", true)
  | _ => ("BalancedLine$Study", "bindingCount", "I", false)
def tyX4 : Nat → FieldType := fun k => match k with
  | 0 => .object "BalancedLine$Plan"
  | 1 => .object "BalancedLine$Plan"
  | 2 => .object "BalancedLine$Lines"
  | 3 => .boolean
  | 4 => .boolean
  | 5 => .boolean
  | 6 => .int
  | 7 => .int
  | 8 => .long
  | 9 => .array .int
  | 10 => .array .int
  | _ => .int
theorem nmX4 : ∀ a, a < 12 → ∀ b, b < 12 → a ≠ b → (TX4 a).2.1 ≠ (TX4 b).2.1 := by decide +kernel
theorem tyX4_ok : ∀ k, k < 12 → parseFieldDescriptor (TX4 k).2.2.1 = some (tyX4 k) := by decide +kernel
def RX5 : String := "BalancedLine"
def TX5 : u_T := fun k => match k with
  | 0 => ("BalancedLine", "script", "LBalancedLine$Script;", true)
  | 1 => ("BalancedLine", "now", "LBalancedLine$Plan;", true)
  | 2 => ("BalancedLine", "draft", "LBalancedLine$Plan;", true)
  | 3 => ("BalancedLine", "past", "LBalancedLine$Past;", true)
  | _ => ("BalancedLine", "study", "LBalancedLine$Study;", true)
def tyX5 : Nat → FieldType := fun k => match k with
  | 0 => .object "BalancedLine$Script"
  | 1 => .object "BalancedLine$Plan"
  | 2 => .object "BalancedLine$Plan"
  | 3 => .object "BalancedLine$Past"
  | _ => .object "BalancedLine$Study"
theorem nmX5 : ∀ a, a < 5 → ∀ b, b < 5 → a ≠ b → (TX5 a).2.1 ≠ (TX5 b).2.1 := by decide +kernel
theorem tyX5_ok : ∀ k, k < 5 → parseFieldDescriptor (TX5 k).2.2.1 = some (tyX5 k) := by decide +kernel
def RX6 : String := "BalancedLineModel"
def TX6 : u_T := fun k => match k with
  | 0 => ("BalancedLineModel", "length", "I", false)
  | 1 => ("BalancedLineModel", "text", "[I", true)
  | 2 => ("BalancedLineModel", "now", "[I", true)
  | 3 => ("BalancedLineModel", "before", "[I", true)
  | 4 => ("BalancedLineModel", "undoMany", "I", false)
  | 5 => ("BalancedLineModel", "read", "[I", true)
  | 6 => ("BalancedLineModel", "spot", "I", false)
  | 7 => ("BalancedLineModel", "needs", "[I", true)
  | 8 => ("BalancedLineModel", "good", "[Z", true)
  | 9 => ("BalancedLineModel", "rest", "[I", true)
  | 10 => ("BalancedLineModel", "ways", "[I", true)
  | 11 => ("BalancedLineModel", "leads", "[Z", true)
  | 12 => ("BalancedLineModel", "comes", "[Z", true)
  | 13 => ("BalancedLineModel", "fixed", "[I", true)
  | _ => ("BalancedLineModel", "fixedSet", "I", false)
def tyX6 : Nat → FieldType := fun k => match k with
  | 0 => .int
  | 1 => .array .int
  | 2 => .array .int
  | 3 => .array .int
  | 4 => .int
  | 5 => .array .int
  | 6 => .int
  | 7 => .array .int
  | 8 => .array .boolean
  | 9 => .array .int
  | 10 => .array .int
  | 11 => .array .boolean
  | 12 => .array .boolean
  | 13 => .array .int
  | _ => .int
theorem nmX6 : ∀ a, a < 15 → ∀ b, b < 15 → a ≠ b → (TX6 a).2.1 ≠ (TX6 b).2.1 := by decide +kernel
theorem tyX6_ok : ∀ k, k < 15 → parseFieldDescriptor (TX6 k).2.2.1 = some (tyX6 k) := by decide +kernel
/-- the words that are carried into every call -/
def lw_g : List Cond := lw_tbl.filter goodWord
theorem lw_in {w : Cond} (i : Nat) (h : lw_tbl[i]? = some w) (hg : goodWord w = true) : w ∈ lw_g := List.mem_filter.mpr ⟨List.mem_of_getElem? h, hg⟩
end
section
/-! THE FRAME OF THE WALK: an abstract heap (address to cell, size, slots made), a method's contract over it (MA), a place in a method over it (cx). -/
abbrev hc_C : Type := (Nat × vp_A) ⊕ (Nat × List Value)
abbrev hc_H : Type := (Nat → Option hc_C) × Nat × Nat
abbrev hc_M : Type := MethodName × ByteArray × Nat × Option FieldType × Nat × Nat
abbrev hc_L : Type := List (Option Value)
abbrev hc_K : Type := hc_L → List Value → hc_H → Prop
abbrev mN (M : hc_M) : MethodName := M.1
abbrev mC (M : hc_M) : ByteArray := M.2.1
abbrev mL (M : hc_M) : Nat := M.2.2.1
abbrev mR (M : hc_M) : Option FieldType := M.2.2.2.1
abbrev mF (M : hc_M) : Nat := M.2.2.2.2.1
abbrev mO (M : hc_M) : Nat := M.2.2.2.2.2
def hc_cls : List vw_C := [(RX0, TX0, 16), (RX1, TX1, 2), (RX2, TX2, 7), (RX3, TX3, 2), (RX4, TX4, 12), (RX5, TX5, 5), (RX6, TX6, 15)]
def hc_E (tc : Nat → ClassId) (e : hc_C) : va_E := match e with
  | .inl (k, a) => .inl (tc k, a)
  | .inr o => .inr o
def hc_T (tc : Nat → ClassId) : List (ClassId × FieldType) := [(tc 0, .int), (tc 1, .boolean), (tc 2, .long), (tc 3, .char), (tc 4, .object "BalancedLine$Plan")]
def hc_set (h : hc_H) (a : Nat) (e : hc_C) : hc_H := (fun q => if q = a then some e else h.1 q, h.2)
def hc_new (h : hc_H) (e : hc_C) (n : Nat) : hc_H := (fun q => if q = h.2.1 then some e else h.1 q, h.2.1 + 1, h.2.2 + n)
def hc_W (D : va_G) (tc : Nat → ClassId) (bs : Nat) (h : hc_H) (H : Heap) : Prop := H.size = h.2.1 ∧ bs ≤ h.2.1 ∧ ∀ (a : Nat) (e : hc_C), h.1 a = some e → bs ≤ a ∧ va_at D hc_cls (a, hc_E tc e) H
abbrev hc_A (bs : Nat) : Nat → Prop := fun q => bs ≤ q
def hc_tt : Nat → State → Prop := fun _ _ => True
/-- what a method may take as given of its start, beside the world: kept while nothing old is written -/
def hc_Ph (Ph : Nat → State → Prop) : Prop := (∀ (bs : Nat) (u U : State), U.vm = u.vm → (∀ q : Nat, q < bs → U.heap[q]? = u.heap[q]?) → Ph bs u → Ph bs U) ∧ ∀ (bs : Nat) (u U : State), u.WarmedH U.vm → (∀ q : Nat, q < bs → U.heap[q]? = u.heap[q]?) → Ph bs u → Ph bs U
theorem hc_Ph_tt : hc_Ph hc_tt := ⟨fun _ _ _ _ _ _ => trivial, fun _ _ _ _ _ _ => trivial⟩
/-- words that aren't carried by the tables' list: calls among nest mates, arrays of Plan -/
def hc_N (U : State) : Prop := va_Nw (.methodLinkNest RX5 11 ⟨RX3, "<init>", "()V"⟩ RX5) U ∧ va_Nw (.methodLinkNest RX5 18 ⟨RX2, "<init>", "()V"⟩ RX5) U ∧ va_Nw (.methodLinkNest RX1 17 ⟨RX2, "<init>", "()V"⟩ RX5) U ∧ va_Nw (.methodLinkNest RX3 49 ⟨RX5, "isWithin", "(III)Z"⟩ RX5) U ∧ va_Nw (.methodLinkNest RX0 131 ⟨RX5, "isStation", "(I)Z"⟩ RX5) U ∧ va_AO "BalancedLine$Plan" U
theorem hc_N.same {u U : State} (h : U.vm = u.vm) (hN : hc_N u) : hc_N U := by
  obtain ⟨h1, h2, h3, h4, h5, h6⟩ := hN
  exact ⟨va_Nw.same rfl h.symm h1, va_Nw.same rfl h.symm h2, va_Nw.same rfl h.symm h3, va_Nw.same rfl h.symm h4, va_Nw.same rfl h.symm h5, va_AO.moved (by rw [h]; exact Vm.Alike.refl _) h6⟩
theorem hc_N.warm {u U : State} (h : u.WarmedH U.vm) (hN : hc_N u) : hc_N U := by
  obtain ⟨h1, h2, h3, h4, h5, h6⟩ := hN
  exact ⟨va_Nw.warmM h h1, va_Nw.warmM h h2, va_Nw.warmM h h3, va_Nw.warmM h h4, va_Nw.warmM h h5, va_AO.moved h.alike h6⟩
def hc_U (Ph : Nat → State → Prop) (D : va_G) (tc : Nat → ClassId) (bs : Nat) (h : hc_H) (U : State) : Prop := hc_W D tc bs h U.heap ∧ va_K D hc_cls (hc_T tc) U ∧ hc_N U ∧ Ph bs U
def hc_Q (D : va_G) (tc : Nat → ClassId) (bs : Nat) (r : Option Value) (h' : hc_H) : Array Value → State → Outcome → State → Prop := fun _ st oc t => oc = .returned r ∧ hc_W D tc bs h' t.heap ∧ va_F (hc_A bs) st t
def hc_R (M : hc_M) (h h' : hc_H) : Room := { frames := mF M, cells := h'.2.1 - h.2.1, slots := h'.2.2 - h.2.2, locals := mO M }
def hc_ws (M : hc_M) : List Cond := .code (mN M) (mC M) (mL M) (mR M) :: lw_g
/-- THE CONTRACT: called with as in the heap h, the method answers r and leaves h' -/
def MX (Ph : Nat → State → Prop) (M : hc_M) (as : List Value) (h : hc_H) (r : Option Value) (h' : hc_H) : Prop :=
  (h.2.1 ≤ h'.2.1 ∧ h.2.2 ≤ h'.2.2) ∧ ∀ (l : Launch) (D : va_G) (tc : Nat → ClassId) (bs : Nat), Met l (mN M) (hc_ws M) (hc_R M h h') (va_Pc as (hc_U Ph D tc bs h)) (hc_Q D tc bs r h') (h'.2.1 - h.2.1) (h'.2.2 - h.2.2) (hc_A bs)
abbrev MA (M : hc_M) (as : List Value) (h : hc_H) (r : Option Value) (h' : hc_H) : Prop := MX hc_tt M as h r h'
/-- local variables by their places; a long takes two, the second is none -/
def lget : hc_L → Nat → Option Value
  | [], _ => none
  | a :: _, 0 => a
  | _ :: t, n + 1 => lget t n
def lclr : Option Value → Option Value
  | some (.long _) => none
  | some (.double _) => none
  | x => x
def lset : hc_L → Nat → Value → hc_L
  | [], _, _ => []
  | _ :: t, 0, v => some v :: t
  | a :: t, 1, v => lclr a :: lset t 0 v
  | a :: t, n + 2, v => a :: lset t (n + 1) v
def lnon : hc_L → Nat → hc_L
  | [], _ => []
  | _ :: t, 0 => none :: t
  | a :: t, n + 1 => a :: lnon t n
def lvk (ls : Array Slot) (n : Nat) (lv : hc_L) : Prop := ls.size = n ∧ lv_wf ls ∧ ∀ (i : Nat) (v : Value), lget lv i = some v → ls[i]? = some (.val v)
theorem lget_lset : ∀ (lv : hc_L) (i : Nat) (v : Value) (j : Nat) (w : Value), lget (lset lv i v) j = some w → (j = i ∧ w = v) ∨ (j ≠ i ∧ lget lv j = some w ∧ ¬ (j + 1 = i ∧ w.category = 2)) := by
  intro lv
  induction lv with
  | nil => intro i v j w h; cases i <;> (try (rename_i n; cases n)) <;> simp [lset, lget] at h
  | cons a t ih =>
    intro i v j w h
    match i, j with
    | 0, 0 => simp [lset, lget] at h; exact Or.inl ⟨rfl, h.symm⟩
    | 0, j + 1 => simp [lset, lget] at h; exact Or.inr ⟨by omega, by simpa [lget] using h, by omega⟩
    | 1, 0 =>
      simp only [lset, lget] at h
      refine Or.inr ⟨by omega, ?_, ?_⟩
      · simp only [lget]
        cases a with
        | none => simp [lclr] at h
        | some b => cases b <;> simp [lclr] at h ⊢ <;> exact h
      · rintro ⟨-, hc⟩
        cases a with
        | none => simp [lclr] at h
        | some b => cases b <;> simp [lclr] at h <;> (subst h; simp [Value.category] at hc)
    | 1, j + 1 =>
      simp only [lset, lget] at h
      rcases ih 0 v j w h with ⟨h1, h2⟩ | ⟨h1, h2, h3⟩
      · exact Or.inl ⟨by omega, h2⟩
      · exact Or.inr ⟨by omega, by simpa [lget] using h2, by omega⟩
    | i + 2, 0 =>
      simp only [lset, lget] at h
      exact Or.inr ⟨by omega, by simpa [lget] using h, by omega⟩
    | i + 2, j + 1 =>
      simp only [lset, lget] at h
      rcases ih (i + 1) v j w h with ⟨h1, h2⟩ | ⟨h1, h2, h3⟩
      · exact Or.inl ⟨by omega, h2⟩
      · exact Or.inr ⟨by omega, by simpa [lget] using h2, fun q => h3 ⟨by omega, q.2⟩⟩
theorem lget_lnon : ∀ (lv : hc_L) (i j : Nat) (w : Value), lget (lnon lv i) j = some w → j ≠ i ∧ lget lv j = some w := by
  intro lv
  induction lv with
  | nil => intro i j w h; simp [lnon, lget] at h
  | cons a t ih =>
    intro i j w h
    match i, j with
    | 0, 0 => simp [lnon, lget] at h
    | 0, j + 1 => simp only [lnon, lget] at h; exact ⟨by omega, by simpa [lget] using h⟩
    | i + 1, 0 => simp only [lnon, lget] at h; exact ⟨by omega, by simpa [lget] using h⟩
    | i + 1, j + 1 =>
      simp only [lnon, lget] at h
      obtain ⟨h1, h2⟩ := ih i j w h
      exact ⟨by omega, by simpa [lget] using h2⟩
def lprs (lv : hc_L) : List (Nat × Value) := (List.range lv.length).filterMap fun i => (lget lv i).map fun v => (i, v)
theorem lget_lt : ∀ (lv : hc_L) (i : Nat) (v : Value), lget lv i = some v → i < lv.length := by
  intro lv
  induction lv with
  | nil => intro i v h; simp [lget] at h
  | cons a t ih =>
    intro i v h
    cases i with
    | zero => simp
    | succ i => simp only [lget] at h; have := ih i v h; simp; omega
theorem lprs_mem {lv : hc_L} {i : Nat} {v : Value} : (i, v) ∈ lprs lv ↔ lget lv i = some v := by
  unfold lprs
  rw [List.mem_filterMap]
  constructor
  · rintro ⟨j, -, hj⟩
    cases hg : lget lv j with
    | none => rw [hg] at hj; cases hj
    | some w => rw [hg] at hj; simp at hj; obtain ⟨rfl, rfl⟩ := hj; exact hg
  · intro h
    exact ⟨i, List.mem_range.mpr (lget_lt lv i v h), by rw [h]; rfl⟩
theorem lvk.has {ls : Array Slot} {n : Nat} {lv : hc_L} (h : lvk ls n lv) : lv_has ls n (lprs lv) := ⟨h.1, h.2.1, fun q hq => h.2.2 q.1 q.2 (lprs_mem.mp hq)⟩
theorem lvk.st1 {ls' : Array Slot} {n i : Nat} {lv : hc_L} {v : Value} (h : lv_has ls' n ((i, v) :: (lprs lv).filter (fun q => !(q.1 == i) && !(q.1 + 1 == i && q.2.category == 2)))) : lvk ls' n (lset lv i v) := by
  refine ⟨h.1, h.2.1, fun j w hj => ?_⟩
  rcases lget_lset lv i v j w hj with ⟨rfl, rfl⟩ | ⟨h1, h2, h3⟩
  · exact h.2.2 (j, w) List.mem_cons_self
  · refine h.2.2 (j, w) (List.mem_cons_of_mem _ (List.mem_filter.mpr ⟨lprs_mem.mpr h2, ?_⟩))
    simp only [Bool.and_eq_true, Bool.not_eq_true', beq_eq_false_iff_ne, Bool.and_eq_false_iff]
    refine ⟨h1, ?_⟩
    by_cases hq : j + 1 = i
    · exact Or.inr (fun z => h3 ⟨hq, z⟩)
    · exact Or.inl hq
theorem lvk.st2 {ls' : Array Slot} {n i : Nat} {lv : hc_L} {v : Value} (h : lv_has ls' n ((i, v) :: (lprs lv).filter (fun q => !(q.1 == i) && (!(q.1 == i + 1) && !(q.1 + 1 == i && q.2.category == 2))))) : lvk ls' n (lnon (lset lv i v) (i + 1)) := by
  refine ⟨h.1, h.2.1, fun j w hj => ?_⟩
  obtain ⟨h0, hj⟩ := lget_lnon _ _ _ _ hj
  rcases lget_lset lv i v j w hj with ⟨rfl, rfl⟩ | ⟨h1, h2, h3⟩
  · exact h.2.2 (j, w) List.mem_cons_self
  · refine h.2.2 (j, w) (List.mem_cons_of_mem _ (List.mem_filter.mpr ⟨lprs_mem.mpr h2, ?_⟩))
    simp only [Bool.and_eq_true, Bool.not_eq_true', beq_eq_false_iff_ne, Bool.and_eq_false_iff]
    refine ⟨h1, h0, ?_⟩
    by_cases hq : j + 1 = i
    · exact Or.inr (fun z => h3 ⟨hq, z⟩)
    · exact Or.inl hq
/-- the method's own start: the machine, the code, the words, the classes -/
def cf (Ph : Nat → State → Prop) (M : hc_M) (h0 hf : hc_H) (p : Program) (s : State) (m : MethodId) (args : Array Value) (meth : Method) (c : Code) (D : va_G) (tc : Nat → ClassId) (bs : Nat) : Prop :=
  p.tables.exec = Jvm.exec ∧ c.code = mC M ∧ meth.sig.returnType = mR M ∧ c.maxLocals = mL M ∧ (∀ w ∈ hc_ws M, w.before args s = true) ∧ s.vm.findClass (mN M).cls = some m.cls ∧ meth.locks = false ∧ meth.name = (mN M).name ∧ va_K D hc_cls (hc_T tc) s ∧ hc_N s ∧ bs ≤ s.heap.size ∧ Ph bs s
/-- A PLACE: from pc, with these locals, this stack, this heap, the method comes to its end with r, hf -/
def cx (Ph : Nat → State → Prop) (M : hc_M) (h0 hf : hc_H) (r : Option Value) (pc : Nat) (lv : hc_L) (st : List Value) (h : hc_H) : Prop :=
  (h.2.1 ≤ hf.2.1 ∧ h.2.2 ≤ hf.2.2) ∧ ∀ (p : Program) (l : Launch) (e : Env) (s : State) (m : MethodId) (args : Array Value) (below : List Frame) (meth : Method) (c : Code) (D : va_G) (tc : Nat → ClassId) (bs : Nat), cf Ph M h0 hf p s m args meth c D tc bs → h0.2.1 ≤ h.2.1 → h0.2.2 ≤ h.2.2 → ∀ (H : Heap) (locs : List Loc) (ls : Array Slot), hc_W D tc bs h H → va_S (hc_A bs) s.heap H locs → lvk ls (mL M) lv →
    W p l e (hc_R M h0 hf) s m args below meth c H locs (h.2.1 - h0.2.1) (h.2.2 - h0.2.2) (MQ below (hc_Q D tc bs r hf) args s (hf.2.1 - h0.2.1) (hf.2.2 - h0.2.2) (hc_A bs)) (F0 m pc ls st)
section CX
variable {Ph : Nat → State → Prop} {M : hc_M} {h0 hf : hc_H} {r : Option Value} {pc : Nat} {K : hc_K}
/-- an instruction that leaves the heap -/
theorem cx.step {pc' : Nat} {lv lv' : hc_L} {st st' : List Value} {h : hc_H} (k : cx Ph M h0 hf r pc' lv' st' h)
    (f : ∀ (p : Program) (l : Launch) (e : Env) (R : Room) (s : State) (m : MethodId) (args : Array Value) (below : List Frame) (meth : Method) (c : Code) (H : Heap) (locs : List Loc) (cells slots : Nat) (Q : State → Prop) (ls : Array Slot), p.tables.exec = Jvm.exec → c.code = mC M → (∀ w ∈ hc_ws M, w.before args s = true) → s.vm.findClass (mN M).cls = some m.cls → lvk ls (mL M) lv → (∀ ls' : Array Slot, lvk ls' (mL M) lv' → W p l e R s m args below meth c H locs cells slots Q (F0 m pc' ls' st')) → W p l e R s m args below meth c H locs cells slots Q (F0 m pc ls st)) : cx Ph M h0 hf r pc lv st h := by
  refine ⟨k.1, fun p l e s m args below meth c D tc bs X g1 g2 H locs ls hW hS hl => ?_⟩
  exact f _ _ _ _ _ _ _ _ _ _ _ _ _ _ _ _ X.1 X.2.1 X.2.2.2.2.1 X.2.2.2.2.2.1 hl (fun ls' hl' => k.2 p l e s m args below meth c D tc bs X g1 g2 H locs ls' hW hS hl')
/-- a branch -/
theorem cx.two {pc1 pc2 : Nat} {A B : Prop} {lv : hc_L} {st st' : List Value} {h : hc_H} (dec : A ∨ B) (k1 : A → cx Ph M h0 hf r pc1 lv st' h) (k2 : B → cx Ph M h0 hf r pc2 lv st' h)
    (f : ∀ (p : Program) (l : Launch) (e : Env) (R : Room) (s : State) (m : MethodId) (args : Array Value) (below : List Frame) (meth : Method) (c : Code) (H : Heap) (locs : List Loc) (cells slots : Nat) (Q : State → Prop) (ls : Array Slot), p.tables.exec = Jvm.exec → c.code = mC M → (A → W p l e R s m args below meth c H locs cells slots Q (F0 m pc1 ls st')) → (B → W p l e R s m args below meth c H locs cells slots Q (F0 m pc2 ls st')) → W p l e R s m args below meth c H locs cells slots Q (F0 m pc ls st)) : cx Ph M h0 hf r pc lv st h := by
  refine ⟨?_, fun p l e s m args below meth c D tc bs X g1 g2 H locs ls hW hS hl => ?_⟩
  · rcases dec with a | b
    · exact (k1 a).1
    · exact (k2 b).1
  · exact f _ _ _ _ _ _ _ _ _ _ _ _ _ _ _ _ X.1 X.2.1 (fun a => (k1 a).2 p l e s m args below meth c D tc bs X g1 g2 H locs ls hW hS hl) (fun b => (k2 b).2 p l e s m args below meth c D tc bs X g1 g2 H locs ls hW hS hl)
end CX
end
section
/-! INSTRUCTIONS: qi_X K lv st h: what must hold at X so that K holds behind it; qs_X: it is so of the machine. Written by wip/whole/gen_instr.py. -/
section QI
variable {Ph : Nat → State → Prop} {M : hc_M} {h0 hf : hc_H} {r : Option Value} {pc : Nat} {K : hc_K}
abbrev qk (Ph : Nat → State → Prop) (M : hc_M) (h0 hf : hc_H) (r : Option Value) (pc : Nat) (K : hc_K) : Prop := ∀ (lv : hc_L) (st : List Value) (h : hc_H), K lv st h → cx Ph M h0 hf r pc lv st h
def qi_push (v : Int32) (K : hc_K) (lv : hc_L) (st : List Value) (h : hc_H) : Prop := K lv (.int v :: st) h
def qi_pushl (v : Int64) (K : hc_K) (lv : hc_L) (st : List Value) (h : hc_H) : Prop := K lv (.long v :: st) h
theorem qs_iconst {n : Int} {v : Int32} (hd : decode (mC M) pc = .ok (.iconst n, 1)) (hv : Int32.ofInt n = v) (k : qk Ph M h0 hf r (pc + 1) K) : qk Ph M h0 hf r pc (qi_push v K) := fun lv st h hi => (k lv _ h hi).step (fun p l e R s m args below meth c H locs cells slots Q ls hx hb hts hown hl kk => lv_iconst hx hb hd hv (kk ls hl))
theorem qs_bipush {n : Int} {v : Int32} (hd : decode (mC M) pc = .ok (.bipush n, 2)) (hv : (Int8.ofInt n).toInt32 = v) (k : qk Ph M h0 hf r (pc + 2) K) : qk Ph M h0 hf r pc (qi_push v K) := fun lv st h hi => (k lv _ h hi).step (fun p l e R s m args below meth c H locs cells slots Q ls hx hb hts hown hl kk => lv_bipush hx hb hd hv (kk ls hl))
theorem qs_sipush {n : Int} {v : Int32} (hd : decode (mC M) pc = .ok (.sipush n, 3)) (hv : (Int16.ofInt n).toInt32 = v) (k : qk Ph M h0 hf r (pc + 3) K) : qk Ph M h0 hf r pc (qi_push v K) := fun lv st h hi => (k lv _ h hi).step (fun p l e R s m args below meth c H locs cells slots Q ls hx hb hts hown hl kk => lv_sipush hx hb hd hv (kk ls hl))
theorem qs_lconst {n : Fin 2} {v : Int64} (hd : decode (mC M) pc = .ok (.lconst n, 1)) (hv : Int64.ofNat (n : Nat) = v) (k : qk Ph M h0 hf r (pc + 1) K) : qk Ph M h0 hf r pc (qi_pushl v K) := fun lv st h hi => (k lv _ h hi).step (fun p l e R s m args below meth c H locs cells slots Q ls hx hb hts hown hl kk => lv_lconst hx hb hd hv (kk ls hl))
theorem qs_ldc {index : Nat} {v : Int32} (hd : decode (mC M) pc = .ok (.ldc index, 2)) (hw : Cond.constant (mN M).cls index v ∈ lw_g) (k : qk Ph M h0 hf r (pc + 2) K) : qk Ph M h0 hf r pc (qi_push v K) := fun lv st h hi => (k lv _ h hi).step (fun p l e R s m args below meth c H locs cells slots Q ls hx hb hts hown hl kk => lv_ldc hx hb hown (hts _ (List.mem_cons_of_mem _ hw)) hd (kk ls hl))
theorem qs_ldc2 {index : Nat} {v : Int64} (hd : decode (mC M) pc = .ok (.ldc2_w index, 3)) (hw : Cond.constantLong (mN M).cls index v ∈ lw_g) (k : qk Ph M h0 hf r (pc + 3) K) : qk Ph M h0 hf r pc (qi_pushl v K) := fun lv st h hi => (k lv _ h hi).step (fun p l e R s m args below meth c H locs cells slots Q ls hx hb hts hown hl kk => lv_ldc2 hx hb hown (hts _ (List.mem_cons_of_mem _ hw)) hd (kk ls hl))
def qi_iload (i : Nat) (K : hc_K) (lv : hc_L) (st : List Value) (h : hc_H) : Prop := match lget lv i with
  | some (.int x) => K lv (.int x :: st) h
  | _ => False
theorem qs_iload_n {n : Fin 4} {i : Nat} (hd : decode (mC M) pc = .ok (.iload_n n, 1)) (hn : (n : Nat) = i) (k : qk Ph M h0 hf r (pc + 1) K) : qk Ph M h0 hf r pc (qi_iload i K) := by
  intro lv st h hi
  unfold qi_iload at hi
  split at hi
  · rename_i x hx0
    exact (k lv _ h hi).step (fun p l e R s m args below meth c H locs cells slots Q ls hx hb hts hown hl kk => lv_iload_n hx hb hd hn (hl.2.2 _ _ hx0) (kk ls hl))
  · exact hi.elim
theorem qs_iload {i : Nat} (hd : decode (mC M) pc = .ok (.iload i, 2)) (k : qk Ph M h0 hf r (pc + 2) K) : qk Ph M h0 hf r pc (qi_iload i K) := by
  intro lv st h hi
  unfold qi_iload at hi
  split at hi
  · rename_i x hx0
    exact (k lv _ h hi).step (fun p l e R s m args below meth c H locs cells slots Q ls hx hb hts hown hl kk => lv_iload hx hb hd (hl.2.2 _ _ hx0) (kk ls hl))
  · exact hi.elim
def qi_lload (i : Nat) (K : hc_K) (lv : hc_L) (st : List Value) (h : hc_H) : Prop := match lget lv i with
  | some (.long x) => K lv (.long x :: st) h
  | _ => False
theorem qs_lload_n {n : Fin 4} {i : Nat} (hd : decode (mC M) pc = .ok (.lload_n n, 1)) (hn : (n : Nat) = i) (k : qk Ph M h0 hf r (pc + 1) K) : qk Ph M h0 hf r pc (qi_lload i K) := by
  intro lv st h hi
  unfold qi_lload at hi
  split at hi
  · rename_i x hx0
    exact (k lv _ h hi).step (fun p l e R s m args below meth c H locs cells slots Q ls hx hb hts hown hl kk => lv_lload_n hx hb hd hn (hl.2.2 _ _ hx0) (kk ls hl))
  · exact hi.elim
theorem qs_lload {i : Nat} (hd : decode (mC M) pc = .ok (.lload i, 2)) (k : qk Ph M h0 hf r (pc + 2) K) : qk Ph M h0 hf r pc (qi_lload i K) := by
  intro lv st h hi
  unfold qi_lload at hi
  split at hi
  · rename_i x hx0
    exact (k lv _ h hi).step (fun p l e R s m args below meth c H locs cells slots Q ls hx hb hts hown hl kk => lv_lload hx hb hd (hl.2.2 _ _ hx0) (kk ls hl))
  · exact hi.elim
def qi_aload (i : Nat) (K : hc_K) (lv : hc_L) (st : List Value) (h : hc_H) : Prop := match lget lv i with
  | some (.ref x) => K lv (.ref x :: st) h
  | _ => False
theorem qs_aload_n {n : Fin 4} {i : Nat} (hd : decode (mC M) pc = .ok (.aload_n n, 1)) (hn : (n : Nat) = i) (k : qk Ph M h0 hf r (pc + 1) K) : qk Ph M h0 hf r pc (qi_aload i K) := by
  intro lv st h hi
  unfold qi_aload at hi
  split at hi
  · rename_i x hx0
    exact (k lv _ h hi).step (fun p l e R s m args below meth c H locs cells slots Q ls hx hb hts hown hl kk => lv_aload_n hx hb hd hn (hl.2.2 _ _ hx0) (kk ls hl))
  · exact hi.elim
theorem qs_aload {i : Nat} (hd : decode (mC M) pc = .ok (.aload i, 2)) (k : qk Ph M h0 hf r (pc + 2) K) : qk Ph M h0 hf r pc (qi_aload i K) := by
  intro lv st h hi
  unfold qi_aload at hi
  split at hi
  · rename_i x hx0
    exact (k lv _ h hi).step (fun p l e R s m args below meth c H locs cells slots Q ls hx hb hts hown hl kk => lv_aload hx hb hd (hl.2.2 _ _ hx0) (kk ls hl))
  · exact hi.elim
def qi_istore (i : Nat) (K : hc_K) : hc_L → List Value → hc_H → Prop
  | lv, .int x :: st, h => K (lset lv i (.int x)) st h
  | _, _, _ => False
theorem qs_istore_n {n : Fin 4} {i : Nat} (hd : decode (mC M) pc = .ok (.istore_n n, 1)) (hn : (n : Nat) = i) (hm : i < mL M) (k : qk Ph M h0 hf r (pc + 1) K) : qk Ph M h0 hf r pc (qi_istore i K) := by
  intro lv st h hi
  unfold qi_istore at hi
  split at hi
  · exact (k _ _ _ hi).step (fun p l e R s m args below meth c H locs cells slots Q ls hx hb hts hown hl kk => lv_istore_n hx hb hd hn hl.has hm rfl (fun ls' hl' => kk ls' (lvk.st1 hl')))
  · exact hi.elim
theorem qs_istore {i : Nat} (hd : decode (mC M) pc = .ok (.istore i, 2)) (hm : i < mL M) (k : qk Ph M h0 hf r (pc + 2) K) : qk Ph M h0 hf r pc (qi_istore i K) := by
  intro lv st h hi
  unfold qi_istore at hi
  split at hi
  · exact (k _ _ _ hi).step (fun p l e R s m args below meth c H locs cells slots Q ls hx hb hts hown hl kk => lv_istore hx hb hd hl.has hm rfl (fun ls' hl' => kk ls' (lvk.st1 hl')))
  · exact hi.elim
def qi_astore (i : Nat) (K : hc_K) : hc_L → List Value → hc_H → Prop
  | lv, .ref x :: st, h => K (lset lv i (.ref x)) st h
  | _, _, _ => False
theorem qs_astore_n {n : Fin 4} {i : Nat} (hd : decode (mC M) pc = .ok (.astore_n n, 1)) (hn : (n : Nat) = i) (hm : i < mL M) (k : qk Ph M h0 hf r (pc + 1) K) : qk Ph M h0 hf r pc (qi_astore i K) := by
  intro lv st h hi
  unfold qi_astore at hi
  split at hi
  · exact (k _ _ _ hi).step (fun p l e R s m args below meth c H locs cells slots Q ls hx hb hts hown hl kk => lv_astore_n hx hb hd hn hl.has hm rfl (fun ls' hl' => kk ls' (lvk.st1 hl')))
  · exact hi.elim
theorem qs_astore {i : Nat} (hd : decode (mC M) pc = .ok (.astore i, 2)) (hm : i < mL M) (k : qk Ph M h0 hf r (pc + 2) K) : qk Ph M h0 hf r pc (qi_astore i K) := by
  intro lv st h hi
  unfold qi_astore at hi
  split at hi
  · exact (k _ _ _ hi).step (fun p l e R s m args below meth c H locs cells slots Q ls hx hb hts hown hl kk => lv_astore hx hb hd hl.has hm rfl (fun ls' hl' => kk ls' (lvk.st1 hl')))
  · exact hi.elim
def qi_lstore (i : Nat) (K : hc_K) : hc_L → List Value → hc_H → Prop
  | lv, .long x :: st, h => K (lnon (lset lv i (.long x)) (i + 1)) st h
  | _, _, _ => False
theorem qs_lstore_n {n : Fin 4} {i : Nat} (hd : decode (mC M) pc = .ok (.lstore_n n, 1)) (hn : (n : Nat) = i) (hm : i + 1 < mL M) (k : qk Ph M h0 hf r (pc + 1) K) : qk Ph M h0 hf r pc (qi_lstore i K) := by
  intro lv st h hi
  unfold qi_lstore at hi
  split at hi
  · exact (k _ _ _ hi).step (fun p l e R s m args below meth c H locs cells slots Q ls hx hb hts hown hl kk => lv_lstore_n hx hb hd hn hl.has hm rfl (fun ls' hl' => kk ls' (lvk.st2 hl')))
  · exact hi.elim
theorem qs_lstore {i : Nat} (hd : decode (mC M) pc = .ok (.lstore i, 2)) (hm : i + 1 < mL M) (k : qk Ph M h0 hf r (pc + 2) K) : qk Ph M h0 hf r pc (qi_lstore i K) := by
  intro lv st h hi
  unfold qi_lstore at hi
  split at hi
  · exact (k _ _ _ hi).step (fun p l e R s m args below meth c H locs cells slots Q ls hx hb hts hown hl kk => lv_lstore hx hb hd hl.has hm rfl (fun ls' hl' => kk ls' (lvk.st2 hl')))
  · exact hi.elim
def qi_iinc (i : Nat) (v : Int32) (K : hc_K) (lv : hc_L) (st : List Value) (h : hc_H) : Prop := match lget lv i with
  | some (.int x) => K (lset lv i (.int (x + v))) st h
  | _ => False
theorem qs_iinc {i : Nat} {n : Int} {v : Int32} (hd : decode (mC M) pc = .ok (.iinc i n, 3)) (hv : Int32.ofInt n = v) (hm : i < mL M) (k : qk Ph M h0 hf r (pc + 3) K) : qk Ph M h0 hf r pc (qi_iinc i v K) := by
  intro lv st h hi
  unfold qi_iinc at hi
  split at hi
  · rename_i x hx0
    refine (k _ _ _ hi).step (fun p l e R s m args below meth c H locs cells slots Q ls hx hb hts hown hl kk => ?_)
    obtain ⟨q, hq⟩ := List.getElem?_of_mem (lprs_mem.mpr hx0)
    exact lv_iinc hx hb hd hl.has hq (by rw [hv]) hm rfl (fun ls' hl' => kk ls' (lvk.st1 hl'))
  · exact hi.elim
def qi_iadd (K : hc_K) : hc_L → List Value → hc_H → Prop
  | lv, .int y :: .int x :: st, h => K lv (.int (x + y) :: st) h
  | _, _, _ => False
theorem qs_iadd (hd : decode (mC M) pc = .ok (.iadd, 1)) (k : qk Ph M h0 hf r (pc + 1) K) : qk Ph M h0 hf r pc (qi_iadd K) := by
  intro lv st h hi
  unfold qi_iadd at hi
  split at hi
  · exact (k _ _ _ hi).step (fun p l e R s m args below meth c H locs cells slots Q ls hx hb hts hown hl kk => lv_iadd hx hb hd (kk ls hl))
  · exact hi.elim
def qi_isub (K : hc_K) : hc_L → List Value → hc_H → Prop
  | lv, .int y :: .int x :: st, h => K lv (.int (x - y) :: st) h
  | _, _, _ => False
theorem qs_isub (hd : decode (mC M) pc = .ok (.isub, 1)) (k : qk Ph M h0 hf r (pc + 1) K) : qk Ph M h0 hf r pc (qi_isub K) := by
  intro lv st h hi
  unfold qi_isub at hi
  split at hi
  · exact (k _ _ _ hi).step (fun p l e R s m args below meth c H locs cells slots Q ls hx hb hts hown hl kk => lv_isub hx hb hd (kk ls hl))
  · exact hi.elim
def qi_imul (K : hc_K) : hc_L → List Value → hc_H → Prop
  | lv, .int y :: .int x :: st, h => K lv (.int (x * y) :: st) h
  | _, _, _ => False
theorem qs_imul (hd : decode (mC M) pc = .ok (.imul, 1)) (k : qk Ph M h0 hf r (pc + 1) K) : qk Ph M h0 hf r pc (qi_imul K) := by
  intro lv st h hi
  unfold qi_imul at hi
  split at hi
  · exact (k _ _ _ hi).step (fun p l e R s m args below meth c H locs cells slots Q ls hx hb hts hown hl kk => lv_imul hx hb hd (kk ls hl))
  · exact hi.elim
def qi_iand (K : hc_K) : hc_L → List Value → hc_H → Prop
  | lv, .int y :: .int x :: st, h => K lv (.int (x &&& y) :: st) h
  | _, _, _ => False
theorem qs_iand (hd : decode (mC M) pc = .ok (.iand, 1)) (k : qk Ph M h0 hf r (pc + 1) K) : qk Ph M h0 hf r pc (qi_iand K) := by
  intro lv st h hi
  unfold qi_iand at hi
  split at hi
  · exact (k _ _ _ hi).step (fun p l e R s m args below meth c H locs cells slots Q ls hx hb hts hown hl kk => lv_iand hx hb hd (kk ls hl))
  · exact hi.elim
def qi_ior (K : hc_K) : hc_L → List Value → hc_H → Prop
  | lv, .int y :: .int x :: st, h => K lv (.int (x ||| y) :: st) h
  | _, _, _ => False
theorem qs_ior (hd : decode (mC M) pc = .ok (.ior, 1)) (k : qk Ph M h0 hf r (pc + 1) K) : qk Ph M h0 hf r pc (qi_ior K) := by
  intro lv st h hi
  unfold qi_ior at hi
  split at hi
  · exact (k _ _ _ hi).step (fun p l e R s m args below meth c H locs cells slots Q ls hx hb hts hown hl kk => lv_ior hx hb hd (kk ls hl))
  · exact hi.elim
def qi_ixor (K : hc_K) : hc_L → List Value → hc_H → Prop
  | lv, .int y :: .int x :: st, h => K lv (.int (x ^^^ y) :: st) h
  | _, _, _ => False
theorem qs_ixor (hd : decode (mC M) pc = .ok (.ixor, 1)) (k : qk Ph M h0 hf r (pc + 1) K) : qk Ph M h0 hf r pc (qi_ixor K) := by
  intro lv st h hi
  unfold qi_ixor at hi
  split at hi
  · exact (k _ _ _ hi).step (fun p l e R s m args below meth c H locs cells slots Q ls hx hb hts hown hl kk => lv_ixor hx hb hd (kk ls hl))
  · exact hi.elim
def qi_ishl (K : hc_K) : hc_L → List Value → hc_H → Prop
  | lv, .int y :: .int x :: st, h => K lv (.int (x <<< (y &&& 31)) :: st) h
  | _, _, _ => False
theorem qs_ishl (hd : decode (mC M) pc = .ok (.ishl, 1)) (k : qk Ph M h0 hf r (pc + 1) K) : qk Ph M h0 hf r pc (qi_ishl K) := by
  intro lv st h hi
  unfold qi_ishl at hi
  split at hi
  · exact (k _ _ _ hi).step (fun p l e R s m args below meth c H locs cells slots Q ls hx hb hts hown hl kk => lv_ishl hx hb hd (kk ls hl))
  · exact hi.elim
def qi_ishr (K : hc_K) : hc_L → List Value → hc_H → Prop
  | lv, .int y :: .int x :: st, h => K lv (.int (x >>> (y &&& 31)) :: st) h
  | _, _, _ => False
theorem qs_ishr (hd : decode (mC M) pc = .ok (.ishr, 1)) (k : qk Ph M h0 hf r (pc + 1) K) : qk Ph M h0 hf r pc (qi_ishr K) := by
  intro lv st h hi
  unfold qi_ishr at hi
  split at hi
  · exact (k _ _ _ hi).step (fun p l e R s m args below meth c H locs cells slots Q ls hx hb hts hown hl kk => lv_ishr hx hb hd (kk ls hl))
  · exact hi.elim
def qi_iushr (K : hc_K) : hc_L → List Value → hc_H → Prop
  | lv, .int y :: .int x :: st, h => K lv (.int (x.toUInt32 >>> (y.toUInt32 &&& Int32.toUInt32 31)).toInt32 :: st) h
  | _, _, _ => False
theorem qs_iushr (hd : decode (mC M) pc = .ok (.iushr, 1)) (k : qk Ph M h0 hf r (pc + 1) K) : qk Ph M h0 hf r pc (qi_iushr K) := by
  intro lv st h hi
  unfold qi_iushr at hi
  split at hi
  · exact (k _ _ _ hi).step (fun p l e R s m args below meth c H locs cells slots Q ls hx hb hts hown hl kk => lv_iushr hx hb hd rfl (kk ls hl))
  · exact hi.elim
def qi_idiv (K : hc_K) : hc_L → List Value → hc_H → Prop
  | lv, .int y :: .int x :: st, h => ¬ y = 0 ∧ K lv (.int (x / y) :: st) h
  | _, _, _ => False
theorem qs_idiv (hd : decode (mC M) pc = .ok (.idiv, 1)) (k : qk Ph M h0 hf r (pc + 1) K) : qk Ph M h0 hf r pc (qi_idiv K) := by
  intro lv st h hi
  unfold qi_idiv at hi
  split at hi
  · exact (k _ _ _ hi.2).step (fun p l e R s m args below meth c H locs cells slots Q ls hx hb hts hown hl kk => lv_idiv hx hb hd hi.1 (kk ls hl))
  · exact hi.elim
def qi_irem (K : hc_K) : hc_L → List Value → hc_H → Prop
  | lv, .int y :: .int x :: st, h => ¬ y = 0 ∧ K lv (.int (x - x / y * y) :: st) h
  | _, _, _ => False
theorem qs_irem (hd : decode (mC M) pc = .ok (.irem, 1)) (k : qk Ph M h0 hf r (pc + 1) K) : qk Ph M h0 hf r pc (qi_irem K) := by
  intro lv st h hi
  unfold qi_irem at hi
  split at hi
  · exact (k _ _ _ hi.2).step (fun p l e R s m args below meth c H locs cells slots Q ls hx hb hts hown hl kk => lv_irem hx hb hd hi.1 (kk ls hl))
  · exact hi.elim
def qi_lor (K : hc_K) : hc_L → List Value → hc_H → Prop
  | lv, .long y :: .long x :: st, h => K lv (.long (x ||| y) :: st) h
  | _, _, _ => False
theorem qs_lor (hd : decode (mC M) pc = .ok (.lor, 1)) (k : qk Ph M h0 hf r (pc + 1) K) : qk Ph M h0 hf r pc (qi_lor K) := by
  intro lv st h hi
  unfold qi_lor at hi
  split at hi
  · exact (k _ _ _ hi).step (fun p l e R s m args below meth c H locs cells slots Q ls hx hb hts hown hl kk => lv_lor hx hb hd (kk ls hl))
  · exact hi.elim
def qi_lmul (K : hc_K) : hc_L → List Value → hc_H → Prop
  | lv, .long y :: .long x :: st, h => K lv (.long (x * y) :: st) h
  | _, _, _ => False
theorem qs_lmul (hd : decode (mC M) pc = .ok (.lmul, 1)) (k : qk Ph M h0 hf r (pc + 1) K) : qk Ph M h0 hf r pc (qi_lmul K) := by
  intro lv st h hi
  unfold qi_lmul at hi
  split at hi
  · exact (k _ _ _ hi).step (fun p l e R s m args below meth c H locs cells slots Q ls hx hb hts hown hl kk => lv_lmul hx hb hd (kk ls hl))
  · exact hi.elim
def qi_ladd (K : hc_K) : hc_L → List Value → hc_H → Prop
  | lv, .long y :: .long x :: st, h => K lv (.long (x + y) :: st) h
  | _, _, _ => False
theorem qs_ladd (hd : decode (mC M) pc = .ok (.ladd, 1)) (k : qk Ph M h0 hf r (pc + 1) K) : qk Ph M h0 hf r pc (qi_ladd K) := by
  intro lv st h hi
  unfold qi_ladd at hi
  split at hi
  · exact (k _ _ _ hi).step (fun p l e R s m args below meth c H locs cells slots Q ls hx hb hts hown hl kk => lv_ladd hx hb hd (kk ls hl))
  · exact hi.elim
def qi_lsub (K : hc_K) : hc_L → List Value → hc_H → Prop
  | lv, .long y :: .long x :: st, h => K lv (.long (x - y) :: st) h
  | _, _, _ => False
theorem qs_lsub (hd : decode (mC M) pc = .ok (.lsub, 1)) (k : qk Ph M h0 hf r (pc + 1) K) : qk Ph M h0 hf r pc (qi_lsub K) := by
  intro lv st h hi
  unfold qi_lsub at hi
  split at hi
  · exact (k _ _ _ hi).step (fun p l e R s m args below meth c H locs cells slots Q ls hx hb hts hown hl kk => lv_lsub hx hb hd (kk ls hl))
  · exact hi.elim
def qi_land (K : hc_K) : hc_L → List Value → hc_H → Prop
  | lv, .long y :: .long x :: st, h => K lv (.long (x &&& y) :: st) h
  | _, _, _ => False
theorem qs_land (hd : decode (mC M) pc = .ok (.land, 1)) (k : qk Ph M h0 hf r (pc + 1) K) : qk Ph M h0 hf r pc (qi_land K) := by
  intro lv st h hi
  unfold qi_land at hi
  split at hi
  · exact (k _ _ _ hi).step (fun p l e R s m args below meth c H locs cells slots Q ls hx hb hts hown hl kk => lv_land hx hb hd (kk ls hl))
  · exact hi.elim
def qi_lshl (K : hc_K) : hc_L → List Value → hc_H → Prop
  | lv, .int y :: .long x :: st, h => K lv (.long (x <<< (y.toInt64 &&& 63)) :: st) h
  | _, _, _ => False
theorem qs_lshl (hd : decode (mC M) pc = .ok (.lshl, 1)) (k : qk Ph M h0 hf r (pc + 1) K) : qk Ph M h0 hf r pc (qi_lshl K) := by
  intro lv st h hi
  unfold qi_lshl at hi
  split at hi
  · exact (k _ _ _ hi).step (fun p l e R s m args below meth c H locs cells slots Q ls hx hb hts hown hl kk => lv_lshl hx hb hd rfl (kk ls hl))
  · exact hi.elim
def qi_lshr (K : hc_K) : hc_L → List Value → hc_H → Prop
  | lv, .int y :: .long x :: st, h => K lv (.long (x >>> (y.toInt64 &&& 63)) :: st) h
  | _, _, _ => False
theorem qs_lshr (hd : decode (mC M) pc = .ok (.lshr, 1)) (k : qk Ph M h0 hf r (pc + 1) K) : qk Ph M h0 hf r pc (qi_lshr K) := by
  intro lv st h hi
  unfold qi_lshr at hi
  split at hi
  · exact (k _ _ _ hi).step (fun p l e R s m args below meth c H locs cells slots Q ls hx hb hts hown hl kk => lv_lshr hx hb hd rfl (kk ls hl))
  · exact hi.elim
def qi_i2l (K : hc_K) : hc_L → List Value → hc_H → Prop
  | lv, .int x :: st, h => K lv (.long x.toInt64 :: st) h
  | _, _, _ => False
theorem qs_i2l (hd : decode (mC M) pc = .ok (.i2l, 1)) (k : qk Ph M h0 hf r (pc + 1) K) : qk Ph M h0 hf r pc (qi_i2l K) := by
  intro lv st h hi
  unfold qi_i2l at hi
  split at hi
  · exact (k _ _ _ hi).step (fun p l e R s m args below meth c H locs cells slots Q ls hx hb hts hown hl kk => lv_i2l hx hb hd rfl (kk ls hl))
  · exact hi.elim
def qi_l2i (K : hc_K) : hc_L → List Value → hc_H → Prop
  | lv, .long x :: st, h => K lv (.int x.toInt32 :: st) h
  | _, _, _ => False
theorem qs_l2i (hd : decode (mC M) pc = .ok (.l2i, 1)) (k : qk Ph M h0 hf r (pc + 1) K) : qk Ph M h0 hf r pc (qi_l2i K) := by
  intro lv st h hi
  unfold qi_l2i at hi
  split at hi
  · exact (k _ _ _ hi).step (fun p l e R s m args below meth c H locs cells slots Q ls hx hb hts hown hl kk => lv_l2i hx hb hd rfl (kk ls hl))
  · exact hi.elim
def qi_i2c (K : hc_K) : hc_L → List Value → hc_H → Prop
  | lv, .int x :: st, h => K lv (.int (x.toUInt32 % 65536).toInt32 :: st) h
  | _, _, _ => False
theorem qs_i2c (hd : decode (mC M) pc = .ok (.i2c, 1)) (k : qk Ph M h0 hf r (pc + 1) K) : qk Ph M h0 hf r pc (qi_i2c K) := by
  intro lv st h hi
  unfold qi_i2c at hi
  split at hi
  · exact (k _ _ _ hi).step (fun p l e R s m args below meth c H locs cells slots Q ls hx hb hts hown hl kk => lv_i2c hx hb hd rfl (kk ls hl))
  · exact hi.elim
def qi_lcmp (K : hc_K) : hc_L → List Value → hc_H → Prop
  | lv, .long y :: .long x :: st, h => K lv (.int (lg_cmp x y) :: st) h
  | _, _, _ => False
theorem qs_lcmp (hd : decode (mC M) pc = .ok (.lcmp, 1)) (k : qk Ph M h0 hf r (pc + 1) K) : qk Ph M h0 hf r pc (qi_lcmp K) := by
  intro lv st h hi
  unfold qi_lcmp at hi
  split at hi
  · exact (k _ _ _ hi).step (fun p l e R s m args below meth c H locs cells slots Q ls hx hb hts hown hl kk => W.lcmp hx hb hd (kk ls hl))
  · exact hi.elim
def qi_dup (K : hc_K) : hc_L → List Value → hc_H → Prop
  | lv, .int x :: st, h => K lv (.int x :: .int x :: st) h
  | lv, .ref x :: st, h => K lv (.ref x :: .ref x :: st) h
  | _, _, _ => False
theorem qs_dup (hd : decode (mC M) pc = .ok (.dup, 1)) (k : qk Ph M h0 hf r (pc + 1) K) : qk Ph M h0 hf r pc (qi_dup K) := by
  intro lv st h hi
  unfold qi_dup at hi
  split at hi
  · exact (k _ _ _ hi).step (fun p l e R s m args below meth c H locs cells slots Q ls hx hb hts hown hl kk => lv_dup hx hb hd rfl (kk ls hl))
  · exact (k _ _ _ hi).step (fun p l e R s m args below meth c H locs cells slots Q ls hx hb hts hown hl kk => lv_dup hx hb hd rfl (kk ls hl))
  · exact hi.elim
def qi_dup2 (K : hc_K) : hc_L → List Value → hc_H → Prop
  | lv, .int y :: .ref x :: st, h => K lv (.int y :: .ref x :: .int y :: .ref x :: st) h
  | _, _, _ => False
theorem qs_dup2 (hd : decode (mC M) pc = .ok (.dup2, 1)) (k : qk Ph M h0 hf r (pc + 1) K) : qk Ph M h0 hf r pc (qi_dup2 K) := by
  intro lv st h hi
  unfold qi_dup2 at hi
  split at hi
  · exact (k _ _ _ hi).step (fun p l e R s m args below meth c H locs cells slots Q ls hx hb hts hown hl kk => lv_dup2_11 hx hb hd rfl rfl (kk ls hl))
  · exact hi.elim
def qi_pop (K : hc_K) : hc_L → List Value → hc_H → Prop
  | lv, .int _ :: st, h => K lv st h
  | lv, .ref _ :: st, h => K lv st h
  | _, _, _ => False
theorem qs_pop (hd : decode (mC M) pc = .ok (.pop, 1)) (k : qk Ph M h0 hf r (pc + 1) K) : qk Ph M h0 hf r pc (qi_pop K) := by
  intro lv st h hi
  unfold qi_pop at hi
  split at hi
  · exact (k _ _ _ hi).step (fun p l e R s m args below meth c H locs cells slots Q ls hx hb hts hown hl kk => lv_pop hx hb hd rfl (kk ls hl))
  · exact (k _ _ _ hi).step (fun p l e R s m args below meth c H locs cells slots Q ls hx hb hts hown hl kk => lv_pop hx hb hd rfl (kk ls hl))
  · exact hi.elim
def qi_if_eq (T K : hc_K) : hc_L → List Value → hc_H → Prop
  | lv, .int x :: st, h => (x = 0 → T lv st h) ∧ (¬ x = 0 → K lv st h)
  | _, _, _ => False
theorem qs_if_eq {T : hc_K} {off : Int} {tgt : Nat} (hd : decode (mC M) pc = .ok (.ifCond .eq off, 3)) (ht : (pc : Int) + off = (tgt : Int)) (k1 : qk Ph M h0 hf r tgt T) (k2 : qk Ph M h0 hf r (pc + 3) K) : qk Ph M h0 hf r pc (qi_if_eq T K) := by
  intro lv st h hi
  unfold qi_if_eq at hi
  split at hi
  · exact cx.two (Classical.em _) (fun z => k1 _ _ _ (hi.1 z)) (fun z => k2 _ _ _ (hi.2 z)) (fun p l e R s m args below meth c H locs cells slots Q ls hx hb k1 k2 => lv_if_eq hx hb hd ht k1 k2)
  · exact hi.elim
def qi_icmp_eq (T K : hc_K) : hc_L → List Value → hc_H → Prop
  | lv, .int y :: .int x :: st, h => (x = y → T lv st h) ∧ (¬ x = y → K lv st h)
  | _, _, _ => False
theorem qs_icmp_eq {T : hc_K} {off : Int} {tgt : Nat} (hd : decode (mC M) pc = .ok (.if_icmp .eq off, 3)) (ht : (pc : Int) + off = (tgt : Int)) (k1 : qk Ph M h0 hf r tgt T) (k2 : qk Ph M h0 hf r (pc + 3) K) : qk Ph M h0 hf r pc (qi_icmp_eq T K) := by
  intro lv st h hi
  unfold qi_icmp_eq at hi
  split at hi
  · exact cx.two (Classical.em _) (fun z => k1 _ _ _ (hi.1 z)) (fun z => k2 _ _ _ (hi.2 z)) (fun p l e R s m args below meth c H locs cells slots Q ls hx hb k1 k2 => lv_icmp_eq hx hb hd ht k1 k2)
  · exact hi.elim
def qi_if_ne (T K : hc_K) : hc_L → List Value → hc_H → Prop
  | lv, .int x :: st, h => (¬ x = 0 → T lv st h) ∧ (x = 0 → K lv st h)
  | _, _, _ => False
theorem qs_if_ne {T : hc_K} {off : Int} {tgt : Nat} (hd : decode (mC M) pc = .ok (.ifCond .ne off, 3)) (ht : (pc : Int) + off = (tgt : Int)) (k1 : qk Ph M h0 hf r tgt T) (k2 : qk Ph M h0 hf r (pc + 3) K) : qk Ph M h0 hf r pc (qi_if_ne T K) := by
  intro lv st h hi
  unfold qi_if_ne at hi
  split at hi
  · exact cx.two ((Classical.em _).symm) (fun z => k1 _ _ _ (hi.1 z)) (fun z => k2 _ _ _ (hi.2 z)) (fun p l e R s m args below meth c H locs cells slots Q ls hx hb k1 k2 => lv_if_ne hx hb hd ht k1 k2)
  · exact hi.elim
def qi_icmp_ne (T K : hc_K) : hc_L → List Value → hc_H → Prop
  | lv, .int y :: .int x :: st, h => (¬ x = y → T lv st h) ∧ (x = y → K lv st h)
  | _, _, _ => False
theorem qs_icmp_ne {T : hc_K} {off : Int} {tgt : Nat} (hd : decode (mC M) pc = .ok (.if_icmp .ne off, 3)) (ht : (pc : Int) + off = (tgt : Int)) (k1 : qk Ph M h0 hf r tgt T) (k2 : qk Ph M h0 hf r (pc + 3) K) : qk Ph M h0 hf r pc (qi_icmp_ne T K) := by
  intro lv st h hi
  unfold qi_icmp_ne at hi
  split at hi
  · exact cx.two ((Classical.em _).symm) (fun z => k1 _ _ _ (hi.1 z)) (fun z => k2 _ _ _ (hi.2 z)) (fun p l e R s m args below meth c H locs cells slots Q ls hx hb k1 k2 => lv_icmp_ne hx hb hd ht k1 k2)
  · exact hi.elim
def qi_if_lt (T K : hc_K) : hc_L → List Value → hc_H → Prop
  | lv, .int x :: st, h => (x < 0 → T lv st h) ∧ (¬ x < 0 → K lv st h)
  | _, _, _ => False
theorem qs_if_lt {T : hc_K} {off : Int} {tgt : Nat} (hd : decode (mC M) pc = .ok (.ifCond .lt off, 3)) (ht : (pc : Int) + off = (tgt : Int)) (k1 : qk Ph M h0 hf r tgt T) (k2 : qk Ph M h0 hf r (pc + 3) K) : qk Ph M h0 hf r pc (qi_if_lt T K) := by
  intro lv st h hi
  unfold qi_if_lt at hi
  split at hi
  · exact cx.two (Classical.em _) (fun z => k1 _ _ _ (hi.1 z)) (fun z => k2 _ _ _ (hi.2 z)) (fun p l e R s m args below meth c H locs cells slots Q ls hx hb k1 k2 => lv_if_lt hx hb hd ht k1 k2)
  · exact hi.elim
def qi_icmp_lt (T K : hc_K) : hc_L → List Value → hc_H → Prop
  | lv, .int y :: .int x :: st, h => (x < y → T lv st h) ∧ (¬ x < y → K lv st h)
  | _, _, _ => False
theorem qs_icmp_lt {T : hc_K} {off : Int} {tgt : Nat} (hd : decode (mC M) pc = .ok (.if_icmp .lt off, 3)) (ht : (pc : Int) + off = (tgt : Int)) (k1 : qk Ph M h0 hf r tgt T) (k2 : qk Ph M h0 hf r (pc + 3) K) : qk Ph M h0 hf r pc (qi_icmp_lt T K) := by
  intro lv st h hi
  unfold qi_icmp_lt at hi
  split at hi
  · exact cx.two (Classical.em _) (fun z => k1 _ _ _ (hi.1 z)) (fun z => k2 _ _ _ (hi.2 z)) (fun p l e R s m args below meth c H locs cells slots Q ls hx hb k1 k2 => lv_icmp_lt hx hb hd ht k1 k2)
  · exact hi.elim
def qi_if_ge (T K : hc_K) : hc_L → List Value → hc_H → Prop
  | lv, .int x :: st, h => (0 ≤ x → T lv st h) ∧ (¬ 0 ≤ x → K lv st h)
  | _, _, _ => False
theorem qs_if_ge {T : hc_K} {off : Int} {tgt : Nat} (hd : decode (mC M) pc = .ok (.ifCond .ge off, 3)) (ht : (pc : Int) + off = (tgt : Int)) (k1 : qk Ph M h0 hf r tgt T) (k2 : qk Ph M h0 hf r (pc + 3) K) : qk Ph M h0 hf r pc (qi_if_ge T K) := by
  intro lv st h hi
  unfold qi_if_ge at hi
  split at hi
  · exact cx.two (Classical.em _) (fun z => k1 _ _ _ (hi.1 z)) (fun z => k2 _ _ _ (hi.2 z)) (fun p l e R s m args below meth c H locs cells slots Q ls hx hb k1 k2 => lv_if_ge hx hb hd ht k1 k2)
  · exact hi.elim
def qi_icmp_ge (T K : hc_K) : hc_L → List Value → hc_H → Prop
  | lv, .int y :: .int x :: st, h => (y ≤ x → T lv st h) ∧ (¬ y ≤ x → K lv st h)
  | _, _, _ => False
theorem qs_icmp_ge {T : hc_K} {off : Int} {tgt : Nat} (hd : decode (mC M) pc = .ok (.if_icmp .ge off, 3)) (ht : (pc : Int) + off = (tgt : Int)) (k1 : qk Ph M h0 hf r tgt T) (k2 : qk Ph M h0 hf r (pc + 3) K) : qk Ph M h0 hf r pc (qi_icmp_ge T K) := by
  intro lv st h hi
  unfold qi_icmp_ge at hi
  split at hi
  · exact cx.two (Classical.em _) (fun z => k1 _ _ _ (hi.1 z)) (fun z => k2 _ _ _ (hi.2 z)) (fun p l e R s m args below meth c H locs cells slots Q ls hx hb k1 k2 => lv_icmp_ge hx hb hd ht k1 k2)
  · exact hi.elim
def qi_if_gt (T K : hc_K) : hc_L → List Value → hc_H → Prop
  | lv, .int x :: st, h => (0 < x → T lv st h) ∧ (¬ 0 < x → K lv st h)
  | _, _, _ => False
theorem qs_if_gt {T : hc_K} {off : Int} {tgt : Nat} (hd : decode (mC M) pc = .ok (.ifCond .gt off, 3)) (ht : (pc : Int) + off = (tgt : Int)) (k1 : qk Ph M h0 hf r tgt T) (k2 : qk Ph M h0 hf r (pc + 3) K) : qk Ph M h0 hf r pc (qi_if_gt T K) := by
  intro lv st h hi
  unfold qi_if_gt at hi
  split at hi
  · exact cx.two (Classical.em _) (fun z => k1 _ _ _ (hi.1 z)) (fun z => k2 _ _ _ (hi.2 z)) (fun p l e R s m args below meth c H locs cells slots Q ls hx hb k1 k2 => lv_if_gt hx hb hd ht k1 k2)
  · exact hi.elim
def qi_icmp_gt (T K : hc_K) : hc_L → List Value → hc_H → Prop
  | lv, .int y :: .int x :: st, h => (y < x → T lv st h) ∧ (¬ y < x → K lv st h)
  | _, _, _ => False
theorem qs_icmp_gt {T : hc_K} {off : Int} {tgt : Nat} (hd : decode (mC M) pc = .ok (.if_icmp .gt off, 3)) (ht : (pc : Int) + off = (tgt : Int)) (k1 : qk Ph M h0 hf r tgt T) (k2 : qk Ph M h0 hf r (pc + 3) K) : qk Ph M h0 hf r pc (qi_icmp_gt T K) := by
  intro lv st h hi
  unfold qi_icmp_gt at hi
  split at hi
  · exact cx.two (Classical.em _) (fun z => k1 _ _ _ (hi.1 z)) (fun z => k2 _ _ _ (hi.2 z)) (fun p l e R s m args below meth c H locs cells slots Q ls hx hb k1 k2 => lv_icmp_gt hx hb hd ht k1 k2)
  · exact hi.elim
def qi_if_le (T K : hc_K) : hc_L → List Value → hc_H → Prop
  | lv, .int x :: st, h => (x ≤ 0 → T lv st h) ∧ (¬ x ≤ 0 → K lv st h)
  | _, _, _ => False
theorem qs_if_le {T : hc_K} {off : Int} {tgt : Nat} (hd : decode (mC M) pc = .ok (.ifCond .le off, 3)) (ht : (pc : Int) + off = (tgt : Int)) (k1 : qk Ph M h0 hf r tgt T) (k2 : qk Ph M h0 hf r (pc + 3) K) : qk Ph M h0 hf r pc (qi_if_le T K) := by
  intro lv st h hi
  unfold qi_if_le at hi
  split at hi
  · exact cx.two (Classical.em _) (fun z => k1 _ _ _ (hi.1 z)) (fun z => k2 _ _ _ (hi.2 z)) (fun p l e R s m args below meth c H locs cells slots Q ls hx hb k1 k2 => lv_if_le hx hb hd ht k1 k2)
  · exact hi.elim
def qi_icmp_le (T K : hc_K) : hc_L → List Value → hc_H → Prop
  | lv, .int y :: .int x :: st, h => (x ≤ y → T lv st h) ∧ (¬ x ≤ y → K lv st h)
  | _, _, _ => False
theorem qs_icmp_le {T : hc_K} {off : Int} {tgt : Nat} (hd : decode (mC M) pc = .ok (.if_icmp .le off, 3)) (ht : (pc : Int) + off = (tgt : Int)) (k1 : qk Ph M h0 hf r tgt T) (k2 : qk Ph M h0 hf r (pc + 3) K) : qk Ph M h0 hf r pc (qi_icmp_le T K) := by
  intro lv st h hi
  unfold qi_icmp_le at hi
  split at hi
  · exact cx.two (Classical.em _) (fun z => k1 _ _ _ (hi.1 z)) (fun z => k2 _ _ _ (hi.2 z)) (fun p l e R s m args below meth c H locs cells slots Q ls hx hb k1 k2 => lv_icmp_le hx hb hd ht k1 k2)
  · exact hi.elim
theorem qs_goto {off : Int} {tgt : Nat} (hd : decode (mC M) pc = .ok (.goto off, 3)) (ht : (pc : Int) + off = (tgt : Int)) (k : qk Ph M h0 hf r tgt K) : qk Ph M h0 hf r pc K := fun lv st h hi => (k lv st h hi).step (fun p l e R s m args below meth c H locs cells slots Q ls hx hb hts hown hl kk => lv_goto hx hb hd ht (kk ls hl))
/-- a switch: the continuations in order, of the values from lo on; else Kd -/
def qi_sw (Kd : hc_K) : List (Int32 × hc_K) → hc_L → List Value → hc_H → Prop
  | [], lv, .int _ :: st, h => Kd lv st h
  | (v, K) :: ks, lv, .int x :: st, h => (x = v → K lv st h) ∧ (¬ x = v → qi_sw Kd ks lv (.int x :: st) h)
  | _, _, _, _ => False
end QI
end
section
/-! HEAP INSTRUCTIONS, CALLS, ENDS: as in 03. -/
section QH
variable {Ph : Nat → State → Prop} {M : hc_M} {h0 hf : hc_H} {r : Option Value} {pc : Nat} {K : hc_K}
theorem hc_W.get {D : va_G} {tc : Nat → ClassId} {bs : Nat} {h : hc_H} {H : Heap} {a : Nat} {e : hc_C} (hW : hc_W D tc bs h H) (he : h.1 a = some e) : va_P D hc_cls [(a, hc_E tc e)] H := by
  intro k q hk
  cases k with
  | zero => cases hk; exact (hW.2.2 a e he).2
  | succ k => simp at hk
theorem hc_W.put {D : va_G} {tc : Nat → ClassId} {bs : Nat} {h : hc_H} {H H1 : Heap} {a : Nat} {e : hc_C} (hW : hc_W D tc bs h H) (ha : bs ≤ a) (z : H1.size = H.size) (oq : ∀ q : Nat, q ≠ a → H1[q]? = H[q]?) (he : va_at D hc_cls (a, hc_E tc e) H1) : hc_W D tc bs (hc_set h a e) H1 := by
  refine ⟨z.trans hW.1, hW.2.1, fun q e' hq => ?_⟩
  simp only [hc_set] at hq
  by_cases hqa : q = a
  · subst hqa
    rw [if_pos rfl] at hq
    cases hq
    exact ⟨ha, he⟩
  · rw [if_neg hqa] at hq
    exact ⟨(hW.2.2 q e' hq).1, (hW.2.2 q e' hq).2.kept (oq q hqa)⟩
theorem hc_W.push {D : va_G} {tc : Nat → ClassId} {bs : Nat} {h : hc_H} {H H1 : Heap} {e : hc_C} {n : Nat} (hW : hc_W D tc bs h H) (z : H1.size = H.size + 1) (oq : ∀ q : Nat, q < H.size → H1[q]? = H[q]?) (he : va_at D hc_cls (H.size, hc_E tc e) H1) : hc_W D tc bs (hc_new h e n) H1 := by
  refine ⟨by rw [z, hW.1]; rfl, Nat.le_succ_of_le hW.2.1, fun q e' hq => ?_⟩
  simp only [hc_new] at hq
  by_cases hqa : q = h.2.1
  · subst hqa
    rw [if_pos rfl] at hq
    cases hq
    exact ⟨hW.2.1, by rw [← hW.1]; exact he⟩
  · rw [if_neg hqa] at hq
    have hat := (hW.2.2 q e' hq).2
    exact ⟨(hW.2.2 q e' hq).1, hat.kept (oq q hat.lt)⟩
theorem hc_S.push {bs : Nat} {H0 H H1 : Heap} {locs : List Loc} (hS : va_S (hc_A bs) H0 H locs) (z : H1.size = H.size + 1) (oq : ∀ q : Nat, q < H.size → H1[q]? = H[q]?) : va_S (hc_A bs) H0 H1 locs := ⟨by rw [z]; exact Nat.le_succ_of_le hS.1, fun q h1 h2 => (oq q (Nat.lt_of_lt_of_le h1 hS.1)).trans (hS.2.1 q h1 h2), hS.2.2⟩
/-- fields and arrays of a cell -/
def lnth : List Value → Nat → Option Value
  | [], _ => none
  | v :: _, 0 => some v
  | _ :: t, n + 1 => lnth t n
theorem lnth_eq : ∀ (fs : List Value) (k : Nat), lnth fs k = fs[k]? := by
  intro fs
  induction fs with
  | nil => intro k; rfl
  | cons v t ih => intro k; cases k with
    | zero => rfl
    | succ k => simp only [lnth, List.getElem?_cons_succ]; exact ih k
def at_o (o : Option hc_C) (ci : Nat) (P : List Value → Prop) : Prop := match o with
  | some (.inr (c, fs)) => c = ci ∧ P fs
  | _ => False
def at_i (o : Option hc_C) (kd : Nat) (P : Nat → (Nat → Int32) → Prop) : Prop := match o with
  | some (.inl (k, n, .inl f)) => k = kd ∧ P n f
  | _ => False
def at_l (o : Option hc_C) (P : Nat → (Nat → Int64) → Prop) : Prop := match o with
  | some (.inl (k, n, .inr (.inl f))) => k = 2 ∧ P n f
  | _ => False
def at_q (o : Option hc_C) (P : Nat → (Nat → Option Nat) → Prop) : Prop := match o with
  | some (.inl (k, n, .inr (.inr (.inr (.inr f))))) => k = 4 ∧ P n f
  | _ => False
def at_a (o : Option hc_C) (P : Nat → Prop) : Prop := match o with
  | some (.inl (k, n, _)) => k < 5 ∧ P n
  | _ => False
theorem at_o_spec {o : Option hc_C} {ci : Nat} {P : List Value → Prop} (h : at_o o ci P) : ∃ fs, o = some (.inr (ci, fs)) ∧ P fs := by
  unfold at_o at h
  split at h
  · obtain ⟨rfl, h⟩ := h; exact ⟨_, rfl, h⟩
  · exact h.elim
theorem at_i_spec {o : Option hc_C} {kd : Nat} {P : Nat → (Nat → Int32) → Prop} (h : at_i o kd P) : ∃ n f, o = some (.inl (kd, n, .inl f)) ∧ P n f := by
  unfold at_i at h
  split at h
  · obtain ⟨rfl, h⟩ := h; exact ⟨_, _, rfl, h⟩
  · exact h.elim
theorem at_l_spec {o : Option hc_C} {P : Nat → (Nat → Int64) → Prop} (h : at_l o P) : ∃ n f, o = some (.inl (2, n, .inr (.inl f))) ∧ P n f := by
  unfold at_l at h
  split at h
  · obtain ⟨rfl, h⟩ := h; exact ⟨_, _, rfl, h⟩
  · exact h.elim
theorem at_q_spec {o : Option hc_C} {P : Nat → (Nat → Option Nat) → Prop} (h : at_q o P) : ∃ n f, o = some (.inl (4, n, .inr (.inr (.inr (.inr f))))) ∧ P n f := by
  unfold at_q at h
  split at h
  · obtain ⟨rfl, h⟩ := h; exact ⟨_, _, rfl, h⟩
  · exact h.elim
theorem at_a_spec {o : Option hc_C} {P : Nat → Prop} (h : at_a o P) : ∃ k x, o = some (.inl (k, x)) ∧ k < 5 ∧ P x.1 := by
  unfold at_a at h
  split at h
  · obtain ⟨h1, h⟩ := h; exact ⟨_, _, rfl, h1, h⟩
  · exact h.elim
/-- getfield: class number ci, field k -/
def qi_get (ci k : Nat) (K : hc_K) : hc_L → List Value → hc_H → Prop
  | lv, .ref a :: st, h => at_o (h.1 a) ci (fun fs => match lnth fs k with
    | some v => K lv (v :: st) h
    | none => False)
  | _, _, _ => False
def hc_fld (own : String) (index ci k : Nat) : Prop := ∃ (C : String) (T : u_T) (N : Nat) (ty0 : Nat → FieldType), hc_cls[ci]? = some (C, T, N) ∧ k < N ∧ (∀ w ∈ u_ws C T N, w ∈ lw_g) ∧ Cond.fieldLink own index (T k).1 (T k).2.1 (T k).2.2.1 ∈ lw_g ∧ (∀ k, k < N → parseFieldDescriptor (T k).2.2.1 = some (ty0 k)) ∧ ∀ a, a < N → ∀ b, b < N → a ≠ b → (T a).2.1 ≠ (T b).2.1
theorem qs_get {index ci k : Nat} (hd : decode (mC M) pc = .ok (.getfield index, 3)) (hF : hc_fld (mN M).cls index ci k) (kk : qk Ph M h0 hf r (pc + 3) K) : qk Ph M h0 hf r pc (qi_get ci k K) := by
  intro lv st h hi
  unfold qi_get at hi
  split at hi
  · rename_i a st
    obtain ⟨fs, hfs, hi⟩ := at_o_spec hi
    split at hi
    · rename_i v hv
      obtain ⟨C, T, N, ty0, hc, hk, hin, hlink, -, -⟩ := hF
      have k1 := kk _ _ _ hi
      refine ⟨k1.1, fun p l e s m args below meth c D tc bs X g1 g2 H locs ls hW hS hl => ?_⟩
      obtain ⟨hx, hb, -, -, hts, hown, -, -, hK, -⟩ := id X
      rw [lnth_eq] at hv
      exact va_get hx hb hts (fun w hw => List.mem_cons_of_mem _ (hin w hw)) hown hK (hW.get hfs) 0 rfl hc k hk (hts _ (List.mem_cons_of_mem _ hlink)) (fun _ h9 => h9) hv hd (k1.2 p l e s m args below meth c D tc bs X g1 g2 H locs ls hW hS hl)
    · exact hi.elim
  · exact hi.elim
/-- what a field of this type may hold -/
def hc_fit (ty : FieldType) (v : Value) : Prop := narrow ty v = v ∧ fits ty v = true
theorem hc_fit_i {x : Int32} : hc_fit .int (.int x) := ⟨rfl, rfl⟩
theorem hc_fit_l {x : Int64} : hc_fit .long (.long x) := ⟨rfl, rfl⟩
/-- putfield -/
def qi_put (ci k : Nat) (ty : FieldType) (K : hc_K) : hc_L → List Value → hc_H → Prop
  | lv, v :: .ref a :: st, h => at_o (h.1 a) ci (fun fs => k < fs.length ∧ hc_fit ty v ∧ K lv st (hc_set h a (.inr (ci, fs.set k v))))
  | _, _, _ => False
theorem qs_put {index ci k : Nat} {ty : FieldType} (hd : decode (mC M) pc = .ok (.putfield index, 3)) (hF : hc_fld (mN M).cls index ci k) (hty : ∃ C T N, hc_cls[ci]? = some (C, T, N) ∧ (T k).2.2.2 = false ∧ parseFieldDescriptor (T k).2.2.1 = some ty) (kk : qk Ph M h0 hf r (pc + 3) K) : qk Ph M h0 hf r pc (qi_put ci k ty K) := by
  intro lv st h hi
  unfold qi_put at hi
  split at hi
  · rename_i v a st
    obtain ⟨fs, hfs, hkl, hfit, hi⟩ := at_o_spec hi
    obtain ⟨C, T, N, ty0, hc, hk, hin, hlink, htys, hnm⟩ := hF
    obtain ⟨C', T', N', hc', hfin, hd1⟩ := hty
    cases hc'.symm.trans hc
    have k1 := kk _ _ _ hi
    refine ⟨k1.1, fun p l e s m args below meth c D tc bs X g1 g2 H locs ls hW hS hl => ?_⟩
    obtain ⟨hx, hb, -, -, hts, hown, -, -, hK, -⟩ := id X
    have hin' : ∀ w ∈ u_ws C T N, w ∈ hc_ws M := fun w hw => List.mem_cons_of_mem _ (hin w hw)
    have hap := va_apart (own := (mN M).cls) hts hin' ty0 htys hnm hK hc
    obtain ⟨hba, r1, h1, cell, q1, q2, q3, q4⟩ := hW.2.2 a _ hfs
    have hr : r1 = (C, T, N) := Option.some.inj (h1.symm.trans hc)
    subst hr
    obtain ⟨hSl, hfc, kC, hkC, hkind⟩ := hK.1 ci _ hc
    obtain ⟨cf1, kf, fi, f, hi1, hsl⟩ := hSl k hk
    have hlay := hts _ (hin' _ (u_in_lay hk))
    unfold u_lay at hlay
    rw [if_neg (by rw [hfin]; decide)] at hlay
    have hst := (u_facts hfc hkC (u_lays hts hin' hk) hi1).1
    have h6 := u_store hfc hkC hkind hlay hi1 hd1 hfit.1 hfit.2
    refine W.putK hx hb (f := f) ⟨hown, hts _ (List.mem_cons_of_mem _ hlink), ⟨_, _, _, hi1⟩, hst⟩ (by rw [q2]; exact h6) q1 q3 (by rw [hsl]; exact k2_hasslot (q4 k hk)) rfl rfl hd fun H' e1 e2 e3 => ?_
    rw [hsl] at e1 ⊢
    exact k1.2 p l e s m args below meth c D tc bs X g1 g2 H' _ ls (hW.put hba e2 e3 ⟨_, hc, t_OB.to (V := updV (vp_V fs) k v) ⟨_, e1, q2, q3, t_set q4 hap hk v⟩ (fun j _ => vp_updV_set hkl v j)⟩) (hS.put e2 e3 hba) hl
  · exact hi.elim
theorem qs_putF {index ci k : Nat} {ty : FieldType} (hd : decode (mC M) pc = .ok (.putfield index, 3)) (hF : hc_fld (mN M).cls index ci k) (hini : (mN M).name = "<init>") (hty : ∃ C T N, hc_cls[ci]? = some (C, T, N) ∧ (T k).2.2.2 = true ∧ (T k).1 = (mN M).cls ∧ parseFieldDescriptor (T k).2.2.1 = some ty) (kk : qk Ph M h0 hf r (pc + 3) K) : qk Ph M h0 hf r pc (qi_put ci k ty K) := by
  intro lv st h hi
  unfold qi_put at hi
  split at hi
  · rename_i v a st
    obtain ⟨fs, hfs, hkl, hfit, hi⟩ := at_o_spec hi
    obtain ⟨C, T, N, ty0, hc, hk, hin, hlink, htys, hnm⟩ := hF
    obtain ⟨C', T', N', hc', hfin, hdecl, hd1⟩ := hty
    cases hc'.symm.trans hc
    have k1 := kk _ _ _ hi
    refine ⟨k1.1, fun p l e s m args below meth c D tc bs X g1 g2 H locs ls hW hS hl => ?_⟩
    obtain ⟨hx, hb, -, -, hts, hown, -, hnam, hK, -⟩ := id X
    have hin' : ∀ w ∈ u_ws C T N, w ∈ hc_ws M := fun w hw => List.mem_cons_of_mem _ (hin w hw)
    have hap := va_apart (own := (mN M).cls) hts hin' ty0 htys hnm hK hc
    obtain ⟨hba, r1, h1, cell, q1, q2, q3, q4⟩ := hW.2.2 a _ hfs
    have hr : r1 = (C, T, N) := Option.some.inj (h1.symm.trans hc)
    subst hr
    obtain ⟨hSl, hfc, kC, hkC, hkind⟩ := hK.1 ci _ hc
    obtain ⟨cf1, kf, fi, f, hi1, hsl⟩ := hSl k hk
    have hlay := hts _ (hin' _ (u_in_lay hk))
    unfold u_lay at hlay
    rw [if_pos hfin] at hlay
    have hst := (u_facts hfc hkC (u_lays hts hin' hk) hi1).1
    have hcf : m.cls = cf1 := by
      obtain ⟨_, _, c', _, _, _, -, -, hf', -, -, -, hown2, -⟩ := Cond.laysFinal_spec hlay
      have e1 : c' = cf1 := by have := hi1.symm.trans hf'; simp at this; exact this.1.symm
      rw [hdecl] at hown2
      rw [← e1]; exact Option.some.inj (hown.symm.trans hown2)
    have h6 := u_fits hfc hkC hkind (Or.inr hlay) hi1 hd1 hfit.1 hfit.2
    refine W.putFinK hx hb hown (hts _ (List.mem_cons_of_mem _ hlink)) hi1 hst hcf (hnam.trans hini) (by rw [q2]; exact h6) q1 q3 (by rw [hsl]; exact k2_hasslot (q4 k hk)) rfl rfl hd fun H' e1 e2 e3 => ?_
    rw [hsl] at e1 ⊢
    exact k1.2 p l e s m args below meth c D tc bs X g1 g2 H' _ ls (hW.put hba e2 e3 ⟨_, hc, t_OB.to (V := updV (vp_V fs) k v) ⟨_, e1, q2, q3, t_set q4 hap hk v⟩ (fun j _ => vp_updV_set hkl v j)⟩) (hS.put e2 e3 hba) hl
  · exact hi.elim
/-- array loads -/
def qi_iald (kd : Nat) (K : hc_K) : hc_L → List Value → hc_H → Prop
  | lv, .int i :: .ref a :: st, h => at_i (h.1 a) kd (fun n f => vp_in i n ∧ K lv (.int (f i.toNatClampNeg) :: st) h)
  | _, _, _ => False
theorem qs_iaload (hd : decode (mC M) pc = .ok (.iaload, 1)) (kk : qk Ph M h0 hf r (pc + 1) K) : qk Ph M h0 hf r pc (qi_iald 0 K) := by
  intro lv st h hi
  unfold qi_iald at hi
  split at hi
  · obtain ⟨n, f, hfs, hin, hi⟩ := at_i_spec hi
    have k1 := kk _ _ _ hi
    refine ⟨k1.1, fun p l e s m args below meth c D tc bs X g1 g2 H locs ls hW hS hl => ?_⟩
    obtain ⟨hx, hb, -, -, -, -, -, -, hK, -⟩ := id X
    exact va_iald hx hb hK (hW.get hfs) 0 0 rfl rfl hin hd (k1.2 p l e s m args below meth c D tc bs X g1 g2 H locs ls hW hS hl)
  · exact hi.elim
theorem qs_baload (hd : decode (mC M) pc = .ok (.baload, 1)) (kk : qk Ph M h0 hf r (pc + 1) K) : qk Ph M h0 hf r pc (qi_iald 1 K) := by
  intro lv st h hi
  unfold qi_iald at hi
  split at hi
  · obtain ⟨n, f, hfs, hin, hi⟩ := at_i_spec hi
    have k1 := kk _ _ _ hi
    refine ⟨k1.1, fun p l e s m args below meth c D tc bs X g1 g2 H locs ls hW hS hl => ?_⟩
    obtain ⟨hx, hb, -, -, -, -, -, -, hK, -⟩ := id X
    exact va_zald hx hb hK (hW.get hfs) 0 1 rfl rfl hin hd (k1.2 p l e s m args below meth c D tc bs X g1 g2 H locs ls hW hS hl)
  · exact hi.elim
theorem qs_caload (hd : decode (mC M) pc = .ok (.caload, 1)) (kk : qk Ph M h0 hf r (pc + 1) K) : qk Ph M h0 hf r pc (qi_iald 3 K) := by
  intro lv st h hi
  unfold qi_iald at hi
  split at hi
  · obtain ⟨n, f, hfs, hin, hi⟩ := at_i_spec hi
    have k1 := kk _ _ _ hi
    refine ⟨k1.1, fun p l e s m args below meth c D tc bs X g1 g2 H locs ls hW hS hl => ?_⟩
    obtain ⟨hx, hb, -, -, -, -, -, -, hK, -⟩ := id X
    exact va_cald hx hb hK (hW.get hfs) 0 3 rfl rfl hin hd (k1.2 p l e s m args below meth c D tc bs X g1 g2 H locs ls hW hS hl)
  · exact hi.elim
def qi_lald (K : hc_K) : hc_L → List Value → hc_H → Prop
  | lv, .int i :: .ref a :: st, h => at_l (h.1 a) (fun n f => vp_in i n ∧ K lv (.long (f i.toNatClampNeg) :: st) h)
  | _, _, _ => False
theorem qs_laload (hd : decode (mC M) pc = .ok (.laload, 1)) (kk : qk Ph M h0 hf r (pc + 1) K) : qk Ph M h0 hf r pc (qi_lald K) := by
  intro lv st h hi
  unfold qi_lald at hi
  split at hi
  · obtain ⟨n, f, hfs, hin, hi⟩ := at_l_spec hi
    have k1 := kk _ _ _ hi
    refine ⟨k1.1, fun p l e s m args below meth c D tc bs X g1 g2 H locs ls hW hS hl => ?_⟩
    obtain ⟨hx, hb, -, -, -, -, -, -, hK, -⟩ := id X
    exact va_lald hx hb hK (hW.get hfs) 0 2 rfl rfl hin hd (k1.2 p l e s m args below meth c D tc bs X g1 g2 H locs ls hW hS hl)
  · exact hi.elim
def qi_aald (K : hc_K) : hc_L → List Value → hc_H → Prop
  | lv, .int i :: .ref a :: st, h => at_q (h.1 a) (fun n f => vp_in i n ∧ K lv (va_rf (f i.toNatClampNeg) :: st) h)
  | _, _, _ => False
theorem qs_aaload (hd : decode (mC M) pc = .ok (.aaload, 1)) (kk : qk Ph M h0 hf r (pc + 1) K) : qk Ph M h0 hf r pc (qi_aald K) := by
  intro lv st h hi
  unfold qi_aald at hi
  split at hi
  · obtain ⟨n, f, hfs, hin, hi⟩ := at_q_spec hi
    have k1 := kk _ _ _ hi
    refine ⟨k1.1, fun p l e s m args below meth c D tc bs X g1 g2 H locs ls hW hS hl => ?_⟩
    obtain ⟨hx, hb, -, -, -, -, -, -, hK, -⟩ := id X
    exact va_aldq hx hb hK (hW.get hfs) 0 4 rfl rfl hin hd (k1.2 p l e s m args below meth c D tc bs X g1 g2 H locs ls hW hS hl)
  · exact hi.elim
/-- array stores -/
def qi_iast (K : hc_K) : hc_L → List Value → hc_H → Prop
  | lv, .int x :: .int i :: .ref a :: st, h => at_i (h.1 a) 0 (fun n f => vp_in i n ∧ K lv st (hc_set h a (.inl (0, n, .inl (upd f i.toNatClampNeg x)))))
  | _, _, _ => False
theorem qs_iastore (hd : decode (mC M) pc = .ok (.iastore, 1)) (kk : qk Ph M h0 hf r (pc + 1) K) : qk Ph M h0 hf r pc (qi_iast K) := by
  intro lv st h hi
  unfold qi_iast at hi
  split at hi
  · rename_i x i a st
    obtain ⟨n, f, hfs, hin, hi⟩ := at_i_spec hi
    have k1 := kk _ _ _ hi
    refine ⟨k1.1, fun p l e s m args below meth c D tc bs X g1 g2 H locs ls hW hS hl => ?_⟩
    obtain ⟨hx, hb, -, -, -, -, -, -, hK, -⟩ := id X
    obtain ⟨hba, hat⟩ := hW.2.2 a _ hfs
    refine W.iast hx hb (show H[a]? = some (vp_cell (tc 0) (n, .inl f)) from hat) ((hK.2 0 _ rfl).1 n (fun j => .int (f j))) (fun q => by cases q) (by show ¬ (i < 0 ∨ (arrV _ _ _).slots.size ≤ _); rw [arrV_size]; exact hin) rfl rfl hd fun H1 e1 z oq => ?_
    refine k1.2 p l e s m args below meth c D tc bs X g1 g2 H1 _ ls (hW.put hba z oq ?_) (hS.put z oq hba) hl
    show H1[a]? = some (vp_cell _ _)
    rw [e1]
    rw [vp_cell_i, vp_cell_i, arrV_store]
    congr 2
    funext q
    by_cases hq : q = i.toNatClampNeg
    · subst hq
      simp [updV, upd]
    · simp [updV, upd, hq]
  · exact hi.elim
def qi_zast (K : hc_K) : hc_L → List Value → hc_H → Prop
  | lv, .int x :: .int i :: .ref a :: st, h => at_i (h.1 a) 1 (fun n f => vp_in i n ∧ K lv st (hc_set h a (.inl (1, n, .inl (upd f i.toNatClampNeg (x &&& 1))))))
  | _, _, _ => False
theorem qs_bastore (hd : decode (mC M) pc = .ok (.bastore, 1)) (kk : qk Ph M h0 hf r (pc + 1) K) : qk Ph M h0 hf r pc (qi_zast K) := by
  intro lv st h hi
  unfold qi_zast at hi
  split at hi
  · rename_i x i a st
    obtain ⟨n, f, hfs, hin, hi⟩ := at_i_spec hi
    have k1 := kk _ _ _ hi
    refine ⟨k1.1, fun p l e s m args below meth c D tc bs X g1 g2 H locs ls hW hS hl => ?_⟩
    obtain ⟨hx, hb, -, -, -, -, -, -, hK, -⟩ := id X
    obtain ⟨hba, hat⟩ := hW.2.2 a _ hfs
    refine W.zast hx hb (show H[a]? = some (vp_cell (tc 1) (n, .inl f)) from hat) ((hK.2 1 _ rfl).1 n (fun j => .int (f j))) (fun q => by cases q) (by show ¬ (i < 0 ∨ (arrV _ _ _).slots.size ≤ _); rw [arrV_size]; exact hin) rfl rfl hd fun H1 e1 z oq => ?_
    refine k1.2 p l e s m args below meth c D tc bs X g1 g2 H1 _ ls (hW.put hba z oq ?_) (hS.put z oq hba) hl
    show H1[a]? = some (vp_cell _ _)
    rw [e1]
    rw [vp_cell_i, vp_cell_i, arrV_store]
    congr 2
    funext q
    by_cases hq : q = i.toNatClampNeg
    · subst hq
      simp [updV, upd, narrow]
    · simp [updV, upd, hq]
  · exact hi.elim
def qi_cast (K : hc_K) : hc_L → List Value → hc_H → Prop
  | lv, .int x :: .int i :: .ref a :: st, h => at_i (h.1 a) 3 (fun n f => vp_in i n ∧ K lv st (hc_set h a (.inl (3, n, .inl (upd f i.toNatClampNeg (vp_nar .char x))))))
  | _, _, _ => False
theorem qs_castore (hd : decode (mC M) pc = .ok (.castore, 1)) (kk : qk Ph M h0 hf r (pc + 1) K) : qk Ph M h0 hf r pc (qi_cast K) := by
  intro lv st h hi
  unfold qi_cast at hi
  split at hi
  · rename_i x i a st
    obtain ⟨n, f, hfs, hin, hi⟩ := at_i_spec hi
    have k1 := kk _ _ _ hi
    refine ⟨k1.1, fun p l e s m args below meth c D tc bs X g1 g2 H locs ls hW hS hl => ?_⟩
    obtain ⟨hx, hb, -, -, -, -, -, -, hK, -⟩ := id X
    obtain ⟨hba, hat⟩ := hW.2.2 a _ hfs
    refine W.cast hx hb (show H[a]? = some (vp_cell (tc 3) (n, .inl f)) from hat) ((hK.2 3 _ rfl).1 n (fun j => .int (f j))) (fun q => by cases q) (by show ¬ (i < 0 ∨ (arrV _ _ _).slots.size ≤ _); rw [arrV_size]; exact hin) rfl rfl hd fun H1 e1 z oq => ?_
    refine k1.2 p l e s m args below meth c D tc bs X g1 g2 H1 _ ls (hW.put hba z oq ?_) (hS.put z oq hba) hl
    show H1[a]? = some (vp_cell _ _)
    rw [e1]
    rw [vp_cell_i, vp_cell_i, arrV_store]
    congr 2
    funext q
    by_cases hq : q = i.toNatClampNeg
    · subst hq
      simp [updV, upd, vp_nar]
      try rfl
    · simp [updV, upd, hq]
  · exact hi.elim
def qi_last (K : hc_K) : hc_L → List Value → hc_H → Prop
  | lv, .long x :: .int i :: .ref a :: st, h => at_l (h.1 a) (fun n f => vp_in i n ∧ K lv st (hc_set h a (.inl (2, n, .inr (.inl (vp_updL f i.toNatClampNeg x))))))
  | _, _, _ => False
theorem qs_lastore (hd : decode (mC M) pc = .ok (.lastore, 1)) (kk : qk Ph M h0 hf r (pc + 1) K) : qk Ph M h0 hf r pc (qi_last K) := by
  intro lv st h hi
  unfold qi_last at hi
  split at hi
  · rename_i x i a st
    obtain ⟨n, f, hfs, hin, hi⟩ := at_l_spec hi
    have k1 := kk _ _ _ hi
    refine ⟨k1.1, fun p l e s m args below meth c D tc bs X g1 g2 H locs ls hW hS hl => ?_⟩
    obtain ⟨hx, hb, -, -, -, -, -, -, hK, -⟩ := id X
    obtain ⟨hba, hat⟩ := hW.2.2 a _ hfs
    refine W.last hx hb (show H[a]? = some (vp_cell (tc 2) (n, .inr (.inl f))) from hat) ((hK.2 2 _ rfl).1 n (fun j => .long (f j))) (fun q => by cases q) (by show ¬ (i < 0 ∨ (arrV _ _ _).slots.size ≤ _); rw [arrV_size]; exact hin) rfl rfl hd fun H1 e1 z oq => ?_
    refine k1.2 p l e s m args below meth c D tc bs X g1 g2 H1 _ ls (hW.put hba z oq ?_) (hS.put z oq hba) hl
    show H1[a]? = some (vp_cell _ _)
    rw [e1]
    rw [vp_cell_l, vp_cell_l, arrV_store]
    congr 2
    funext q
    by_cases hq : q = i.toNatClampNeg
    · subst hq
      simp [updV, vp_updL]
    · simp [updV, vp_updL, hq]
  · exact hi.elim
def qi_aast (K : hc_K) : hc_L → List Value → hc_H → Prop
  | lv, .ref v :: .int i :: .ref a :: st, h => at_o (h.1 v) 2 (fun _ => at_q (h.1 a) (fun n f => vp_in i n ∧ K lv st (hc_set h a (.inl (4, n, .inr (.inr (.inr (.inr (va_up f i.toNatClampNeg (some v))))))))))
  | _, _, _ => False
theorem qs_aastore (hd : decode (mC M) pc = .ok (.aastore, 1)) (kk : qk Ph M h0 hf r (pc + 1) K) : qk Ph M h0 hf r pc (qi_aast K) := by
  intro lv st h hi
  unfold qi_aast at hi
  split at hi
  · rename_i v i a st
    obtain ⟨fs, hv, hi⟩ := at_o_spec hi
    obtain ⟨n, f, hfs, hin, hi⟩ := at_q_spec hi
    have k1 := kk _ _ _ hi
    refine ⟨k1.1, fun p l e s m args below meth c D tc bs X g1 g2 H locs ls hW hS hl => ?_⟩
    obtain ⟨hx, hb, -, -, -, -, -, -, hK, -⟩ := id X
    obtain ⟨hba, hat⟩ := hW.2.2 a _ hfs
    have hlt : i.toNatClampNeg < n := Nat.not_le.mp fun q => hin (Or.inr q)
    have h0' : ¬ i < 0 := fun q => hin (Or.inl q)
    obtain ⟨-, r', hr', cellV, g1', g2', g3, -⟩ := hW.2.2 v _ hv
    have hr : r' = (RX2, TX2, 7) := Option.some.inj (hr'.symm.trans rfl)
    subst hr
    have hcls := (hK.1 2 _ rfl).2
    obtain ⟨kA, comp, k1', k2, k3, -⟩ := (hK.2 4 _ rfl).2
    have hcomp : comp = D.1 2 := Option.some.inj (k3.symm.trans hcls.1)
    subst hcomp
    obtain ⟨kC, hkC, -⟩ := hcls.2
    refine W.aast hx hb (show H[a]? = some (vp_cell (tc 4) (n, .inr (.inr (.inr (.inr f))))) from hat) (fun q h => by cases h) (fun h => by cases h) k1' k2 rfl hkC ⟨h0', by show _ < (arrV _ _ _).slots.size; rw [arrV_size]; exact hlt⟩ g1' (fun q h => by rw [g3] at h; cases h) (by rw [g2']; exact hkC) (by rw [g2']; exact va_assign hcls) rfl rfl hd fun H1 e1 z oq => ?_
    refine k1.2 p l e s m args below meth c D tc bs X g1 g2 H1 _ ls (hW.put hba z oq ?_) (hS.put z oq hba) hl
    show H1[a]? = some (vp_cell _ _)
    rw [e1]
    rw [vp_cell_q, vp_cell_q, arrV_store]
    congr 2
    funext q
    by_cases hq : q = i.toNatClampNeg
    · subst hq
      simp [updV, va_up, va_rf]
    · simp [updV, va_up, hq]
  · exact hi.elim
def qi_alen (K : hc_K) : hc_L → List Value → hc_H → Prop
  | lv, .ref a :: st, h => at_a (h.1 a) (fun n => K lv (.int (nI n) :: st) h)
  | _, _, _ => False
theorem qs_alen (hd : decode (mC M) pc = .ok (.arraylength, 1)) (kk : qk Ph M h0 hf r (pc + 1) K) : qk Ph M h0 hf r pc (qi_alen K) := by
  intro lv st h hi
  unfold qi_alen at hi
  split at hi
  · obtain ⟨k, x, hfs, hk, hi⟩ := at_a_spec hi
    have k1 := kk _ _ _ hi
    refine ⟨k1.1, fun p l e s m args below meth c D tc bs X g1 g2 H locs ls hW hS hl => ?_⟩
    obtain ⟨hx, hb, -, -, -, -, -, -, hK, -⟩ := id X
    have K1 := k1.2 p l e s m args below meth c D tc bs X g1 g2 H locs ls hW hS hl
    rcases (show k = 0 ∨ k = 1 ∨ k = 2 ∨ k = 3 ∨ k = 4 by omega) with rfl | rfl | rfl | rfl | rfl
    · exact va_alen hx hb hK (hW.get hfs) 0 0 rfl rfl rfl hd K1
    · exact va_alen hx hb hK (hW.get hfs) 0 1 rfl rfl rfl hd K1
    · exact va_alen hx hb hK (hW.get hfs) 0 2 rfl rfl rfl hd K1
    · exact va_alen hx hb hK (hW.get hfs) 0 3 rfl rfl rfl hd K1
    · exact va_alen hx hb hK (hW.get hfs) 0 4 rfl rfl rfl hd K1
  · exact hi.elim
end QH
end
section
/-! NEW CELLS, CALLS, ENDS, SWITCHES, ENTRIES. -/
section QC
variable {Ph Ph' : Nat → State → Prop} {M : hc_M} {h0 hf : hc_H} {r : Option Value} {pc : Nat} {K : hc_K}
def qi_new (ci N : Nat) (fs : List Value) (K : hc_K) (lv : hc_L) (st : List Value) (h : hc_H) : Prop := K lv (.ref h.2.1 :: st) (hc_new h (.inr (ci, fs)) N)
theorem qs_new {index ci N : Nat} {fs : List Value} {C : String} {T : u_T} (ty : Nat → FieldType) (hd : decode (mC M) pc = .ok (.new index, 3)) (hc : hc_cls[ci]? = some (C, T, N)) (hin : ∀ w ∈ u_ws C T N, w ∈ lw_g) (hty : ∀ k, k < N → parseFieldDescriptor (T k).2.2.1 = some (ty k)) (hl1 : Cond.classLink (mN M).cls index C ∈ lw_g) (hl2 : Cond.instantiable C N ∈ lw_g) (hl3 : Cond.initialized C ∈ lw_g) (hfs : ∀ j, j < N → defaultValue (ty j) = vp_V fs j) (kk : qk Ph M h0 hf r (pc + 3) K) : qk Ph M h0 hf r pc (qi_new ci N fs K) := by
  intro lv st h hi
  have k1 := kk _ _ _ hi
  have e1 : h.2.1 + 1 ≤ hf.2.1 := k1.1.1
  have e2 : h.2.2 + N ≤ hf.2.2 := k1.1.2
  refine ⟨⟨by omega, by omega⟩, fun p l e s m args below meth c D tc bs X g1 g2 H locs ls hW hS hl => ?_⟩
  obtain ⟨hx, hb, -, -, hts, hown, -, -, hK, -⟩ := id X
  have hin' : ∀ w ∈ u_ws C T N, w ∈ hc_ws M := fun w hw => List.mem_cons_of_mem _ (hin w hw)
  have hKn := hK.1 ci _ hc
  refine W.newcK hx hb hown (hts _ (List.mem_cons_of_mem _ hl1)) (hts _ (List.mem_cons_of_mem _ hl2)) (hts _ (List.mem_cons_of_mem _ hl3)) rfl hd (by show h.2.1 - h0.2.1 + 1 ≤ hf.2.1 - h0.2.1; omega) (by show h.2.2 - h0.2.2 + N ≤ hf.2.2 - h0.2.2; omega) hKn.2.1 rfl fun H1 kC hkC q1 z1 o1 => ?_
  have K1 := k1.2 p l e s m args below meth c D tc bs X (by show h0.2.1 ≤ h.2.1 + 1; omega) (by show h0.2.2 ≤ h.2.2 + N; omega) H1 locs ls (hW.push z1 o1 ⟨_, hc, (u_born ty hts hin' hKn hkC q1 hty).to hfs⟩) (hc_S.push hS z1 o1) hl
  rw [← hW.1] at K1
  have q2 : (hc_new h (.inr (ci, fs)) N).2.1 - h0.2.1 = h.2.1 - h0.2.1 + 1 := by show h.2.1 + 1 - h0.2.1 = _; omega
  have q3 : (hc_new h (.inr (ci, fs)) N).2.2 - h0.2.2 = h.2.2 - h0.2.2 + N := by show h.2.2 + N - h0.2.2 = _; omega
  rw [q2, q3] at K1
  exact K1
/-- a new array of ints, booleans, chars (kd 0, 1, 3), of longs (2) -/
def qi_newa (kd : Nat) (K : hc_K) : hc_L → List Value → hc_H → Prop
  | lv, .int n :: st, h => ¬ n < 0 ∧ n.toNatClampNeg ≤ 100000 ∧ K lv (.ref h.2.1 :: st) (hc_new h (.inl (kd, n.toNatClampNeg, if kd = 2 then .inr (.inl (fun _ => 0)) else .inl (fun _ => 0))) n.toNatClampNeg)
  | _, _, _ => False
theorem qs_newa {kd : Nat} {atype : ArrayType} (ty : FieldType) (hd : decode (mC M) pc = .ok (.newarray atype, 2)) (hty : newarray.typeOf atype = ty) (hT : ∀ tc, (hc_T tc)[kd]? = some (tc kd, ty)) (hl : Cond.arrayClass ty ∈ lw_g) (hro : ∀ (s : State) (cA : ClassId), va_RA s cA ty → s.vm.findClass ("[" ++ ty.toString) = some cA) (hce : ∀ (cA : ClassId) (n : Nat), vp_cell cA (n, if kd = 2 then .inr (.inl (fun _ => 0)) else .inl (fun _ => 0)) = arrV cA n (fun _ => defaultValue ty)) (hby : componentBytes ty ≤ 8) (kk : qk Ph M h0 hf r (pc + 2) K) : qk Ph M h0 hf r pc (qi_newa kd K) := by
  subst hty
  intro lv st h hi
  unfold qi_newa at hi
  split at hi
  · rename_i n st
    obtain ⟨hn, hN, hi⟩ := hi
    have k1 := kk _ _ _ hi
    have e1 : h.2.1 + 1 ≤ hf.2.1 := k1.1.1
    have e2 : h.2.2 + n.toNatClampNeg ≤ hf.2.2 := k1.1.2
    refine ⟨⟨by omega, by omega⟩, fun p l e s m args below meth c D tc bs X g1 g2 H locs ls hW hS hlv => ?_⟩
    obtain ⟨hx, hb, -, -, hts, hown, -, -, hK, -⟩ := id X
    refine va_newaK hx hb (hts _ (List.mem_cons_of_mem _ hl)) rfl hd rfl hn rfl (by have := Nat.mul_le_mul hN hby; omega) (by show h.2.1 - h0.2.1 + 1 ≤ hf.2.1 - h0.2.1; omega) (by show h.2.2 - h0.2.2 + n.toNatClampNeg ≤ hf.2.2 - h0.2.2; omega) rfl fun H1 cA q1 z1 o1 hAr hNm => ?_
    have hcA : cA = tc kd := Option.some.inj (hNm.symm.trans (hro s _ (hK.2 kd _ (hT tc)).2))
    subst hcA
    have K1 := k1.2 p l e s m args below meth c D tc bs X (by show h0.2.1 ≤ h.2.1 + 1; omega) (by show h0.2.2 ≤ h.2.2 + n.toNatClampNeg; omega) H1 locs ls (hW.push z1 o1 (show H1[H.size]? = some (vp_cell (tc kd) _) by rw [hce]; exact q1)) (hc_S.push hS z1 o1) hlv
    rw [← hW.1] at K1
    have q2 : ∀ x, (hc_new h x n.toNatClampNeg).2.1 - h0.2.1 = h.2.1 - h0.2.1 + 1 := fun x => by show h.2.1 + 1 - h0.2.1 = _; omega
    have q3 : ∀ x, (hc_new h x n.toNatClampNeg).2.2 - h0.2.2 = h.2.2 - h0.2.2 + n.toNatClampNeg := fun x => by show h.2.2 + n.toNatClampNeg - h0.2.2 = _; omega
    rw [q2, q3] at K1
    exact K1
  · exact hi.elim
/-- a new array of Plans -/
def qi_newq (K : hc_K) : hc_L → List Value → hc_H → Prop
  | lv, .int n :: st, h => ¬ n < 0 ∧ n.toNatClampNeg ≤ 100000 ∧ K lv (.ref h.2.1 :: st) (hc_new h (.inl (4, n.toNatClampNeg, .inr (.inr (.inr (.inr (fun _ => none)))))) n.toNatClampNeg)
  | _, _, _ => False
theorem qs_newq {index : Nat} (hd : decode (mC M) pc = .ok (.anewarray index, 3)) (hl1 : Cond.classLink (mN M).cls index "BalancedLine$Plan" ∈ lw_g) (kk : qk Ph M h0 hf r (pc + 3) K) : qk Ph M h0 hf r pc (qi_newq K) := by
  intro lv st h hi
  unfold qi_newq at hi
  split at hi
  · rename_i n st
    obtain ⟨hn, hN, hi⟩ := hi
    have k1 := kk _ _ _ hi
    have e1 : h.2.1 + 1 ≤ hf.2.1 := k1.1.1
    have e2 : h.2.2 + n.toNatClampNeg ≤ hf.2.2 := k1.1.2
    refine ⟨⟨by omega, by omega⟩, fun p l e s m args below meth c D tc bs X g1 g2 H locs ls hW hS hlv => ?_⟩
    obtain ⟨hx, hb, -, -, hts, hown, -, -, hK, hNw, -⟩ := id X
    refine W.anew hx hb hown (hts _ (List.mem_cons_of_mem _ hl1)) (va_AO.use hNw.2.2.2.2.2) rfl hd rfl hn (by omega) (by show h.2.1 - h0.2.1 + 1 ≤ hf.2.1 - h0.2.1; omega) (by show h.2.2 - h0.2.2 + n.toNatClampNeg ≤ hf.2.2 - h0.2.2; omega) fun cA kA comp f1 f2 f3 f4 => ?_
    generalize hH1 : H.push ({ cls := cA, slots := Array.replicate n.toNatClampNeg .null, vm := .none } : Cell) = H1
    have z1 : H1.size = H.size + 1 := by rw [← hH1, Array.size_push]
    have q1 : H1[H.size]? = some (arrV cA n.toNatClampNeg (fun _ => .null)) := by rw [← hH1, Array.getElem?_push_size, ← arrV_new]
    have o1 : ∀ q : Nat, q < H.size → H1[q]? = H[q]? := fun q hq => by rw [← hH1, Array.getElem?_push, if_neg (Nat.ne_of_lt hq)]
    obtain ⟨kA', comp', b1, b2, b3, b4⟩ := (hK.2 4 _ rfl).2
    have hcA : cA = tc 4 := by first | exact Option.some.inj (f4.symm.trans b4) | exact Option.some.inj (f1.symm.trans b4)
    subst hcA
    have K1 := k1.2 p l e s m args below meth c D tc bs X (by show h0.2.1 ≤ h.2.1 + 1; omega) (by show h0.2.2 ≤ h.2.2 + n.toNatClampNeg; omega) H1 locs ls (hW.push z1 o1 (show H1[H.size]? = some (vp_cell (tc 4) _) from q1)) (hc_S.push hS z1 o1) hlv
    rw [← hW.1] at K1
    have q2 : ∀ x, (hc_new h x n.toNatClampNeg).2.1 - h0.2.1 = h.2.1 - h0.2.1 + 1 := fun x => by show h.2.1 + 1 - h0.2.1 = _; omega
    have q3 : ∀ x, (hc_new h x n.toNatClampNeg).2.2 - h0.2.2 = h.2.2 - h0.2.2 + n.toNatClampNeg := fun x => by show h.2.2 + n.toNatClampNeg - h0.2.2 = _; omega
    rw [q2, q3] at K1
    exact K1
  · exact hi.elim
def shrt : List Value → Prop
  | [] => True
  | [_] => True
  | [_, _] => True
  | [_, _, _] => True
  | [_, _, _, _] => True
  | _ => False
theorem cat_le (v : Value) : v.category ≤ 2 := by cases v <;> simp [Value.category]
theorem shrt_sum {st : List Value} (h : shrt st) : (st.map fun v => v.category).sum ≤ 8 := by
  match st, h with
  | [], _ => simp
  | [a], _ => have := cat_le a; simp; omega
  | [a, b], _ => have := cat_le a; have := cat_le b; simp; omega
  | [a, b, c], _ => have := cat_le a; have := cat_le b; have := cat_le c; simp; omega
  | [a, b, c, d], _ => have := cat_le a; have := cat_le b; have := cat_le c; have := cat_le d; simp; omega
/-- Object's constructor -/
def qi_obj (K : hc_K) : hc_L → List Value → hc_H → Prop
  | lv, .ref _ :: st, h => shrt st ∧ K lv st h
  | _, _, _ => False
theorem qs_obj {index : Nat} (hd : decode (mC M) pc = .ok (.invokespecial index, 3)) (hl1 : Cond.methodLink (mN M).cls index Lib.objectInit ∈ lw_g) (hl2 : Cond.instanceMethod Lib.objectInit ∈ lw_g) (hl3 : Cond.code Lib.objectInit ⟨#[0xb1]⟩ 1 none ∈ lw_g) (hF : 1 ≤ mF M) (hO : 20 ≤ mO M) (kk : qk Ph M h0 hf r (pc + 3) K) : qk Ph M h0 hf r pc (qi_obj K) := by
  intro lv st h hi
  unfold qi_obj at hi
  split at hi
  · rename_i a st
    have k1 := kk _ _ _ hi.2
    refine ⟨k1.1, fun p l e s m args below meth c D tc bs X g1 g2 H locs ls hW hS hl => ?_⟩
    obtain ⟨hx, hb, -, hml, hts, hown, -⟩ := id X
    have hsum := shrt_sum hi.1
    refine W.objInit hx hb hown (hts _ (List.mem_cons_of_mem _ hl1)) (hts _ (List.mem_cons_of_mem _ hl2)) (hts _ (List.mem_cons_of_mem _ hl3)) rfl (by rw [hml]; exact hl.1) rfl hd hF (by have := lv_room (m := m) (pc := pc) (ls := ls) (rest := .ref a :: st) hsum; show 2 * (F0 m pc ls (.ref a :: st)).monitorRoom + _ + 12 ≤ mO M; omega) ?_
    exact k1.2 p l e s m args below meth c D tc bs X g1 g2 H locs ls hW hS hl
  · exact hi.elim
/-- calls -/
def rpush : Option Value → List Value → List Value
  | none, st => st
  | some v, st => v :: st
theorem rpush_eq (v : Option Value) (st : List Value) : rpush v st = v.toList ++ st := by cases v <;> rfl
def spl : Nat → List Value → List Value → (List Value → List Value → Prop) → Prop
  | 0, acc, st, P => P acc st
  | _ + 1, _, [], _ => False
  | n + 1, acc, v :: st, P => spl n (v :: acc) st P
theorem spl_spec : ∀ (n : Nat) (acc st : List Value) (P : List Value → List Value → Prop), spl n acc st P → ∃ as rest, as.length = n ∧ st = as.reverse ++ rest ∧ P (as ++ acc) rest := by
  intro n
  induction n with
  | zero => intro acc st P h; exact ⟨[], st, rfl, rfl, h⟩
  | succ n ih =>
    intro acc st P h
    cases st with
    | nil => exact h.elim
    | cons v st =>
      simp only [spl] at h
      obtain ⟨as, rest, h1, h2, h3⟩ := ih _ _ _ h
      exact ⟨as ++ [v], rest, by simp [h1], by simp [h2], by simpa using h3⟩
def hc_z (z : hc_M) (n : Nat) : Prop := Cond.code (mN z) (mC z) (mL z) (mR z) ∈ lw_g ∧ Cond.initialized (mN z).cls ∈ lw_g ∧ ((mN z).cls ≠ "java/lang/invoke/MethodHandle" ∧ (mN z).cls ≠ "java/lang/invoke/VarHandle" ∧ (parseMethodDescriptor (mN z).desc).map (fun d => d.parameters.length) = some n)
theorem lw_g_good : ∀ w ∈ lw_g, goodWord w = true := fun w hw => (List.mem_filter.mp hw).2
theorem hc_good {M z : hc_M} (hz : Cond.code (mN z) (mC z) (mL z) (mR z) ∈ lw_g) : GoodIn (hc_ws M) (hc_ws z) := by
  intro w hw
  have hw' : w ∈ lw_g := by
    rcases List.mem_cons.mp hw with rfl | h
    · exact hz
    · exact h
  exact ⟨List.mem_cons_of_mem _ hw', good_of_word (lw_g_good w hw')⟩
def hc_rm (M z : hc_M) : Prop := mF z + 1 ≤ mF M ∧ 8 + (mL z + 11) + mO z ≤ mO M
theorem cx.call {z : hc_M} {as rest st : List Value} {lv : hc_L} {h h' : hc_H} {r' : Option Value} (hP1 : hc_Ph Ph') (hP2 : ∀ bs U, Ph bs U → Ph' bs U) (hM : MX Ph' z as h r' h') (k1 : cx Ph M h0 hf r (pc + 3) lv (rpush r' rest) h')
    (f : ∀ (p : Program) (l : Launch) (e : Env) (s : State) (m : MethodId) (args : Array Value) (below : List Frame) (meth : Method) (c : Code) (D : va_G) (tc : Nat → ClassId) (bs : Nat), cf Ph M h0 hf p s m args meth c D tc bs → ∀ (H : Heap) (locs : List Loc) (ls : Array Slot) (cells slots : Nat), hc_W D tc bs h H → lvk ls (mL M) lv → PreS s H (va_Pc as (hc_U Ph' D tc bs h)) as → cells + (h'.2.1 - h.2.1) ≤ (hc_R M h0 hf).cells ∧ slots + (h'.2.2 - h.2.2) ≤ (hc_R M h0 hf).slots →
      va_Run p l e (hc_R M h0 hf) s m args below meth c H locs cells slots (h'.2.1 - h.2.1) (h'.2.2 - h.2.2) (F0 m pc ls st) rest (hc_Q D tc bs r' h' as.toArray) (hc_A bs)) : cx Ph M h0 hf r pc lv st h := by
  have a1 := hM.1.1
  have a2 := hM.1.2
  have a3 := k1.1.1
  have a4 := k1.1.2
  refine ⟨⟨by omega, by omega⟩, fun p l e s m args below meth c D tc bs X g1 g2 H locs ls hW hS hl => ?_⟩
  have hK : va_K D hc_cls (hc_T tc) s := X.2.2.2.2.2.2.2.2.1
  have hN : hc_N s := X.2.2.2.2.2.2.2.2.2.1
  have hbs : bs ≤ s.heap.size := X.2.2.2.2.2.2.2.2.2.2.1
  have hph : Ph bs s := X.2.2.2.2.2.2.2.2.2.2.2
  have hpre : PreS s H (va_Pc as (hc_U Ph' D tc bs h)) as := by
    refine ⟨fun a U g mk q => ?_, fun U hU hWm => ?_⟩
    · obtain ⟨q0, q1, q2, q3, q4⟩ := q
      exact ⟨q0, q1, va_K.moved (u := U) (U := U.calling g mk a) (Vm.Alike.refl U.vm) q2, hc_N.same (u := U) rfl q3, hP1.1 bs U _ rfl (fun _ _ => rfl) q4⟩
    · exact ⟨rfl, by rw [hU]; exact hW, va_K.moved hWm.alike hK, hN.warm hWm, hP1.2 bs s U hWm (fun q hq => by rw [hU]; exact hS.2.1 q (Nat.lt_of_lt_of_le hq hbs) (Nat.not_le.mpr hq)) (hP2 bs s hph)⟩
  have hr := f p l e s m args below meth c D tc bs X H locs ls (h.2.1 - h0.2.1) (h.2.2 - h0.2.2) hW hl hpre ⟨by show h.2.1 - h0.2.1 + (h'.2.1 - h.2.1) ≤ hf.2.1 - h0.2.1; omega, by show h.2.2 - h0.2.2 + (h'.2.2 - h.2.2) ≤ hf.2.2 - h0.2.2; omega⟩
  intro T hT XT
  obtain ⟨v, st₀, t, T', L, e0, X', hL, e1, e2, ⟨ov, hW', hF⟩, go⟩ := hr T hT XT
  cases ov
  have hS' : va_S (hc_A bs) s.heap T'.heap (locs ++ L) := by
    obtain ⟨f1, f2⟩ := hF
    rw [e0] at f1 f2
    refine ⟨Nat.le_trans hS.1 (by rw [e1]; exact f1), fun q b1 b2 => ?_, fun q hq => ?_⟩
    · rw [e1, f2 q (Nat.lt_of_lt_of_le b1 hS.1) b2]
      exact hS.2.1 q b1 b2
    · rcases List.mem_append.mp hq with z | z
      · exact hS.2.2 q z
      · exact hL q z
  have c1 : h.2.1 - h0.2.1 + (h'.2.1 - h.2.1) = h'.2.1 - h0.2.1 := by omega
  have c2 : h.2.2 - h0.2.2 + (h'.2.2 - h.2.2) = h'.2.2 - h0.2.2 := by omega
  rw [c1, c2] at X'
  obtain ⟨t2, b1, b2⟩ := k1.2 p l e s m args below meth c D tc bs X (by omega) (by omega) T'.heap (locs ++ L) ls (by rw [e1]; exact hW') hS' hl T' rfl X'
  rw [rpush_eq] at b1
  exact ⟨t2, go t2 b1, b2⟩
def qi_invS (Ph' : Nat → State → Prop) (z : hc_M) (n : Nat) (K : hc_K) (lv : hc_L) (st : List Value) (h : hc_H) : Prop := spl n [] st (fun as rest => shrt rest ∧ ∃ r' h', MX Ph' z as h r' h' ∧ K lv (rpush r' rest) h')
theorem qs_invS {z : hc_M} {n index : Nat} (hP1 : hc_Ph Ph') (hP2 : ∀ bs U, Ph bs U → Ph' bs U) (hd : decode (mC M) pc = .ok (.invokestatic index, 3)) (hz : hc_z z n) (hl : Cond.methodLink (mN M).cls index (mN z) ∈ lw_g) (hs : Cond.static (mN z) ∈ lw_g) (hR : hc_rm M z) (kk : qk Ph M h0 hf r (pc + 3) K) : qk Ph M h0 hf r pc (qi_invS Ph' z n K) := by
  intro lv st h hi
  obtain ⟨as, rest, hn, rfl, hsh, r', h', hM, hi⟩ := spl_spec _ _ _ _ hi
  rw [List.append_nil] at hM
  refine cx.call hP1 hP2 hM (kk _ _ _ hi) (fun p l e s m args below meth c D tc bs X H locs ls cells slots hW hlv hpre hroom => ?_)
  obtain ⟨hx, hb, -, hml, hts, hown, -⟩ := id X
  exact va_runS (As := as) (rest := rest) ⟨hx, hb, hml, hown, hts⟩ (hM.2 l D tc bs) ⟨callB_of n hts (hc_good hz.1) rfl rfl rfl (hts _ (List.mem_cons_of_mem _ hz.2.1)) (hts _ (List.mem_cons_of_mem _ hl)) hz.2.2 hR, hts _ (List.mem_cons_of_mem _ hs)⟩ hpre rfl hn hlv.1 rfl (lv_room (shrt_sum hsh)) hd hroom
theorem qs_invSN {z : hc_M} {n index : Nat} {host : String} (hP1 : hc_Ph Ph') (hP2 : ∀ bs U, Ph bs U → Ph' bs U) (hd : decode (mC M) pc = .ok (.invokestatic index, 3)) (hz : hc_z z n) (hl : ∀ U, hc_N U → va_Nw (.methodLinkNest (mN M).cls index (mN z) host) U) (hs : Cond.static (mN z) ∈ lw_g) (hR : hc_rm M z) (kk : qk Ph M h0 hf r (pc + 3) K) : qk Ph M h0 hf r pc (qi_invS Ph' z n K) := by
  intro lv st h hi
  obtain ⟨as, rest, hn, rfl, hsh, r', h', hM, hi⟩ := spl_spec _ _ _ _ hi
  rw [List.append_nil] at hM
  refine cx.call hP1 hP2 hM (kk _ _ _ hi) (fun p l e s m args below meth c D tc bs X H locs ls cells slots hW hlv hpre hroom => ?_)
  obtain ⟨hx, hb, -, hml, hts, hown, -, -, -, hN, -⟩ := id X
  exact va_runSN (As := as) (rest := rest) ⟨hx, hb, hml, hown, hts⟩ (hM.2 l D tc bs) ⟨va_cnB n hts (hc_good hz.1) rfl rfl rfl (hl s hN) (hts _ (List.mem_cons_of_mem _ hz.2.1)) hz.2.2 hR, hts _ (List.mem_cons_of_mem _ hs), trivial⟩ hpre rfl hn hlv.1 rfl (lv_room (shrt_sum hsh)) hd hroom
/-- an instance method of class number ci, with n arguments beside the object -/
def qi_invV (Ph' : Nat → State → Prop) (z : hc_M) (n ci : Nat) (K : hc_K) (lv : hc_L) (st : List Value) (h : hc_H) : Prop := spl n [] st (fun as rest => match rest with
  | .ref b :: rest => at_o (h.1 b) ci (fun _ => True) ∧ shrt rest ∧ ∃ r' h', MX Ph' z (.ref b :: as) h r' h' ∧ K lv (rpush r' rest) h'
  | _ => False)
theorem qs_invV {z : hc_M} {n index ci : Nat} (hP1 : hc_Ph Ph') (hP2 : ∀ bs U, Ph bs U → Ph' bs U) (hd : decode (mC M) pc = .ok (.invokevirtual index, 3)) (hz : hc_z z n) (hl : Cond.methodLink (mN M).cls index (mN z) ∈ lw_g) (hs : Cond.instanceMethod (mN z) ∈ lw_g ∧ Cond.selects (mN z).cls (mN z) (mN z) ∈ lw_g) (hc : ∃ q, hc_cls[ci]? = some q ∧ q.1 = (mN z).cls) (hR : hc_rm M z) (kk : qk Ph M h0 hf r (pc + 3) K) : qk Ph M h0 hf r pc (qi_invV Ph' z n ci K) := by
  intro lv st h hi
  obtain ⟨as, rest, hn, e0, hj⟩ := spl_spec _ _ _ _ hi
  clear hi
  subst e0
  rw [List.append_nil] at hj
  split at hj
  · rename_i b rest
    obtain ⟨hob, hsh, r', h', hM, hi⟩ := hj
    obtain ⟨fs, hfs, -⟩ := at_o_spec hob
    obtain ⟨q, hq, hqn⟩ := hc
    refine cx.call hP1 hP2 hM (kk _ _ _ hi) (fun p l e s m args below meth c D tc bs X H locs ls cells slots hW hlv hpre hroom => ?_)
    obtain ⟨hx, hb, -, hml, hts, hown, -, -, hK, -⟩ := id X
    exact va_runV (As := as) (rest := rest) (C := (mN z).cls) ⟨hx, hb, hml, hown, hts⟩ (hM.2 l D tc bs) ⟨callB_of n hts (hc_good hz.1) rfl rfl rfl (hts _ (List.mem_cons_of_mem _ hz.2.1)) (hts _ (List.mem_cons_of_mem _ hl)) hz.2.2 hR, hts _ (List.mem_cons_of_mem _ hs.1), hts _ (List.mem_cons_of_mem _ hs.2)⟩ ⟨hpre.1, by rw [← hqn]; exact va_recv hK (hW.get hfs) hq (q0 := 0) rfl, hpre.2⟩ rfl hn hlv.1 rfl (lv_room (shrt_sum hsh)) hd hroom
  · exact hj.elim
/-- a constructor -/
def qi_invI (Ph' : Nat → State → Prop) (z : hc_M) (n : Nat) (K : hc_K) (lv : hc_L) (st : List Value) (h : hc_H) : Prop := spl n [] st (fun as rest => match rest with
  | .ref b :: rest => shrt rest ∧ ∃ r' h', MX Ph' z (.ref b :: as) h r' h' ∧ K lv (rpush r' rest) h'
  | _ => False)
theorem qs_invI {z : hc_M} {n index : Nat} (hP1 : hc_Ph Ph') (hP2 : ∀ bs U, Ph bs U → Ph' bs U) (hd : decode (mC M) pc = .ok (.invokespecial index, 3)) (hz : hc_z z n) (hl : Cond.methodLink (mN M).cls index (mN z) ∈ lw_g) (hs : Cond.instanceMethod (mN z) ∈ lw_g) (hi1 : (mN z).name = "<init>") (hr : mR z = none) (hR : hc_rm M z) (kk : qk Ph M h0 hf r (pc + 3) K) : qk Ph M h0 hf r pc (qi_invI Ph' z n K) := by
  intro lv st h hi
  obtain ⟨as, rest, hn, e0, hj⟩ := spl_spec _ _ _ _ hi
  clear hi
  subst e0
  rw [List.append_nil] at hj
  split at hj
  · rename_i b rest
    obtain ⟨hsh, r', h', hM, hi⟩ := hj
    refine cx.call hP1 hP2 hM (kk _ _ _ hi) (fun p l e s m args below meth c D tc bs X H locs ls cells slots hW hlv hpre hroom => ?_)
    obtain ⟨hx, hb, -, hml, hts, hown, -⟩ := id X
    exact va_runI (As := as) (rest := rest) (bytes := mC z) (maxL := mL z) ⟨hx, hb, hml, hown, hts⟩ (hM.2 l D tc bs) ⟨by rw [← hr]; exact callB_of n hts (hc_good hz.1) rfl rfl rfl (hts _ (List.mem_cons_of_mem _ hz.2.1)) (hts _ (List.mem_cons_of_mem _ hl)) hz.2.2 hR, hi1, hts _ (List.mem_cons_of_mem _ hs)⟩ hpre rfl hn hlv.1 rfl (lv_room (shrt_sum hsh)) hd hroom
  · exact hj.elim
theorem qs_invIN {z : hc_M} {n index : Nat} {host : String} (hP1 : hc_Ph Ph') (hP2 : ∀ bs U, Ph bs U → Ph' bs U) (hd : decode (mC M) pc = .ok (.invokespecial index, 3)) (hz : hc_z z n) (hl : ∀ U, hc_N U → va_Nw (.methodLinkNest (mN M).cls index (mN z) host) U) (hs : Cond.instanceMethod (mN z) ∈ lw_g) (hi1 : (mN z).name = "<init>") (hr : mR z = none) (hR : hc_rm M z) (kk : qk Ph M h0 hf r (pc + 3) K) : qk Ph M h0 hf r pc (qi_invI Ph' z n K) := by
  intro lv st h hi
  obtain ⟨as, rest, hn, e0, hj⟩ := spl_spec _ _ _ _ hi
  clear hi
  subst e0
  rw [List.append_nil] at hj
  split at hj
  · rename_i b rest
    obtain ⟨hsh, r', h', hM, hi⟩ := hj
    refine cx.call hP1 hP2 hM (kk _ _ _ hi) (fun p l e s m args below meth c D tc bs X H locs ls cells slots hW hlv hpre hroom => ?_)
    obtain ⟨hx, hb, -, hml, hts, hown, -, -, -, hN, -⟩ := id X
    exact va_runIN (As := as) (rest := rest) (bytes := mC z) (maxL := mL z) ⟨hx, hb, hml, hown, hts⟩ (hM.2 l D tc bs) ⟨by rw [← hr]; exact va_cnB n hts (hc_good hz.1) rfl rfl rfl (hl s hN) (hts _ (List.mem_cons_of_mem _ hz.2.1)) hz.2.2 hR, hi1, hts _ (List.mem_cons_of_mem _ hs)⟩ hpre rfl hn hlv.1 rfl (lv_room (shrt_sum hsh)) hd hroom
  · exact hj.elim
/-- ends -/
def qi_iret (r : Option Value) (hf : hc_H) : hc_L → List Value → hc_H → Prop
  | _, [.int v], h => r = some (.int v) ∧ hf = h
  | _, _, _ => False
def qi_zret (r : Option Value) (hf : hc_H) : hc_L → List Value → hc_H → Prop
  | _, [.int v], h => (v = 0 ∨ v = 1) ∧ r = some (.int v) ∧ hf = h
  | _, _, _ => False
def qi_lret (r : Option Value) (hf : hc_H) : hc_L → List Value → hc_H → Prop
  | _, [.long v], h => r = some (.long v) ∧ hf = h
  | _, _, _ => False
def qi_vret (r : Option Value) (hf : hc_H) : hc_L → List Value → hc_H → Prop
  | _, [], h => r = none ∧ hf = h
  | _, _, _ => False
theorem qs_iret (hd : decode (mC M) pc = .ok (.ireturn, 1)) (hr : mR M = some .int) : qk Ph M h0 hf r pc (qi_iret r hf) := by
  intro lv st h hi
  unfold qi_iret at hi
  split at hi
  · obtain ⟨rfl, rfl⟩ := hi
    refine ⟨⟨Nat.le_refl _, Nat.le_refl _⟩, fun p l e s m args below meth c D tc bs X g1 g2 H locs ls hW hS hl => ?_⟩
    obtain ⟨hx, hb, hrt, hml, hts, hown, hlocks, -⟩ := id X
    exact W.iret hx hb (hrt.trans hr) (fun t ht hWm => ⟨rfl, by rw [ht]; exact hW, hS.F ht⟩) hS.2.2 hd
  · exact hi.elim
theorem qs_zret (hd : decode (mC M) pc = .ok (.ireturn, 1)) (hr : mR M = some .boolean) : qk Ph M h0 hf r pc (qi_zret r hf) := by
  intro lv st h hi
  unfold qi_zret at hi
  split at hi
  · obtain ⟨hv, rfl, rfl⟩ := hi
    refine ⟨⟨Nat.le_refl _, Nat.le_refl _⟩, fun p l e s m args below meth c D tc bs X g1 g2 H locs ls hW hS hl => ?_⟩
    obtain ⟨hx, hb, hrt, hml, hts, hown, hlocks, -⟩ := id X
    exact W.zret hx hb (hrt.trans hr) (by rcases hv with rfl | rfl <;> rfl) (fun t ht hWm => ⟨rfl, by rw [ht]; exact hW, hS.F ht⟩) hS.2.2 hd
  · exact hi.elim
theorem qs_lret (hd : decode (mC M) pc = .ok (.lreturn, 1)) (hr : mR M = some .long) : qk Ph M h0 hf r pc (qi_lret r hf) := by
  intro lv st h hi
  unfold qi_lret at hi
  split at hi
  · obtain ⟨rfl, rfl⟩ := hi
    refine ⟨⟨Nat.le_refl _, Nat.le_refl _⟩, fun p l e s m args below meth c D tc bs X g1 g2 H locs ls hW hS hl => ?_⟩
    obtain ⟨hx, hb, hrt, hml, hts, hown, hlocks, -⟩ := id X
    exact W.lret hx hb (hrt.trans hr) (fun t ht hWm => ⟨rfl, by rw [ht]; exact hW, hS.F ht⟩) hS.2.2 hd
  · exact hi.elim
theorem qs_vret (hd : decode (mC M) pc = .ok (.return_, 1)) (hr : mR M = none) : qk Ph M h0 hf r pc (qi_vret r hf) := by
  intro lv st h hi
  unfold qi_vret at hi
  split at hi
  · obtain ⟨rfl, rfl⟩ := hi
    refine ⟨⟨Nat.le_refl _, Nat.le_refl _⟩, fun p l e s m args below meth c D tc bs X g1 g2 H locs ls hW hS hl => ?_⟩
    obtain ⟨hx, hb, hrt, hml, hts, hown, hlocks, -⟩ := id X
    exact W.vret hx hb (hrt.trans hr) (fun t ht hWm => ⟨rfl, by rw [ht]; exact hW, hS.F ht⟩) hS.2.2 hd
  · exact hi.elim
/-- the entry -/
def elv : List Value → hc_L
  | [] => []
  | .long x :: t => some (.long x) :: none :: elv t
  | .double x :: t => some (.double x) :: none :: elv t
  | v :: t => some v :: elv t
theorem elv_args : ∀ (vs : List Value) (k i : Nat) (v : Value), lget (elv vs) i = some v → (k + i, v) ∈ lv_args k vs := by
  intro vs
  induction vs with
  | nil => intro k i v h; simp [elv, lget] at h
  | cons w t ih =>
    intro k i v h
    cases w <;> (match i, h with
      | 0, h => first
        | (simp only [elv, lget, Option.some.injEq] at h; subst h; simp [lv_args])
      | i + 1, h => first
        | (simp only [elv, lget] at h
           have := ih (k + 1) i v h
           simp only [lv_args, Value.category]
           refine List.mem_cons_of_mem _ ?_
           first | (rw [show k + (i + 1) = k + 1 + i by omega]; exact this) | (simp at this ⊢; rw [show k + (i + 1) = k + 1 + i by omega]; exact this))
        | (cases i with
           | zero => simp [elv, lget] at h
           | succ i =>
             simp only [elv, lget] at h
             have := ih (k + 2) i v h
             simp only [lv_args, Value.category]
             refine List.mem_cons_of_mem _ ?_
             first | (rw [show k + (i + 1 + 1) = k + 2 + i by omega]; exact this) | (simp at this ⊢; rw [show k + (i + 1 + 1) = k + 2 + i by omega]; exact this)))
theorem lget_app {lv : hc_L} {k i : Nat} {v : Value} (h : lget (lv ++ List.replicate k none) i = some v) : lget lv i = some v := by
  induction lv generalizing i with
  | nil =>
    exfalso
    induction k generalizing i with
    | zero => simp [lget] at h
    | succ k ih => cases i with
      | zero => simp [lget, List.replicate] at h
      | succ i => simp only [List.nil_append, List.replicate, lget] at h; exact ih (by simpa using h)
  | cons a t ih => cases i with
    | zero => simpa [lget] using h
    | succ i => simp only [List.cons_append, lget] at h ⊢; exact ih h
theorem MX.of {as : List Value} {h : hc_H} {lv : hc_L} (k : Nat) (hlv : lv = elv as ++ List.replicate k none) (hpl : plainName (mN M).cls = true) (hsl : (lg_sl as).length ≤ mL M) (kx : cx Ph M h hf r 0 lv [] h) : MX Ph M as h r hf := by
  refine ⟨kx.1, fun l D tc bs => ?_⟩
  refine Met.ofW (cc := mC M) (maxL := mL M) (ret := mR M) hpl rfl ?_
  intro p e s m args below meth c s₁ B hml hv
  obtain ⟨rfl, hW, hK, hN, hph⟩ := hv
  have hts := atoms_spec (ws := hc_ws M) B.pre
  have hown : s.vm.findClass (mN M).cls = some m.cls := findClass_of_methodNamed B.named
  have hnam : meth.name = (mN M).name := (name_of_methodNamed B.named B.method).1
  have hl := lv_entry as hsl
  rw [lg_entry_eq]
  have K := kx.2 p l e s m as.toArray below meth c D tc bs ⟨B.exec, B.bytes, B.returns, hml, hts, hown, B.notSynchronized, hnam, hK, hN, by rw [hW.1]; exact hW.2.1, hph⟩ (Nat.le_refl _) (Nat.le_refl _) s.heap [] _ hW va_S.rf ⟨hl.1, hl.2.1, fun i v hi => hl.2.2 (i, v) (by rw [hlv] at hi; have := elv_args as 0 i v (lget_app hi); rwa [Nat.zero_add] at this)⟩
  rw [Nat.sub_self, Nat.sub_self] at K
  exact K
end QC
end
section
/-! SWITCHES, arraycopy. -/
section QW
variable {Ph : Nat → State → Prop} {M : hc_M} {h0 hf : hc_H} {r : Option Value} {pc : Nat} {K : hc_K}
def swok (Ph : Nat → State → Prop) (M : hc_M) (h0 hf : hc_H) (r : Option Value) (pc : Nat) : Int → List Int → List (Int32 × hc_K) → Prop
  | _, [], [] => True
  | lo, off :: os, (v, K) :: ks => v.toInt = lo ∧ (∃ tgt : Nat, (pc : Int) + off = (tgt : Int) ∧ qk Ph M h0 hf r tgt K) ∧ swok Ph M h0 hf r pc (lo + 1) os ks
  | _, _, _ => False
theorem swok_nth : ∀ (os : List Int) (ks : List (Int32 × hc_K)) (lo : Int) (i : Nat) (v : Int32) (K : hc_K), swok Ph M h0 hf r pc lo os ks → ks[i]? = some (v, K) → v.toInt = lo + i ∧ ∃ (off : Int) (tgt : Nat), os[i]? = some off ∧ (pc : Int) + off = (tgt : Int) ∧ qk Ph M h0 hf r tgt K := by
  intro os
  induction os with
  | nil => intro ks lo i v K h hk; cases ks with
    | nil => simp at hk
    | cons a t => exact h.elim
  | cons off os ih =>
    intro ks lo i v K h hk
    cases ks with
    | nil => exact h.elim
    | cons a t =>
      obtain ⟨v0, K0⟩ := a
      obtain ⟨h1, ⟨tgt, h2, h3⟩, h4⟩ := h
      cases i with
      | zero => cases hk; exact ⟨by rw [h1]; simp, off, tgt, rfl, h2, h3⟩
      | succ i =>
        have hk' : t[i]? = some (v, K) := by simpa using hk
        obtain ⟨q1, off', tgt', q2, q3, q4⟩ := ih t (lo + 1) i v K h4 hk'
        exact ⟨by rw [q1]; push_cast; omega, off', tgt', by simpa using q2, q3, q4⟩
theorem swok_len : ∀ (os : List Int) (ks : List (Int32 × hc_K)) (lo : Int), swok Ph M h0 hf r pc lo os ks → os.length = ks.length := by
  intro os
  induction os with
  | nil => intro ks lo h; cases ks with
    | nil => rfl
    | cons a t => exact h.elim
  | cons off os ih => intro ks lo h; cases ks with
    | nil => exact h.elim
    | cons a t => obtain ⟨v0, K0⟩ := a; simp [ih t _ h.2.2]
theorem qi_sw_spec : ∀ (ks : List (Int32 × hc_K)) (Kd : hc_K) (lv : hc_L) (st : List Value) (h : hc_H), qi_sw Kd ks lv st h → ∃ (x : Int32) (st' : List Value), st = .int x :: st' ∧ ((∃ (i : Nat) (K : hc_K), ks[i]? = some (x, K) ∧ K lv st' h) ∨ ((∀ (i : Nat) (v : Int32) (K : hc_K), ks[i]? = some (v, K) → x ≠ v) ∧ Kd lv st' h)) := by
  intro ks
  induction ks with
  | nil =>
    intro Kd lv st h hi
    match st, hi with
    | .int x :: st, hi => exact ⟨x, st, rfl, Or.inr ⟨fun i v K h => by simp at h, by simpa [qi_sw] using hi⟩⟩
  | cons a t ih =>
    intro Kd lv st h hi
    obtain ⟨v, K⟩ := a
    match st, hi with
    | .int x :: st, hi =>
      simp only [qi_sw] at hi
      by_cases hx : x = v
      · exact ⟨x, st, rfl, Or.inl ⟨0, K, by rw [hx]; rfl, hi.1 hx⟩⟩
      · obtain ⟨x', st', e, h1⟩ := ih Kd lv _ h (hi.2 hx)
        cases e
        refine ⟨x, st, rfl, ?_⟩
        rcases h1 with ⟨i, K', h2, h3⟩ | ⟨h2, h3⟩
        · exact Or.inl ⟨i + 1, K', by simpa using h2, h3⟩
        · refine Or.inr ⟨fun i v' K' hk => ?_, h3⟩
          cases i with
          | zero => cases hk; exact hx
          | succ i => exact h2 i v' K' (by simpa using hk)
theorem qs_table {dflt lo hi : Int} {offs : Array Int} {os : List Int} {len tgt : Nat} {ks : List (Int32 × hc_K)} {Kd : hc_K} (hd : decode (mC M) pc = .ok (.tableswitch dflt lo hi offs, len)) (hos : offs.toList = os) (hhi : hi + 1 = lo + (os.length : Int)) (hs : swok Ph M h0 hf r pc lo os ks) (ht : (pc : Int) + dflt = (tgt : Int)) (kd : qk Ph M h0 hf r tgt Kd) : qk Ph M h0 hf r pc (qi_sw Kd ks) := by
  intro lv st h hi0
  obtain ⟨x, st', rfl, h1⟩ := qi_sw_spec ks Kd lv st h hi0
  have hlen := swok_len os ks lo hs
  rcases h1 with ⟨i, K, h2, h3⟩ | ⟨h2, h3⟩
  · obtain ⟨q1, off, tg, q2, q3, q4⟩ := swok_nth os ks lo i x K hs h2
    have hil : i < os.length := (List.getElem?_eq_some_iff.mp q2).1
    refine (q4 lv st' h h3).step (fun p l e R s m args below meth c H locs cells slots Q ls hx hb hts hown hl kk => lv_tableIn (off := off) hx hb hd (by rw [q1]; omega) (by rw [q1]; omega) ?_ q3 (kk ls hl))
    rw [q1, show (lo + (i : Int) - lo).toNat = i by omega, ← Array.getElem?_toList, hos]
    exact q2
  · refine (kd lv st' h h3).step (fun p l e R s m args below meth c H locs cells slots Q ls hx hb hts hown hl kk => lv_tableOut hx hb hd ?_ ht (kk ls hl))
    by_cases g1 : x.toInt < lo
    · exact Or.inl g1
    · refine Or.inr ?_
      refine Int.not_le.mp (fun g2 => ?_)
      have hi' : (x.toInt - lo).toNat < ks.length := by omega
      obtain ⟨vK, hg⟩ : ∃ vK, ks[(x.toInt - lo).toNat]? = some vK := ⟨_, List.getElem?_eq_getElem hi'⟩
      obtain ⟨v, K⟩ := vK
      obtain ⟨q1, -⟩ := swok_nth os ks lo _ v K hs hg
      exact h2 _ v K hg (Int32.toInt_inj.mp (by rw [q1]; omega))
def luok (Ph : Nat → State → Prop) (M : hc_M) (h0 hf : hc_H) (r : Option Value) (pc : Nat) : List (Int × Int) → List (Int32 × hc_K) → Prop
  | [], [] => True
  | (a, off) :: os, (v, K) :: ks => v.toInt = a ∧ (∃ tgt : Nat, (pc : Int) + off = (tgt : Int) ∧ qk Ph M h0 hf r tgt K) ∧ luok Ph M h0 hf r pc os ks
  | _, _ => False
theorem luok_in : ∀ (os : List (Int × Int)) (ks : List (Int32 × hc_K)) (d : Int) (x : Int32) (tgt : Nat) (Kd : hc_K) (lv : hc_L) (st : List Value) (h : hc_H), luok Ph M h0 hf r pc os ks → (pc : Int) + d = (tgt : Int) → qk Ph M h0 hf r tgt Kd → qi_sw Kd ks lv (.int x :: st) h → ∃ (off : Int) (tg : Nat), Op.lookupswitch.offset os d x.toInt = off ∧ (pc : Int) + off = (tg : Int) ∧ cx Ph M h0 hf r tg lv st h := by
  intro os
  induction os with
  | nil =>
    intro ks d x tgt Kd lv st h hs hd kd hi
    cases ks with
    | nil => exact ⟨d, tgt, by first | rfl | simp [Op.lookupswitch.offset], hd, kd _ _ _ (by simpa [qi_sw] using hi)⟩
    | cons a t => exact hs.elim
  | cons a os ih =>
    intro ks d x tgt Kd lv st h hs hd kd hi
    obtain ⟨a, off⟩ := a
    cases ks with
    | nil => exact hs.elim
    | cons b t =>
      obtain ⟨v, K⟩ := b
      obtain ⟨h1, ⟨tg, h2, h3⟩, h4⟩ := hs
      simp only [qi_sw] at hi
      by_cases hx : x = v
      · refine ⟨off, tg, ?_, h2, h3 _ _ _ (hi.1 hx)⟩
        rw [Op.lookupswitch.offset_cons, if_pos (by rw [hx]; exact h1.symm)]
      · obtain ⟨off', tg', q1, q2, q3⟩ := ih t d x tgt Kd lv st h h4 hd kd (hi.2 hx)
        exact ⟨off', tg', by rw [lv_osw hx h1]; exact q1, q2, q3⟩
theorem qs_lookup {dflt : Int} {ps : Array (Int × Int)} {os : List (Int × Int)} {len tgt : Nat} {ks : List (Int32 × hc_K)} {Kd : hc_K} (hd : decode (mC M) pc = .ok (.lookupswitch dflt ps, len)) (hos : ps.toList = os) (hp : (ps.toList.zip (ps.toList.drop 1)).all (fun (a, next) => a.1 < next.1) = true) (hs : luok Ph M h0 hf r pc os ks) (ht : (pc : Int) + dflt = (tgt : Int)) (kd : qk Ph M h0 hf r tgt Kd) : qk Ph M h0 hf r pc (qi_sw Kd ks) := by
  intro lv st h hi
  obtain ⟨x, st', rfl, -⟩ := qi_sw_spec ks Kd lv st h hi
  obtain ⟨off, tg, q1, q2, q3⟩ := luok_in os ks dflt x tgt Kd lv st' h hs ht kd hi
  exact q3.step (fun p l e R s m args below meth c H locs cells slots Q ls hx hb hts hown hl kk => lv_lookup (off := off) hx hb hd hp (by rw [hos]; exact q1) q2 (kk ls hl))
/-- System.arraycopy over ints -/
def qi_acopy (K : hc_K) : hc_L → List Value → hc_H → Prop
  | lv, .int n :: .int dp :: .ref a :: .int sp :: .ref a0 :: st, h => shrt st ∧ at_i (h.1 a0) 0 (fun n0 f => at_i (h.1 a) 0 (fun n1 g => (¬ sp < 0 ∧ ¬ dp < 0 ∧ ¬ n < 0 ∧ sp.toNatClampNeg + n.toNatClampNeg ≤ n0 ∧ dp.toNatClampNeg + n.toNatClampNeg ≤ n1) ∧ K lv st (hc_set h a (.inl (0, n1, .inl (va_cpy f g sp.toNatClampNeg dp.toNatClampNeg n.toNatClampNeg))))))
  | _, _, _ => False
theorem qs_acopy {index : Nat} (hd : decode (mC M) pc = .ok (.invokestatic index, 3)) (hl1 : Cond.methodLink (mN M).cls index arraycopyName ∈ lw_g) (hl2 : Cond.native arraycopyName ∈ lw_g) (hl3 : Cond.static arraycopyName ∈ lw_g) (hl4 : Cond.initialized "java/lang/System" ∈ lw_g) (hF : 1 ≤ mF M) (hO : 26 ≤ mO M) (kk : qk Ph M h0 hf r (pc + 3) K) : qk Ph M h0 hf r pc (qi_acopy K) := by
  intro lv st h hi
  unfold qi_acopy at hi
  split at hi
  · rename_i n dp a sp a0 rest
    obtain ⟨hsh, hi⟩ := hi
    obtain ⟨n0, f, hf0, hi⟩ := at_i_spec hi
    obtain ⟨n1, g, hg0, ⟨h1, h2, h3, h4, h5⟩, hi⟩ := at_i_spec hi
    have k1 := kk _ _ _ hi
    refine ⟨k1.1, fun p l e s m args below meth c D tc bs X g1 g2 H locs ls hW hS hl => ?_⟩
    obtain ⟨hx, hb, -, hml, hts, hown, -, -, hK, -⟩ := id X
    have nn : ∀ z : Int32, ¬ z < 0 → z.toInt = (z.toNatClampNeg : Int) := by
      intro z hz
      have hz0 : (0 : Int) ≤ z.toInt := by
        have := Int32.not_lt.mp hz
        simpa using Int32.le_iff_toInt_le.mp this
      show z.toInt = ((z.toInt.toNat : Nat) : Int)
      omega
    intro T hT XT
    have hc0 : H[a0]? = some (vp_cell (tc 0) (n0, .inl f)) := (hW.2.2 a0 _ hf0).2
    obtain ⟨hba, hc1⟩ : bs ≤ a ∧ H[a]? = some (vp_cell (tc 0) (n1, .inl g)) := hW.2.2 a _ hg0
    obtain ⟨-, k0, hk0, cm0, hkk0⟩ := (hK.2 0 _ rfl).1 n0 (fun j => .int (f j))
    obtain ⟨-, k1', hk1, cm1, hkk1⟩ := (hK.2 0 _ rfl).1 n1 (fun j => .int (g j))
    have hsum := shrt_sum hsh
    have hnat : nativeFrameWords "java/lang/System" "arraycopy" 5 = 7 := by decide +kernel
    obtain ⟨vm', X', step⟩ := XT.arraycopy hx hown (hts _ (List.mem_cons_of_mem _ hl1)) (hts _ (List.mem_cons_of_mem _ hl2)) (hts _ (List.mem_cons_of_mem _ hl3)) (hts _ (List.mem_cons_of_mem _ hl4)) (src := a0) (dst := a) (cs := vp_cell (tc 0) (n0, .inl f)) (cd := vp_cell (tc 0) (n1, .inl g)) (srcPos := sp) (destPos := dp) (n := n) (by rw [hT]; exact hc0) (by rw [hT]; exact hc1)
      (fun _ h => by cases h) (fun _ h => by cases h) (fun h => by cases h) (fun h => by cases h) hk0 hk1 hkk0 hkk1 (by simp [refKind]) h1 h2 h3
      (by rw [nn sp h1, nn n h3]; show ¬ _ > ((arrV (tc 0) n0 (fun j => .int (f j))).slots.size : Int); rw [arrV_size]; omega)
      (by rw [nn dp h2, nn n h3]; show ¬ _ > ((arrV (tc 0) n1 (fun j => .int (g j))).slots.size : Int); rw [arrV_size]; omega)
      (fun vm₁ _ i hi => by
        have e : (vp_cell (tc 0) (n0, .inl f)).slots.getD (sp.toNatClampNeg + i) .null = .int (f (sp.toNatClampNeg + i)) := by
          show (arrV (tc 0) n0 (fun j => .int (f j))).slots.getD _ _ = _
          rw [Array.getD_eq_getD_getElem?, arrV_read _ _ (by omega)]
          rfl
        refine ⟨?_, ?_⟩
        · rw [e]
          rfl
        · rw [e]
          exact trivial)
      (g := F0 m pc ls (.int n :: .int dp :: .ref a :: .int sp :: .ref a0 :: rest)) rfl (by rw [hml]; exact hl.1) (rest := rest) rfl (by rw [hb]; exact hd) hF (by show 2 * 0 + _ + (nativeFrameWords "java/lang/System" "arraycopy" 5 + 11) ≤ mO M; omega)
    have e1 : copied (vp_cell (tc 0) (n0, .inl f)) (vp_cell (tc 0) (n1, .inl g)) sp dp n = vp_cell (tc 0) (n1, .inl (va_cpy f g sp.toNatClampNeg dp.toNatClampNeg n.toNatClampNeg)) := va_copied (fun z => .int z) (tc 0) (tc 0) f g h4
    rw [e1] at X' step
    have hla : a < H.size := (Array.getElem?_eq_some_iff.mp hc1).1
    have hheap : ((T.setVm vm').setCell a (vp_cell (tc 0) (n1, .inl (va_cpy f g sp.toNatClampNeg dp.toNatClampNeg n.toNatClampNeg)))).heap = H.setIfInBounds a (vp_cell (tc 0) (n1, .inl (va_cpy f g sp.toNatClampNeg dp.toNatClampNeg n.toNatClampNeg))) := by rw [← hT]; rfl
    have oq : ∀ q : Nat, q ≠ a → (H.setIfInBounds a (vp_cell (tc 0) (n1, .inl (va_cpy f g sp.toNatClampNeg dp.toNatClampNeg n.toNatClampNeg))))[q]? = H[q]? := fun q hq => by simp [Array.getElem?_setIfInBounds, Ne.symm hq]
    obtain ⟨t, b1, b2⟩ := k1.2 p l e s m args below meth c D tc bs X g1 g2 _ _ ls (hW.put hba (by simp) oq (show (H.setIfInBounds a _)[a]? = some _ by simp [Array.getElem?_setIfInBounds, hla])) ⟨by simp; exact hS.1, fun q g1 g2 => by
        rw [oq q (fun e => g2 (by rw [e]; exact hba))]
        exact hS.2.1 q g1 g2, fun q hq => by
        rcases List.mem_append.mp hq with h | h
        · exact hS.2.2 q h
        · obtain ⟨z, -, hz⟩ := List.mem_map.mp h
          rw [← hz]
          exact hba⟩ hl _ hheap X'
    exact ⟨t, step t b1, b2⟩
  · exact hi.elim
end QW
end
